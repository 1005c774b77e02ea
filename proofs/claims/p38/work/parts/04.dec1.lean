theorem dX0_init_0 : decode cX0_init 0 = .ok (.aload_n 0, 1) := by decide +kernel
theorem dX0_init_1 : decode cX0_init 1 = .ok (.invokespecial 3, 3) := by decide +kernel
theorem dX0_init_4 : decode cX0_init 4 = .ok (.aload_n 0, 1) := by decide +kernel
theorem dX0_init_5 : decode cX0_init 5 = .ok (.bipush 10, 2) := by decide +kernel
theorem dX0_init_7 : decode cX0_init 7 = .ok (.newarray .int, 2) := by decide +kernel
theorem dX0_init_9 : decode cX0_init 9 = .ok (.putfield 9, 3) := by decide +kernel
theorem dX0_init_12 : decode cX0_init 12 = .ok (.aload_n 0, 1) := by decide +kernel
theorem dX0_init_13 : decode cX0_init 13 = .ok (.bipush 10, 2) := by decide +kernel
theorem dX0_init_15 : decode cX0_init 15 = .ok (.newarray .int, 2) := by decide +kernel
theorem dX0_init_17 : decode cX0_init 17 = .ok (.putfield 15, 3) := by decide +kernel
theorem dX0_init_20 : decode cX0_init 20 = .ok (.aload_n 0, 1) := by decide +kernel
theorem dX0_init_21 : decode cX0_init 21 = .ok (.iconst 3, 1) := by decide +kernel
theorem dX0_init_22 : decode cX0_init 22 = .ok (.bipush 24, 2) := by decide +kernel
theorem dX0_init_24 : decode cX0_init 24 = .ok (.multianewarray 18 2, 4) := by decide +kernel
theorem dX0_init_28 : decode cX0_init 28 = .ok (.putfield 20, 3) := by decide +kernel
theorem dX0_init_31 : decode cX0_init 31 = .ok (.aload_n 0, 1) := by decide +kernel
theorem dX0_init_32 : decode cX0_init 32 = .ok (.bipush 10, 2) := by decide +kernel
theorem dX0_init_34 : decode cX0_init 34 = .ok (.bipush 10, 2) := by decide +kernel
theorem dX0_init_36 : decode cX0_init 36 = .ok (.multianewarray 18 2, 4) := by decide +kernel
theorem dX0_init_40 : decode cX0_init 40 = .ok (.putfield 23, 3) := by decide +kernel
theorem dX0_init_43 : decode cX0_init 43 = .ok (.aload_n 0, 1) := by decide +kernel
theorem dX0_init_44 : decode cX0_init 44 = .ok (.bipush 10, 2) := by decide +kernel
theorem dX0_init_46 : decode cX0_init 46 = .ok (.bipush 10, 2) := by decide +kernel
theorem dX0_init_48 : decode cX0_init 48 = .ok (.multianewarray 18 2, 4) := by decide +kernel
theorem dX0_init_52 : decode cX0_init 52 = .ok (.putfield 26, 3) := by decide +kernel
theorem dX0_init_55 : decode cX0_init 55 = .ok (.return_, 1) := by decide +kernel
theorem dX0_hasRoom_0 : decode cX0_hasRoom 0 = .ok (.iload_n 1, 1) := by decide +kernel
theorem dX0_hasRoom_1 : decode cX0_hasRoom 1 = .ok (.ifCond .lt 15, 3) := by decide +kernel
theorem dX0_hasRoom_4 : decode cX0_hasRoom 4 = .ok (.iload_n 1, 1) := by decide +kernel
theorem dX0_hasRoom_5 : decode cX0_hasRoom 5 = .ok (.aload_n 0, 1) := by decide +kernel
theorem dX0_hasRoom_6 : decode cX0_hasRoom 6 = .ok (.getfield 29, 3) := by decide +kernel
theorem dX0_hasRoom_9 : decode cX0_hasRoom 9 = .ok (.if_icmp .ge 7, 3) := by decide +kernel
theorem dX0_hasRoom_12 : decode cX0_hasRoom 12 = .ok (.iconst 1, 1) := by decide +kernel
theorem dX0_hasRoom_13 : decode cX0_hasRoom 13 = .ok (.goto 4, 3) := by decide +kernel
theorem dX0_hasRoom_16 : decode cX0_hasRoom 16 = .ok (.iconst 0, 1) := by decide +kernel
theorem dX0_hasRoom_17 : decode cX0_hasRoom 17 = .ok (.ireturn, 1) := by decide +kernel
theorem dX0_arePair_0 : decode cX0_arePair 0 = .ok (.aload_n 0, 1) := by decide +kernel
theorem dX0_arePair_1 : decode cX0_arePair 1 = .ok (.iload_n 1, 1) := by decide +kernel
theorem dX0_arePair_2 : decode cX0_arePair 2 = .ok (.invokevirtual 33, 3) := by decide +kernel
theorem dX0_arePair_5 : decode cX0_arePair 5 = .ok (.ifCond .eq 20, 3) := by decide +kernel
theorem dX0_arePair_8 : decode cX0_arePair 8 = .ok (.aload_n 0, 1) := by decide +kernel
theorem dX0_arePair_9 : decode cX0_arePair 9 = .ok (.iload_n 2, 1) := by decide +kernel
theorem dX0_arePair_10 : decode cX0_arePair 10 = .ok (.invokevirtual 33, 3) := by decide +kernel
theorem dX0_arePair_13 : decode cX0_arePair 13 = .ok (.ifCond .eq 12, 3) := by decide +kernel
theorem dX0_arePair_16 : decode cX0_arePair 16 = .ok (.iload_n 1, 1) := by decide +kernel
theorem dX0_arePair_17 : decode cX0_arePair 17 = .ok (.iload_n 2, 1) := by decide +kernel
theorem dX0_arePair_18 : decode cX0_arePair 18 = .ok (.if_icmp .eq 7, 3) := by decide +kernel
theorem dX0_arePair_21 : decode cX0_arePair 21 = .ok (.iconst 1, 1) := by decide +kernel
theorem dX0_arePair_22 : decode cX0_arePair 22 = .ok (.goto 4, 3) := by decide +kernel
theorem dX0_arePair_25 : decode cX0_arePair 25 = .ok (.iconst 0, 1) := by decide +kernel
theorem dX0_arePair_26 : decode cX0_arePair 26 = .ok (.ireturn, 1) := by decide +kernel
theorem dX0_doorKind_0 : decode cX0_doorKind 0 = .ok (.aload_n 0, 1) := by decide +kernel
theorem dX0_doorKind_1 : decode cX0_doorKind 1 = .ok (.getfield 9, 3) := by decide +kernel
theorem dX0_doorKind_4 : decode cX0_doorKind 4 = .ok (.iload_n 1, 1) := by decide +kernel
theorem dX0_doorKind_5 : decode cX0_doorKind 5 = .ok (.iaload, 1) := by decide +kernel
theorem dX0_doorKind_6 : decode cX0_doorKind 6 = .ok (.iload_n 2, 1) := by decide +kernel
theorem dX0_doorKind_7 : decode cX0_doorKind 7 = .ok (.ishr, 1) := by decide +kernel
theorem dX0_doorKind_8 : decode cX0_doorKind 8 = .ok (.iconst 1, 1) := by decide +kernel
theorem dX0_doorKind_9 : decode cX0_doorKind 9 = .ok (.iand, 1) := by decide +kernel
theorem dX0_doorKind_10 : decode cX0_doorKind 10 = .ok (.ifCond .eq 5, 3) := by decide +kernel
theorem dX0_doorKind_13 : decode cX0_doorKind 13 = .ok (.iconst 0, 1) := by decide +kernel
theorem dX0_doorKind_14 : decode cX0_doorKind 14 = .ok (.ireturn, 1) := by decide +kernel
theorem dX0_doorKind_15 : decode cX0_doorKind 15 = .ok (.aload_n 0, 1) := by decide +kernel
theorem dX0_doorKind_16 : decode cX0_doorKind 16 = .ok (.getfield 15, 3) := by decide +kernel
theorem dX0_doorKind_19 : decode cX0_doorKind 19 = .ok (.iload_n 1, 1) := by decide +kernel
theorem dX0_doorKind_20 : decode cX0_doorKind 20 = .ok (.iaload, 1) := by decide +kernel
theorem dX0_doorKind_21 : decode cX0_doorKind 21 = .ok (.iload_n 2, 1) := by decide +kernel
theorem dX0_doorKind_22 : decode cX0_doorKind 22 = .ok (.ishr, 1) := by decide +kernel
theorem dX0_doorKind_23 : decode cX0_doorKind 23 = .ok (.iconst 1, 1) := by decide +kernel
theorem dX0_doorKind_24 : decode cX0_doorKind 24 = .ok (.iand, 1) := by decide +kernel
theorem dX0_doorKind_25 : decode cX0_doorKind 25 = .ok (.ifCond .eq 7, 3) := by decide +kernel
theorem dX0_doorKind_28 : decode cX0_doorKind 28 = .ok (.iconst 1, 1) := by decide +kernel
theorem dX0_doorKind_29 : decode cX0_doorKind 29 = .ok (.goto 4, 3) := by decide +kernel
theorem dX0_doorKind_32 : decode cX0_doorKind 32 = .ok (.iconst (-1), 1) := by decide +kernel
theorem dX0_doorKind_33 : decode cX0_doorKind 33 = .ok (.ireturn, 1) := by decide +kernel
theorem dX0_putDoor_0 : decode cX0_putDoor 0 = .ok (.iload_n 3, 1) := by decide +kernel
theorem dX0_putDoor_1 : decode cX0_putDoor 1 = .ok (.ifCond .ne 10, 3) := by decide +kernel
theorem dX0_putDoor_4 : decode cX0_putDoor 4 = .ok (.aload_n 0, 1) := by decide +kernel
theorem dX0_putDoor_5 : decode cX0_putDoor 5 = .ok (.getfield 9, 3) := by decide +kernel
theorem dX0_putDoor_8 : decode cX0_putDoor 8 = .ok (.goto 7, 3) := by decide +kernel
theorem dX0_putDoor_11 : decode cX0_putDoor 11 = .ok (.aload_n 0, 1) := by decide +kernel
theorem dX0_putDoor_12 : decode cX0_putDoor 12 = .ok (.getfield 15, 3) := by decide +kernel
theorem dX0_putDoor_15 : decode cX0_putDoor 15 = .ok (.astore 4, 2) := by decide +kernel
theorem dX0_putDoor_17 : decode cX0_putDoor 17 = .ok (.aload 4, 2) := by decide +kernel
theorem dX0_putDoor_19 : decode cX0_putDoor 19 = .ok (.iload_n 1, 1) := by decide +kernel
theorem dX0_putDoor_20 : decode cX0_putDoor 20 = .ok (.dup2, 1) := by decide +kernel
theorem dX0_putDoor_21 : decode cX0_putDoor 21 = .ok (.iaload, 1) := by decide +kernel
theorem dX0_putDoor_22 : decode cX0_putDoor 22 = .ok (.iconst 1, 1) := by decide +kernel
theorem dX0_putDoor_23 : decode cX0_putDoor 23 = .ok (.iload_n 2, 1) := by decide +kernel
theorem dX0_putDoor_24 : decode cX0_putDoor 24 = .ok (.ishl, 1) := by decide +kernel
theorem dX0_putDoor_25 : decode cX0_putDoor 25 = .ok (.ior, 1) := by decide +kernel
theorem dX0_putDoor_26 : decode cX0_putDoor 26 = .ok (.iastore, 1) := by decide +kernel
theorem dX0_putDoor_27 : decode cX0_putDoor 27 = .ok (.aload 4, 2) := by decide +kernel
theorem dX0_putDoor_29 : decode cX0_putDoor 29 = .ok (.iload_n 2, 1) := by decide +kernel
theorem dX0_putDoor_30 : decode cX0_putDoor 30 = .ok (.dup2, 1) := by decide +kernel
theorem dX0_putDoor_31 : decode cX0_putDoor 31 = .ok (.iaload, 1) := by decide +kernel
theorem dX0_putDoor_32 : decode cX0_putDoor 32 = .ok (.iconst 1, 1) := by decide +kernel
theorem dX0_putDoor_33 : decode cX0_putDoor 33 = .ok (.iload_n 1, 1) := by decide +kernel
theorem dX0_putDoor_34 : decode cX0_putDoor 34 = .ok (.ishl, 1) := by decide +kernel
theorem dX0_putDoor_35 : decode cX0_putDoor 35 = .ok (.ior, 1) := by decide +kernel
theorem dX0_putDoor_36 : decode cX0_putDoor 36 = .ok (.iastore, 1) := by decide +kernel
theorem dX0_putDoor_37 : decode cX0_putDoor 37 = .ok (.aload_n 0, 1) := by decide +kernel
theorem dX0_putDoor_38 : decode cX0_putDoor 38 = .ok (.dup, 1) := by decide +kernel
theorem dX0_putDoor_39 : decode cX0_putDoor 39 = .ok (.getfield 37, 3) := by decide +kernel
theorem dX0_putDoor_42 : decode cX0_putDoor 42 = .ok (.iconst 1, 1) := by decide +kernel
theorem dX0_putDoor_43 : decode cX0_putDoor 43 = .ok (.iadd, 1) := by decide +kernel
theorem dX0_putDoor_44 : decode cX0_putDoor 44 = .ok (.putfield 37, 3) := by decide +kernel
theorem dX0_putDoor_47 : decode cX0_putDoor 47 = .ok (.return_, 1) := by decide +kernel
theorem dX0_around_0 : decode cX0_around 0 = .ok (.iconst 1, 1) := by decide +kernel
theorem dX0_around_1 : decode cX0_around 1 = .ok (.iload_n 1, 1) := by decide +kernel
theorem dX0_around_2 : decode cX0_around 2 = .ok (.ishl, 1) := by decide +kernel
theorem dX0_around_3 : decode cX0_around 3 = .ok (.aload_n 0, 1) := by decide +kernel
theorem dX0_around_4 : decode cX0_around 4 = .ok (.getfield 9, 3) := by decide +kernel
theorem dX0_around_7 : decode cX0_around 7 = .ok (.iload_n 1, 1) := by decide +kernel
theorem dX0_around_8 : decode cX0_around 8 = .ok (.iaload, 1) := by decide +kernel
theorem dX0_around_9 : decode cX0_around 9 = .ok (.ior, 1) := by decide +kernel
theorem dX0_around_10 : decode cX0_around 10 = .ok (.istore_n 3, 1) := by decide +kernel
theorem dX0_around_11 : decode cX0_around 11 = .ok (.iload_n 2, 1) := by decide +kernel
theorem dX0_around_12 : decode cX0_around 12 = .ok (.ifCond .eq 14, 3) := by decide +kernel
theorem dX0_around_15 : decode cX0_around 15 = .ok (.iload_n 3, 1) := by decide +kernel
theorem dX0_around_16 : decode cX0_around 16 = .ok (.aload_n 0, 1) := by decide +kernel
theorem dX0_around_17 : decode cX0_around 17 = .ok (.getfield 15, 3) := by decide +kernel
theorem dX0_around_20 : decode cX0_around 20 = .ok (.iload_n 1, 1) := by decide +kernel
theorem dX0_around_21 : decode cX0_around 21 = .ok (.iaload, 1) := by decide +kernel
theorem dX0_around_22 : decode cX0_around 22 = .ok (.ior, 1) := by decide +kernel
theorem dX0_around_23 : decode cX0_around 23 = .ok (.goto 4, 3) := by decide +kernel
theorem dX0_around_26 : decode cX0_around 26 = .ok (.iload_n 3, 1) := by decide +kernel
theorem dX0_around_27 : decode cX0_around 27 = .ok (.ireturn, 1) := by decide +kernel
theorem dX0_measure_0 : decode cX0_measure 0 = .ok (.iconst 0, 1) := by decide +kernel
theorem dX0_measure_1 : decode cX0_measure 1 = .ok (.istore_n 1, 1) := by decide +kernel
theorem dX0_measure_2 : decode cX0_measure 2 = .ok (.iload_n 1, 1) := by decide +kernel
theorem dX0_measure_3 : decode cX0_measure 3 = .ok (.aload_n 0, 1) := by decide +kernel
theorem dX0_measure_4 : decode cX0_measure 4 = .ok (.getfield 29, 3) := by decide +kernel
theorem dX0_measure_7 : decode cX0_measure 7 = .ok (.if_icmp .ge 33, 3) := by decide +kernel
theorem dX0_measure_10 : decode cX0_measure 10 = .ok (.aload_n 0, 1) := by decide +kernel
theorem dX0_measure_11 : decode cX0_measure 11 = .ok (.iload_n 1, 1) := by decide +kernel
theorem dX0_measure_12 : decode cX0_measure 12 = .ok (.iconst 0, 1) := by decide +kernel
theorem dX0_measure_13 : decode cX0_measure 13 = .ok (.aload_n 0, 1) := by decide +kernel
theorem dX0_measure_14 : decode cX0_measure 14 = .ok (.getfield 23, 3) := by decide +kernel
theorem dX0_measure_17 : decode cX0_measure 17 = .ok (.iload_n 1, 1) := by decide +kernel
theorem dX0_measure_18 : decode cX0_measure 18 = .ok (.aaload, 1) := by decide +kernel
theorem dX0_measure_19 : decode cX0_measure 19 = .ok (.invokevirtual 43, 3) := by decide +kernel
theorem dX0_measure_22 : decode cX0_measure 22 = .ok (.aload_n 0, 1) := by decide +kernel
theorem dX0_measure_23 : decode cX0_measure 23 = .ok (.iload_n 1, 1) := by decide +kernel
theorem dX0_measure_24 : decode cX0_measure 24 = .ok (.iconst 1, 1) := by decide +kernel
theorem dX0_measure_25 : decode cX0_measure 25 = .ok (.aload_n 0, 1) := by decide +kernel
theorem dX0_measure_26 : decode cX0_measure 26 = .ok (.getfield 26, 3) := by decide +kernel
theorem dX0_measure_29 : decode cX0_measure 29 = .ok (.iload_n 1, 1) := by decide +kernel
theorem dX0_measure_30 : decode cX0_measure 30 = .ok (.aaload, 1) := by decide +kernel
theorem dX0_measure_31 : decode cX0_measure 31 = .ok (.invokevirtual 43, 3) := by decide +kernel
theorem dX0_measure_34 : decode cX0_measure 34 = .ok (.iinc 1 1, 3) := by decide +kernel
theorem dX0_measure_37 : decode cX0_measure 37 = .ok (.goto (-35), 3) := by decide +kernel
theorem dX0_measure_40 : decode cX0_measure 40 = .ok (.return_, 1) := by decide +kernel
theorem dX0_measureFrom_0 : decode cX0_measureFrom 0 = .ok (.aload_n 3, 1) := by decide +kernel
theorem dX0_measureFrom_1 : decode cX0_measureFrom 1 = .ok (.bipush 24, 2) := by decide +kernel
theorem dX0_measureFrom_3 : decode cX0_measureFrom 3 = .ok (.invokestatic 47, 3) := by decide +kernel
theorem dX0_measureFrom_6 : decode cX0_measureFrom 6 = .ok (.iconst 0, 1) := by decide +kernel
theorem dX0_measureFrom_7 : decode cX0_measureFrom 7 = .ok (.istore 4, 2) := by decide +kernel
theorem dX0_measureFrom_9 : decode cX0_measureFrom 9 = .ok (.iconst 1, 1) := by decide +kernel
theorem dX0_measureFrom_10 : decode cX0_measureFrom 10 = .ok (.iload_n 1, 1) := by decide +kernel
theorem dX0_measureFrom_11 : decode cX0_measureFrom 11 = .ok (.ishl, 1) := by decide +kernel
theorem dX0_measureFrom_12 : decode cX0_measureFrom 12 = .ok (.istore 5, 2) := by decide +kernel
theorem dX0_measureFrom_14 : decode cX0_measureFrom 14 = .ok (.iconst 0, 1) := by decide +kernel
theorem dX0_measureFrom_15 : decode cX0_measureFrom 15 = .ok (.istore 6, 2) := by decide +kernel
theorem dX0_measureFrom_17 : decode cX0_measureFrom 17 = .ok (.iload 6, 2) := by decide +kernel
theorem dX0_measureFrom_19 : decode cX0_measureFrom 19 = .ok (.bipush 10, 2) := by decide +kernel
theorem dX0_measureFrom_21 : decode cX0_measureFrom 21 = .ok (.if_icmp .ge 79, 3) := by decide +kernel
theorem dX0_measureFrom_24 : decode cX0_measureFrom 24 = .ok (.iload 5, 2) := by decide +kernel
theorem dX0_measureFrom_26 : decode cX0_measureFrom 26 = .ok (.ifCond .eq 74, 3) := by decide +kernel
theorem dX0_measureFrom_29 : decode cX0_measureFrom 29 = .ok (.iconst 0, 1) := by decide +kernel
theorem dX0_measureFrom_30 : decode cX0_measureFrom 30 = .ok (.istore 7, 2) := by decide +kernel
theorem dX0_measureFrom_32 : decode cX0_measureFrom 32 = .ok (.iconst 0, 1) := by decide +kernel
theorem dX0_measureFrom_33 : decode cX0_measureFrom 33 = .ok (.istore 8, 2) := by decide +kernel
theorem dX0_measureFrom_35 : decode cX0_measureFrom 35 = .ok (.iload 8, 2) := by decide +kernel
theorem dX0_measureFrom_37 : decode cX0_measureFrom 37 = .ok (.aload_n 0, 1) := by decide +kernel
theorem dX0_measureFrom_38 : decode cX0_measureFrom 38 = .ok (.getfield 29, 3) := by decide +kernel
theorem dX0_measureFrom_41 : decode cX0_measureFrom 41 = .ok (.if_icmp .ge 37, 3) := by decide +kernel
theorem dX0_measureFrom_44 : decode cX0_measureFrom 44 = .ok (.iload 5, 2) := by decide +kernel
theorem dX0_measureFrom_46 : decode cX0_measureFrom 46 = .ok (.iload 8, 2) := by decide +kernel
theorem dX0_measureFrom_48 : decode cX0_measureFrom 48 = .ok (.ishr, 1) := by decide +kernel
theorem dX0_measureFrom_49 : decode cX0_measureFrom 49 = .ok (.iconst 1, 1) := by decide +kernel
theorem dX0_measureFrom_50 : decode cX0_measureFrom 50 = .ok (.iand, 1) := by decide +kernel
theorem dX0_measureFrom_51 : decode cX0_measureFrom 51 = .ok (.ifCond .eq 21, 3) := by decide +kernel
theorem dX0_measureFrom_54 : decode cX0_measureFrom 54 = .ok (.aload_n 3, 1) := by decide +kernel
theorem dX0_measureFrom_55 : decode cX0_measureFrom 55 = .ok (.iload 8, 2) := by decide +kernel
theorem dX0_measureFrom_57 : decode cX0_measureFrom 57 = .ok (.iload 6, 2) := by decide +kernel
theorem dX0_measureFrom_59 : decode cX0_measureFrom 59 = .ok (.iastore, 1) := by decide +kernel
theorem dX0_measureFrom_60 : decode cX0_measureFrom 60 = .ok (.iload 7, 2) := by decide +kernel
theorem dX0_measureFrom_62 : decode cX0_measureFrom 62 = .ok (.aload_n 0, 1) := by decide +kernel
theorem dX0_measureFrom_63 : decode cX0_measureFrom 63 = .ok (.iload 8, 2) := by decide +kernel
theorem dX0_measureFrom_65 : decode cX0_measureFrom 65 = .ok (.iload_n 2, 1) := by decide +kernel
theorem dX0_measureFrom_66 : decode cX0_measureFrom 66 = .ok (.invokevirtual 53, 3) := by decide +kernel
theorem dX0_measureFrom_69 : decode cX0_measureFrom 69 = .ok (.ior, 1) := by decide +kernel
theorem dX0_measureFrom_70 : decode cX0_measureFrom 70 = .ok (.istore 7, 2) := by decide +kernel
theorem dX0_measureFrom_72 : decode cX0_measureFrom 72 = .ok (.iinc 8 1, 3) := by decide +kernel
theorem dX0_measureFrom_75 : decode cX0_measureFrom 75 = .ok (.goto (-40), 3) := by decide +kernel
theorem dX0_measureFrom_78 : decode cX0_measureFrom 78 = .ok (.iload 4, 2) := by decide +kernel
theorem dX0_measureFrom_80 : decode cX0_measureFrom 80 = .ok (.iload 5, 2) := by decide +kernel
theorem dX0_measureFrom_82 : decode cX0_measureFrom 82 = .ok (.ior, 1) := by decide +kernel
theorem dX0_measureFrom_83 : decode cX0_measureFrom 83 = .ok (.istore 4, 2) := by decide +kernel
theorem dX0_measureFrom_85 : decode cX0_measureFrom 85 = .ok (.iload 7, 2) := by decide +kernel
theorem dX0_measureFrom_87 : decode cX0_measureFrom 87 = .ok (.iload 4, 2) := by decide +kernel
theorem dX0_measureFrom_89 : decode cX0_measureFrom 89 = .ok (.iconst (-1), 1) := by decide +kernel
theorem dX0_measureFrom_90 : decode cX0_measureFrom 90 = .ok (.ixor, 1) := by decide +kernel
theorem dX0_measureFrom_91 : decode cX0_measureFrom 91 = .ok (.iand, 1) := by decide +kernel
theorem dX0_measureFrom_92 : decode cX0_measureFrom 92 = .ok (.istore 5, 2) := by decide +kernel
theorem dX0_measureFrom_94 : decode cX0_measureFrom 94 = .ok (.iinc 6 1, 3) := by decide +kernel
theorem dX0_measureFrom_97 : decode cX0_measureFrom 97 = .ok (.goto (-80), 3) := by decide +kernel
theorem dX0_measureFrom_100 : decode cX0_measureFrom 100 = .ok (.return_, 1) := by decide +kernel
theorem dX0_become_0 : decode cX0_become 0 = .ok (.aload_n 0, 1) := by decide +kernel
theorem dX0_become_1 : decode cX0_become 1 = .ok (.aload_n 1, 1) := by decide +kernel
theorem dX0_become_2 : decode cX0_become 2 = .ok (.getfield 29, 3) := by decide +kernel
theorem dX0_become_5 : decode cX0_become 5 = .ok (.putfield 29, 3) := by decide +kernel
theorem dX0_become_8 : decode cX0_become 8 = .ok (.aload_n 0, 1) := by decide +kernel
theorem dX0_become_9 : decode cX0_become 9 = .ok (.aload_n 1, 1) := by decide +kernel
theorem dX0_become_10 : decode cX0_become 10 = .ok (.getfield 37, 3) := by decide +kernel
theorem dX0_become_13 : decode cX0_become 13 = .ok (.putfield 37, 3) := by decide +kernel
theorem dX0_become_16 : decode cX0_become 16 = .ok (.aload_n 0, 1) := by decide +kernel
theorem dX0_become_17 : decode cX0_become 17 = .ok (.aload_n 1, 1) := by decide +kernel
theorem dX0_become_18 : decode cX0_become 18 = .ok (.getfield 40, 3) := by decide +kernel
theorem dX0_become_21 : decode cX0_become 21 = .ok (.putfield 40, 3) := by decide +kernel
theorem dX0_become_24 : decode cX0_become 24 = .ok (.aload_n 1, 1) := by decide +kernel
theorem dX0_become_25 : decode cX0_become 25 = .ok (.getfield 9, 3) := by decide +kernel
theorem dX0_become_28 : decode cX0_become 28 = .ok (.iconst 0, 1) := by decide +kernel
theorem dX0_become_29 : decode cX0_become 29 = .ok (.aload_n 0, 1) := by decide +kernel
theorem dX0_become_30 : decode cX0_become 30 = .ok (.getfield 9, 3) := by decide +kernel
theorem dX0_become_33 : decode cX0_become 33 = .ok (.iconst 0, 1) := by decide +kernel
theorem dX0_become_34 : decode cX0_become 34 = .ok (.bipush 10, 2) := by decide +kernel
theorem dX0_become_36 : decode cX0_become 36 = .ok (.invokestatic 57, 3) := by decide +kernel
theorem dX0_become_39 : decode cX0_become 39 = .ok (.aload_n 1, 1) := by decide +kernel
theorem dX0_become_40 : decode cX0_become 40 = .ok (.getfield 15, 3) := by decide +kernel
theorem dX0_become_43 : decode cX0_become 43 = .ok (.iconst 0, 1) := by decide +kernel
theorem dX0_become_44 : decode cX0_become 44 = .ok (.aload_n 0, 1) := by decide +kernel
theorem dX0_become_45 : decode cX0_become 45 = .ok (.getfield 15, 3) := by decide +kernel
theorem dX0_become_48 : decode cX0_become 48 = .ok (.iconst 0, 1) := by decide +kernel
theorem dX0_become_49 : decode cX0_become 49 = .ok (.bipush 10, 2) := by decide +kernel
theorem dX0_become_51 : decode cX0_become 51 = .ok (.invokestatic 57, 3) := by decide +kernel
theorem dX0_become_54 : decode cX0_become 54 = .ok (.iconst 0, 1) := by decide +kernel
theorem dX0_become_55 : decode cX0_become 55 = .ok (.istore_n 2, 1) := by decide +kernel
theorem dX0_become_56 : decode cX0_become 56 = .ok (.iload_n 2, 1) := by decide +kernel
theorem dX0_become_57 : decode cX0_become 57 = .ok (.iconst 3, 1) := by decide +kernel
theorem dX0_become_58 : decode cX0_become 58 = .ok (.if_icmp .ge 28, 3) := by decide +kernel
theorem dX0_become_61 : decode cX0_become 61 = .ok (.aload_n 1, 1) := by decide +kernel
theorem dX0_become_62 : decode cX0_become 62 = .ok (.getfield 20, 3) := by decide +kernel
theorem dX0_become_65 : decode cX0_become 65 = .ok (.iload_n 2, 1) := by decide +kernel
theorem dX0_become_66 : decode cX0_become 66 = .ok (.aaload, 1) := by decide +kernel
theorem dX0_become_67 : decode cX0_become 67 = .ok (.iconst 0, 1) := by decide +kernel
theorem dX0_become_68 : decode cX0_become 68 = .ok (.aload_n 0, 1) := by decide +kernel
theorem dX0_become_69 : decode cX0_become 69 = .ok (.getfield 20, 3) := by decide +kernel
theorem dX0_become_72 : decode cX0_become 72 = .ok (.iload_n 2, 1) := by decide +kernel
theorem dX0_become_73 : decode cX0_become 73 = .ok (.aaload, 1) := by decide +kernel
theorem dX0_become_74 : decode cX0_become 74 = .ok (.iconst 0, 1) := by decide +kernel
theorem dX0_become_75 : decode cX0_become 75 = .ok (.bipush 24, 2) := by decide +kernel
theorem dX0_become_77 : decode cX0_become 77 = .ok (.invokestatic 57, 3) := by decide +kernel
theorem dX0_become_80 : decode cX0_become 80 = .ok (.iinc 2 1, 3) := by decide +kernel
theorem dX0_become_83 : decode cX0_become 83 = .ok (.goto (-27), 3) := by decide +kernel
theorem dX0_become_86 : decode cX0_become 86 = .ok (.return_, 1) := by decide +kernel
theorem dX1_init_0 : decode cX1_init 0 = .ok (.aload_n 0, 1) := by decide +kernel
theorem dX1_init_1 : decode cX1_init 1 = .ok (.invokespecial 3, 3) := by decide +kernel
theorem dX1_init_4 : decode cX1_init 4 = .ok (.aload_n 0, 1) := by decide +kernel
theorem dX1_init_5 : decode cX1_init 5 = .ok (.iconst 5, 1) := by decide +kernel
theorem dX1_init_6 : decode cX1_init 6 = .ok (.bipush 24, 2) := by decide +kernel
theorem dX1_init_8 : decode cX1_init 8 = .ok (.multianewarray 9 2, 4) := by decide +kernel
theorem dX1_init_12 : decode cX1_init 12 = .ok (.putfield 11, 3) := by decide +kernel
theorem dX1_init_15 : decode cX1_init 15 = .ok (.aload_n 0, 1) := by decide +kernel
theorem dX1_init_16 : decode cX1_init 16 = .ok (.aload_n 1, 1) := by decide +kernel
theorem dX1_init_17 : decode cX1_init 17 = .ok (.putfield 16, 3) := by decide +kernel
theorem dX1_init_20 : decode cX1_init 20 = .ok (.aload_n 0, 1) := by decide +kernel
theorem dX1_init_21 : decode cX1_init 21 = .ok (.aload_n 2, 1) := by decide +kernel
theorem dX1_init_22 : decode cX1_init 22 = .ok (.putfield 20, 3) := by decide +kernel
theorem dX1_init_25 : decode cX1_init 25 = .ok (.return_, 1) := by decide +kernel
theorem dX1_findLiars_0 : decode cX1_findLiars 0 = .ok (.iconst 0, 1) := by decide +kernel
theorem dX1_findLiars_1 : decode cX1_findLiars 1 = .ok (.istore_n 2, 1) := by decide +kernel
theorem dX1_findLiars_2 : decode cX1_findLiars 2 = .ok (.iconst 0, 1) := by decide +kernel
theorem dX1_findLiars_3 : decode cX1_findLiars 3 = .ok (.istore_n 3, 1) := by decide +kernel
theorem dX1_findLiars_4 : decode cX1_findLiars 4 = .ok (.iload_n 3, 1) := by decide +kernel
theorem dX1_findLiars_5 : decode cX1_findLiars 5 = .ok (.aload_n 0, 1) := by decide +kernel
theorem dX1_findLiars_6 : decode cX1_findLiars 6 = .ok (.getfield 20, 3) := by decide +kernel
theorem dX1_findLiars_9 : decode cX1_findLiars 9 = .ok (.getfield 24, 3) := by decide +kernel
theorem dX1_findLiars_12 : decode cX1_findLiars 12 = .ok (.if_icmp .ge 28, 3) := by decide +kernel
theorem dX1_findLiars_15 : decode cX1_findLiars 15 = .ok (.iload_n 3, 1) := by decide +kernel
theorem dX1_findLiars_16 : decode cX1_findLiars 16 = .ok (.iload_n 1, 1) := by decide +kernel
theorem dX1_findLiars_17 : decode cX1_findLiars 17 = .ok (.if_icmp .eq 17, 3) := by decide +kernel
theorem dX1_findLiars_20 : decode cX1_findLiars 20 = .ok (.iload_n 2, 1) := by decide +kernel
theorem dX1_findLiars_21 : decode cX1_findLiars 21 = .ok (.iconst 1, 1) := by decide +kernel
theorem dX1_findLiars_22 : decode cX1_findLiars 22 = .ok (.aload_n 0, 1) := by decide +kernel
theorem dX1_findLiars_23 : decode cX1_findLiars 23 = .ok (.getfield 20, 3) := by decide +kernel
theorem dX1_findLiars_26 : decode cX1_findLiars 26 = .ok (.getfield 30, 3) := by decide +kernel
theorem dX1_findLiars_29 : decode cX1_findLiars 29 = .ok (.iload_n 3, 1) := by decide +kernel
theorem dX1_findLiars_30 : decode cX1_findLiars 30 = .ok (.iaload, 1) := by decide +kernel
theorem dX1_findLiars_31 : decode cX1_findLiars 31 = .ok (.ishl, 1) := by decide +kernel
theorem dX1_findLiars_32 : decode cX1_findLiars 32 = .ok (.ior, 1) := by decide +kernel
theorem dX1_findLiars_33 : decode cX1_findLiars 33 = .ok (.istore_n 2, 1) := by decide +kernel
theorem dX1_findLiars_34 : decode cX1_findLiars 34 = .ok (.iinc 3 1, 3) := by decide +kernel
theorem dX1_findLiars_37 : decode cX1_findLiars 37 = .ok (.goto (-33), 3) := by decide +kernel
theorem dX1_findLiars_40 : decode cX1_findLiars 40 = .ok (.iconst 0, 1) := by decide +kernel
theorem dX1_findLiars_41 : decode cX1_findLiars 41 = .ok (.istore_n 3, 1) := by decide +kernel
theorem dX1_findLiars_42 : decode cX1_findLiars 42 = .ok (.iload_n 3, 1) := by decide +kernel
theorem dX1_findLiars_43 : decode cX1_findLiars 43 = .ok (.aload_n 0, 1) := by decide +kernel
theorem dX1_findLiars_44 : decode cX1_findLiars 44 = .ok (.getfield 20, 3) := by decide +kernel
theorem dX1_findLiars_47 : decode cX1_findLiars 47 = .ok (.getfield 34, 3) := by decide +kernel
theorem dX1_findLiars_50 : decode cX1_findLiars 50 = .ok (.if_icmp .ge 63, 3) := by decide +kernel
theorem dX1_findLiars_53 : decode cX1_findLiars 53 = .ok (.iconst 0, 1) := by decide +kernel
theorem dX1_findLiars_54 : decode cX1_findLiars 54 = .ok (.istore 4, 2) := by decide +kernel
theorem dX1_findLiars_56 : decode cX1_findLiars 56 = .ok (.iload 4, 2) := by decide +kernel
theorem dX1_findLiars_58 : decode cX1_findLiars 58 = .ok (.iconst 1, 1) := by decide +kernel
theorem dX1_findLiars_59 : decode cX1_findLiars 59 = .ok (.aload_n 0, 1) := by decide +kernel
theorem dX1_findLiars_60 : decode cX1_findLiars 60 = .ok (.getfield 20, 3) := by decide +kernel
theorem dX1_findLiars_63 : decode cX1_findLiars 63 = .ok (.getfield 34, 3) := by decide +kernel
theorem dX1_findLiars_66 : decode cX1_findLiars 66 = .ok (.ishl, 1) := by decide +kernel
theorem dX1_findLiars_67 : decode cX1_findLiars 67 = .ok (.if_icmp .ge 40, 3) := by decide +kernel
theorem dX1_findLiars_70 : decode cX1_findLiars 70 = .ok (.iload 4, 2) := by decide +kernel
theorem dX1_findLiars_72 : decode cX1_findLiars 72 = .ok (.iload_n 2, 1) := by decide +kernel
theorem dX1_findLiars_73 : decode cX1_findLiars 73 = .ok (.iconst (-1), 1) := by decide +kernel
theorem dX1_findLiars_74 : decode cX1_findLiars 74 = .ok (.ixor, 1) := by decide +kernel
theorem dX1_findLiars_75 : decode cX1_findLiars 75 = .ok (.iand, 1) := by decide +kernel
theorem dX1_findLiars_76 : decode cX1_findLiars 76 = .ok (.ifCond .ne 25, 3) := by decide +kernel
theorem dX1_findLiars_79 : decode cX1_findLiars 79 = .ok (.iload 4, 2) := by decide +kernel
theorem dX1_findLiars_81 : decode cX1_findLiars 81 = .ok (.invokestatic 37, 3) := by decide +kernel
theorem dX1_findLiars_84 : decode cX1_findLiars 84 = .ok (.iload_n 3, 1) := by decide +kernel
theorem dX1_findLiars_85 : decode cX1_findLiars 85 = .ok (.if_icmp .ne 16, 3) := by decide +kernel
theorem dX1_findLiars_88 : decode cX1_findLiars 88 = .ok (.aload_n 0, 1) := by decide +kernel
theorem dX1_findLiars_89 : decode cX1_findLiars 89 = .ok (.iload 4, 2) := by decide +kernel
theorem dX1_findLiars_91 : decode cX1_findLiars 91 = .ok (.iload_n 1, 1) := by decide +kernel
theorem dX1_findLiars_92 : decode cX1_findLiars 92 = .ok (.invokevirtual 43, 3) := by decide +kernel
theorem dX1_findLiars_95 : decode cX1_findLiars 95 = .ok (.ifCond .eq 6, 3) := by decide +kernel
theorem dX1_findLiars_98 : decode cX1_findLiars 98 = .ok (.iload 4, 2) := by decide +kernel
theorem dX1_findLiars_100 : decode cX1_findLiars 100 = .ok (.ireturn, 1) := by decide +kernel
theorem dX1_findLiars_101 : decode cX1_findLiars 101 = .ok (.iinc 4 1, 3) := by decide +kernel
theorem dX1_findLiars_104 : decode cX1_findLiars 104 = .ok (.goto (-48), 3) := by decide +kernel
theorem dX1_findLiars_107 : decode cX1_findLiars 107 = .ok (.iinc 3 1, 3) := by decide +kernel
theorem dX1_findLiars_110 : decode cX1_findLiars 110 = .ok (.goto (-68), 3) := by decide +kernel
theorem dX1_findLiars_113 : decode cX1_findLiars 113 = .ok (.iconst 1, 1) := by decide +kernel
theorem dX1_findLiars_114 : decode cX1_findLiars 114 = .ok (.aload_n 0, 1) := by decide +kernel
theorem dX1_findLiars_115 : decode cX1_findLiars 115 = .ok (.getfield 20, 3) := by decide +kernel
theorem dX1_findLiars_118 : decode cX1_findLiars 118 = .ok (.getfield 34, 3) := by decide +kernel
theorem dX1_findLiars_121 : decode cX1_findLiars 121 = .ok (.ishl, 1) := by decide +kernel
theorem dX1_findLiars_122 : decode cX1_findLiars 122 = .ok (.iconst 1, 1) := by decide +kernel
theorem dX1_findLiars_123 : decode cX1_findLiars 123 = .ok (.isub, 1) := by decide +kernel
theorem dX1_findLiars_124 : decode cX1_findLiars 124 = .ok (.istore_n 3, 1) := by decide +kernel
theorem dX1_findLiars_125 : decode cX1_findLiars 125 = .ok (.aload_n 0, 1) := by decide +kernel
theorem dX1_findLiars_126 : decode cX1_findLiars 126 = .ok (.iload_n 3, 1) := by decide +kernel
theorem dX1_findLiars_127 : decode cX1_findLiars 127 = .ok (.iload_n 1, 1) := by decide +kernel
theorem dX1_findLiars_128 : decode cX1_findLiars 128 = .ok (.invokevirtual 43, 3) := by decide +kernel
theorem dX1_findLiars_131 : decode cX1_findLiars 131 = .ok (.pop, 1) := by decide +kernel
theorem dX1_findLiars_132 : decode cX1_findLiars 132 = .ok (.iload_n 3, 1) := by decide +kernel
theorem dX1_findLiars_133 : decode cX1_findLiars 133 = .ok (.ireturn, 1) := by decide +kernel
theorem dX1_haveWays_0 : decode cX1_haveWays 0 = .ok (.iconst 0, 1) := by decide +kernel
theorem dX1_haveWays_1 : decode cX1_haveWays 1 = .ok (.istore_n 3, 1) := by decide +kernel
theorem dX1_haveWays_2 : decode cX1_haveWays 2 = .ok (.iload_n 3, 1) := by decide +kernel
theorem dX1_haveWays_3 : decode cX1_haveWays 3 = .ok (.aload_n 0, 1) := by decide +kernel
theorem dX1_haveWays_4 : decode cX1_haveWays 4 = .ok (.getfield 20, 3) := by decide +kernel
theorem dX1_haveWays_7 : decode cX1_haveWays 7 = .ok (.getfield 34, 3) := by decide +kernel
theorem dX1_haveWays_10 : decode cX1_haveWays 10 = .ok (.if_icmp .ge 19, 3) := by decide +kernel
theorem dX1_haveWays_13 : decode cX1_haveWays 13 = .ok (.aload_n 0, 1) := by decide +kernel
theorem dX1_haveWays_14 : decode cX1_haveWays 14 = .ok (.getfield 11, 3) := by decide +kernel
theorem dX1_haveWays_17 : decode cX1_haveWays 17 = .ok (.iload_n 3, 1) := by decide +kernel
theorem dX1_haveWays_18 : decode cX1_haveWays 18 = .ok (.aaload, 1) := by decide +kernel
theorem dX1_haveWays_19 : decode cX1_haveWays 19 = .ok (.iconst (-1), 1) := by decide +kernel
theorem dX1_haveWays_20 : decode cX1_haveWays 20 = .ok (.invokestatic 47, 3) := by decide +kernel
theorem dX1_haveWays_23 : decode cX1_haveWays 23 = .ok (.iinc 3 1, 3) := by decide +kernel
theorem dX1_haveWays_26 : decode cX1_haveWays 26 = .ok (.goto (-24), 3) := by decide +kernel
theorem dX1_haveWays_29 : decode cX1_haveWays 29 = .ok (.iconst 0, 1) := by decide +kernel
theorem dX1_haveWays_30 : decode cX1_haveWays 30 = .ok (.istore_n 3, 1) := by decide +kernel
theorem dX1_haveWays_31 : decode cX1_haveWays 31 = .ok (.iload_n 3, 1) := by decide +kernel
theorem dX1_haveWays_32 : decode cX1_haveWays 32 = .ok (.aload_n 0, 1) := by decide +kernel
theorem dX1_haveWays_33 : decode cX1_haveWays 33 = .ok (.getfield 20, 3) := by decide +kernel
theorem dX1_haveWays_36 : decode cX1_haveWays 36 = .ok (.getfield 24, 3) := by decide +kernel
theorem dX1_haveWays_39 : decode cX1_haveWays 39 = .ok (.if_icmp .ge 103, 3) := by decide +kernel
theorem dX1_haveWays_42 : decode cX1_haveWays 42 = .ok (.iload_n 3, 1) := by decide +kernel
theorem dX1_haveWays_43 : decode cX1_haveWays 43 = .ok (.iload_n 2, 1) := by decide +kernel
theorem dX1_haveWays_44 : decode cX1_haveWays 44 = .ok (.if_icmp .eq 92, 3) := by decide +kernel
theorem dX1_haveWays_47 : decode cX1_haveWays 47 = .ok (.iload_n 1, 1) := by decide +kernel
theorem dX1_haveWays_48 : decode cX1_haveWays 48 = .ok (.aload_n 0, 1) := by decide +kernel
theorem dX1_haveWays_49 : decode cX1_haveWays 49 = .ok (.getfield 20, 3) := by decide +kernel
theorem dX1_haveWays_52 : decode cX1_haveWays 52 = .ok (.getfield 30, 3) := by decide +kernel
theorem dX1_haveWays_55 : decode cX1_haveWays 55 = .ok (.iload_n 3, 1) := by decide +kernel
theorem dX1_haveWays_56 : decode cX1_haveWays 56 = .ok (.iaload, 1) := by decide +kernel
theorem dX1_haveWays_57 : decode cX1_haveWays 57 = .ok (.ishr, 1) := by decide +kernel
theorem dX1_haveWays_58 : decode cX1_haveWays 58 = .ok (.iconst 1, 1) := by decide +kernel
theorem dX1_haveWays_59 : decode cX1_haveWays 59 = .ok (.iand, 1) := by decide +kernel
theorem dX1_haveWays_60 : decode cX1_haveWays 60 = .ok (.ifCond .eq 6, 3) := by decide +kernel
theorem dX1_haveWays_63 : decode cX1_haveWays 63 = .ok (.goto 73, 3) := by decide +kernel
theorem dX1_haveWays_66 : decode cX1_haveWays 66 = .ok (.aload_n 0, 1) := by decide +kernel
theorem dX1_haveWays_67 : decode cX1_haveWays 67 = .ok (.aload_n 0, 1) := by decide +kernel
theorem dX1_haveWays_68 : decode cX1_haveWays 68 = .ok (.getfield 20, 3) := by decide +kernel
theorem dX1_haveWays_71 : decode cX1_haveWays 71 = .ok (.getfield 30, 3) := by decide +kernel
theorem dX1_haveWays_74 : decode cX1_haveWays 74 = .ok (.iload_n 3, 1) := by decide +kernel
theorem dX1_haveWays_75 : decode cX1_haveWays 75 = .ok (.iaload, 1) := by decide +kernel
theorem dX1_haveWays_76 : decode cX1_haveWays 76 = .ok (.aload_n 0, 1) := by decide +kernel
theorem dX1_haveWays_77 : decode cX1_haveWays 77 = .ok (.getfield 20, 3) := by decide +kernel
theorem dX1_haveWays_80 : decode cX1_haveWays 80 = .ok (.getfield 53, 3) := by decide +kernel
theorem dX1_haveWays_83 : decode cX1_haveWays 83 = .ok (.iload_n 3, 1) := by decide +kernel
theorem dX1_haveWays_84 : decode cX1_haveWays 84 = .ok (.iaload, 1) := by decide +kernel
theorem dX1_haveWays_85 : decode cX1_haveWays 85 = .ok (.aload_n 0, 1) := by decide +kernel
theorem dX1_haveWays_86 : decode cX1_haveWays 86 = .ok (.getfield 20, 3) := by decide +kernel
theorem dX1_haveWays_89 : decode cX1_haveWays 89 = .ok (.getfield 56, 3) := by decide +kernel
theorem dX1_haveWays_92 : decode cX1_haveWays 92 = .ok (.iload_n 3, 1) := by decide +kernel
theorem dX1_haveWays_93 : decode cX1_haveWays 93 = .ok (.iaload, 1) := by decide +kernel
theorem dX1_haveWays_94 : decode cX1_haveWays 94 = .ok (.invokevirtual 59, 3) := by decide +kernel
theorem dX1_haveWays_97 : decode cX1_haveWays 97 = .ok (.ifCond .eq 37, 3) := by decide +kernel
theorem dX1_haveWays_100 : decode cX1_haveWays 100 = .ok (.aload_n 0, 1) := by decide +kernel
theorem dX1_haveWays_101 : decode cX1_haveWays 101 = .ok (.aload_n 0, 1) := by decide +kernel
theorem dX1_haveWays_102 : decode cX1_haveWays 102 = .ok (.getfield 20, 3) := by decide +kernel
theorem dX1_haveWays_105 : decode cX1_haveWays 105 = .ok (.getfield 63, 3) := by decide +kernel
theorem dX1_haveWays_108 : decode cX1_haveWays 108 = .ok (.iload_n 3, 1) := by decide +kernel
theorem dX1_haveWays_109 : decode cX1_haveWays 109 = .ok (.iaload, 1) := by decide +kernel
theorem dX1_haveWays_110 : decode cX1_haveWays 110 = .ok (.aload_n 0, 1) := by decide +kernel
theorem dX1_haveWays_111 : decode cX1_haveWays 111 = .ok (.getfield 20, 3) := by decide +kernel
theorem dX1_haveWays_114 : decode cX1_haveWays 114 = .ok (.getfield 53, 3) := by decide +kernel
theorem dX1_haveWays_117 : decode cX1_haveWays 117 = .ok (.iload_n 3, 1) := by decide +kernel
theorem dX1_haveWays_118 : decode cX1_haveWays 118 = .ok (.iaload, 1) := by decide +kernel
theorem dX1_haveWays_119 : decode cX1_haveWays 119 = .ok (.aload_n 0, 1) := by decide +kernel
theorem dX1_haveWays_120 : decode cX1_haveWays 120 = .ok (.getfield 20, 3) := by decide +kernel
theorem dX1_haveWays_123 : decode cX1_haveWays 123 = .ok (.getfield 56, 3) := by decide +kernel
theorem dX1_haveWays_126 : decode cX1_haveWays 126 = .ok (.iload_n 3, 1) := by decide +kernel
theorem dX1_haveWays_127 : decode cX1_haveWays 127 = .ok (.iaload, 1) := by decide +kernel
theorem dX1_haveWays_128 : decode cX1_haveWays 128 = .ok (.invokevirtual 59, 3) := by decide +kernel
theorem dX1_haveWays_131 : decode cX1_haveWays 131 = .ok (.ifCond .ne 5, 3) := by decide +kernel
theorem dX1_haveWays_134 : decode cX1_haveWays 134 = .ok (.iconst 0, 1) := by decide +kernel
theorem dX1_haveWays_135 : decode cX1_haveWays 135 = .ok (.ireturn, 1) := by decide +kernel
theorem dX1_haveWays_136 : decode cX1_haveWays 136 = .ok (.iinc 3 1, 3) := by decide +kernel
theorem dX1_haveWays_139 : decode cX1_haveWays 139 = .ok (.goto (-108), 3) := by decide +kernel
theorem dX1_haveWays_142 : decode cX1_haveWays 142 = .ok (.iconst 0, 1) := by decide +kernel
theorem dX1_haveWays_143 : decode cX1_haveWays 143 = .ok (.istore_n 3, 1) := by decide +kernel
theorem dX1_haveWays_144 : decode cX1_haveWays 144 = .ok (.iload_n 3, 1) := by decide +kernel
theorem dX1_haveWays_145 : decode cX1_haveWays 145 = .ok (.aload_n 0, 1) := by decide +kernel
theorem dX1_haveWays_146 : decode cX1_haveWays 146 = .ok (.getfield 20, 3) := by decide +kernel
theorem dX1_haveWays_149 : decode cX1_haveWays 149 = .ok (.getfield 34, 3) := by decide +kernel
theorem dX1_haveWays_152 : decode cX1_haveWays 152 = .ok (.if_icmp .ge 19, 3) := by decide +kernel
theorem dX1_haveWays_155 : decode cX1_haveWays 155 = .ok (.aload_n 0, 1) := by decide +kernel
theorem dX1_haveWays_156 : decode cX1_haveWays 156 = .ok (.iload_n 3, 1) := by decide +kernel
theorem dX1_haveWays_157 : decode cX1_haveWays 157 = .ok (.invokevirtual 66, 3) := by decide +kernel
theorem dX1_haveWays_160 : decode cX1_haveWays 160 = .ok (.ifCond .ne 5, 3) := by decide +kernel
theorem dX1_haveWays_163 : decode cX1_haveWays 163 = .ok (.iconst 0, 1) := by decide +kernel
theorem dX1_haveWays_164 : decode cX1_haveWays 164 = .ok (.ireturn, 1) := by decide +kernel
theorem dX1_haveWays_165 : decode cX1_haveWays 165 = .ok (.iinc 3 1, 3) := by decide +kernel
theorem dX1_haveWays_168 : decode cX1_haveWays 168 = .ok (.goto (-24), 3) := by decide +kernel
theorem dX1_haveWays_171 : decode cX1_haveWays 171 = .ok (.iconst 1, 1) := by decide +kernel
theorem dX1_haveWays_172 : decode cX1_haveWays 172 = .ok (.ireturn, 1) := by decide +kernel
theorem dX1_pin_0 : decode cX1_pin 0 = .ok (.aload_n 0, 1) := by decide +kernel
theorem dX1_pin_1 : decode cX1_pin 1 = .ok (.getfield 11, 3) := by decide +kernel
theorem dX1_pin_4 : decode cX1_pin 4 = .ok (.iload_n 1, 1) := by decide +kernel
theorem dX1_pin_5 : decode cX1_pin 5 = .ok (.aaload, 1) := by decide +kernel
theorem dX1_pin_6 : decode cX1_pin 6 = .ok (.iload_n 3, 1) := by decide +kernel
theorem dX1_pin_7 : decode cX1_pin 7 = .ok (.iaload, 1) := by decide +kernel
theorem dX1_pin_8 : decode cX1_pin 8 = .ok (.istore 4, 2) := by decide +kernel
theorem dX1_pin_10 : decode cX1_pin 10 = .ok (.aload_n 0, 1) := by decide +kernel
theorem dX1_pin_11 : decode cX1_pin 11 = .ok (.getfield 11, 3) := by decide +kernel
theorem dX1_pin_14 : decode cX1_pin 14 = .ok (.iload_n 1, 1) := by decide +kernel
theorem dX1_pin_15 : decode cX1_pin 15 = .ok (.aaload, 1) := by decide +kernel
theorem dX1_pin_16 : decode cX1_pin 16 = .ok (.iload_n 3, 1) := by decide +kernel
theorem dX1_pin_17 : decode cX1_pin 17 = .ok (.iload_n 2, 1) := by decide +kernel
theorem dX1_pin_18 : decode cX1_pin 18 = .ok (.iastore, 1) := by decide +kernel
theorem dX1_pin_19 : decode cX1_pin 19 = .ok (.iload 4, 2) := by decide +kernel
theorem dX1_pin_21 : decode cX1_pin 21 = .ok (.iconst (-1), 1) := by decide +kernel
theorem dX1_pin_22 : decode cX1_pin 22 = .ok (.if_icmp .eq 9, 3) := by decide +kernel
theorem dX1_pin_25 : decode cX1_pin 25 = .ok (.iload 4, 2) := by decide +kernel
theorem dX1_pin_27 : decode cX1_pin 27 = .ok (.iload_n 2, 1) := by decide +kernel
theorem dX1_pin_28 : decode cX1_pin 28 = .ok (.if_icmp .ne 7, 3) := by decide +kernel
theorem dX1_pin_31 : decode cX1_pin 31 = .ok (.iconst 1, 1) := by decide +kernel
theorem dX1_pin_32 : decode cX1_pin 32 = .ok (.goto 4, 3) := by decide +kernel
theorem dX1_pin_35 : decode cX1_pin 35 = .ok (.iconst 0, 1) := by decide +kernel
theorem dX1_pin_36 : decode cX1_pin 36 = .ok (.ireturn, 1) := by decide +kernel
theorem dX1_wayOf_0 : decode cX1_wayOf 0 = .ok (.aload_n 0, 1) := by decide +kernel
theorem dX1_wayOf_1 : decode cX1_wayOf 1 = .ok (.getfield 20, 3) := by decide +kernel
theorem dX1_wayOf_4 : decode cX1_wayOf 4 = .ok (.getfield 70, 3) := by decide +kernel
theorem dX1_wayOf_7 : decode cX1_wayOf 7 = .ok (.iload_n 1, 1) := by decide +kernel
theorem dX1_wayOf_8 : decode cX1_wayOf 8 = .ok (.iaload, 1) := by decide +kernel
theorem dX1_wayOf_9 : decode cX1_wayOf 9 = .ok (.ifCond .ne 13, 3) := by decide +kernel
theorem dX1_wayOf_12 : decode cX1_wayOf 12 = .ok (.aload_n 0, 1) := by decide +kernel
theorem dX1_wayOf_13 : decode cX1_wayOf 13 = .ok (.getfield 16, 3) := by decide +kernel
theorem dX1_wayOf_16 : decode cX1_wayOf 16 = .ok (.getfield 73, 3) := by decide +kernel
theorem dX1_wayOf_19 : decode cX1_wayOf 19 = .ok (.goto 10, 3) := by decide +kernel
theorem dX1_wayOf_22 : decode cX1_wayOf 22 = .ok (.aload_n 0, 1) := by decide +kernel
theorem dX1_wayOf_23 : decode cX1_wayOf 23 = .ok (.getfield 16, 3) := by decide +kernel
theorem dX1_wayOf_26 : decode cX1_wayOf 26 = .ok (.getfield 78, 3) := by decide +kernel
theorem dX1_wayOf_29 : decode cX1_wayOf 29 = .ok (.areturn, 1) := by decide +kernel
theorem dX1_hasWay_0 : decode cX1_hasWay 0 = .ok (.aload_n 0, 1) := by decide +kernel
theorem dX1_hasWay_1 : decode cX1_hasWay 1 = .ok (.iload_n 1, 1) := by decide +kernel
theorem dX1_hasWay_2 : decode cX1_hasWay 2 = .ok (.invokevirtual 81, 3) := by decide +kernel
theorem dX1_hasWay_5 : decode cX1_hasWay 5 = .ok (.astore_n 2, 1) := by decide +kernel
theorem dX1_hasWay_6 : decode cX1_hasWay 6 = .ok (.iconst (-1), 1) := by decide +kernel
theorem dX1_hasWay_7 : decode cX1_hasWay 7 = .ok (.istore_n 3, 1) := by decide +kernel
theorem dX1_hasWay_8 : decode cX1_hasWay 8 = .ok (.iconst 0, 1) := by decide +kernel
theorem dX1_hasWay_9 : decode cX1_hasWay 9 = .ok (.istore 4, 2) := by decide +kernel
theorem dX1_hasWay_11 : decode cX1_hasWay 11 = .ok (.iload 4, 2) := by decide +kernel
theorem dX1_hasWay_13 : decode cX1_hasWay 13 = .ok (.bipush 24, 2) := by decide +kernel
theorem dX1_hasWay_15 : decode cX1_hasWay 15 = .ok (.if_icmp .ge 55, 3) := by decide +kernel
theorem dX1_hasWay_18 : decode cX1_hasWay 18 = .ok (.aload_n 0, 1) := by decide +kernel
theorem dX1_hasWay_19 : decode cX1_hasWay 19 = .ok (.getfield 11, 3) := by decide +kernel
theorem dX1_hasWay_22 : decode cX1_hasWay 22 = .ok (.iload_n 1, 1) := by decide +kernel
theorem dX1_hasWay_23 : decode cX1_hasWay 23 = .ok (.aaload, 1) := by decide +kernel
theorem dX1_hasWay_24 : decode cX1_hasWay 24 = .ok (.iload 4, 2) := by decide +kernel
theorem dX1_hasWay_26 : decode cX1_hasWay 26 = .ok (.iaload, 1) := by decide +kernel
theorem dX1_hasWay_27 : decode cX1_hasWay 27 = .ok (.istore 5, 2) := by decide +kernel
theorem dX1_hasWay_29 : decode cX1_hasWay 29 = .ok (.iload 5, 2) := by decide +kernel
theorem dX1_hasWay_31 : decode cX1_hasWay 31 = .ok (.iconst (-1), 1) := by decide +kernel
theorem dX1_hasWay_32 : decode cX1_hasWay 32 = .ok (.if_icmp .eq 32, 3) := by decide +kernel
theorem dX1_hasWay_35 : decode cX1_hasWay 35 = .ok (.iload_n 3, 1) := by decide +kernel
theorem dX1_hasWay_36 : decode cX1_hasWay 36 = .ok (.ifCond .lt 25, 3) := by decide +kernel
theorem dX1_hasWay_39 : decode cX1_hasWay 39 = .ok (.aload_n 2, 1) := by decide +kernel
theorem dX1_hasWay_40 : decode cX1_hasWay 40 = .ok (.aload_n 0, 1) := by decide +kernel
theorem dX1_hasWay_41 : decode cX1_hasWay 41 = .ok (.getfield 11, 3) := by decide +kernel
theorem dX1_hasWay_44 : decode cX1_hasWay 44 = .ok (.iload_n 1, 1) := by decide +kernel
theorem dX1_hasWay_45 : decode cX1_hasWay 45 = .ok (.aaload, 1) := by decide +kernel
theorem dX1_hasWay_46 : decode cX1_hasWay 46 = .ok (.iload_n 3, 1) := by decide +kernel
theorem dX1_hasWay_47 : decode cX1_hasWay 47 = .ok (.iaload, 1) := by decide +kernel
theorem dX1_hasWay_48 : decode cX1_hasWay 48 = .ok (.aaload, 1) := by decide +kernel
theorem dX1_hasWay_49 : decode cX1_hasWay 49 = .ok (.iload 5, 2) := by decide +kernel
theorem dX1_hasWay_51 : decode cX1_hasWay 51 = .ok (.iaload, 1) := by decide +kernel
theorem dX1_hasWay_52 : decode cX1_hasWay 52 = .ok (.iload 4, 2) := by decide +kernel
theorem dX1_hasWay_54 : decode cX1_hasWay 54 = .ok (.iload_n 3, 1) := by decide +kernel
theorem dX1_hasWay_55 : decode cX1_hasWay 55 = .ok (.isub, 1) := by decide +kernel
theorem dX1_hasWay_56 : decode cX1_hasWay 56 = .ok (.if_icmp .le 5, 3) := by decide +kernel
theorem dX1_hasWay_59 : decode cX1_hasWay 59 = .ok (.iconst 0, 1) := by decide +kernel
theorem dX1_hasWay_60 : decode cX1_hasWay 60 = .ok (.ireturn, 1) := by decide +kernel
theorem dX1_hasWay_61 : decode cX1_hasWay 61 = .ok (.iload 4, 2) := by decide +kernel
theorem dX1_hasWay_63 : decode cX1_hasWay 63 = .ok (.istore_n 3, 1) := by decide +kernel
theorem dX1_hasWay_64 : decode cX1_hasWay 64 = .ok (.iinc 4 1, 3) := by decide +kernel
theorem dX1_hasWay_67 : decode cX1_hasWay 67 = .ok (.goto (-56), 3) := by decide +kernel
theorem dX1_hasWay_70 : decode cX1_hasWay 70 = .ok (.iconst 1, 1) := by decide +kernel
theorem dX1_hasWay_71 : decode cX1_hasWay 71 = .ok (.ireturn, 1) := by decide +kernel
theorem dX1_roomsOf_0 : decode cX1_roomsOf 0 = .ok (.iload_n 2, 1) := by decide +kernel
theorem dX1_roomsOf_1 : decode cX1_roomsOf 1 = .ok (.istore_n 3, 1) := by decide +kernel
theorem dX1_roomsOf_2 : decode cX1_roomsOf 2 = .ok (.iload_n 3, 1) := by decide +kernel
theorem dX1_roomsOf_3 : decode cX1_roomsOf 3 = .ok (.ifCond .lt 21, 3) := by decide +kernel
theorem dX1_roomsOf_6 : decode cX1_roomsOf 6 = .ok (.aload_n 0, 1) := by decide +kernel
theorem dX1_roomsOf_7 : decode cX1_roomsOf 7 = .ok (.getfield 11, 3) := by decide +kernel
theorem dX1_roomsOf_10 : decode cX1_roomsOf 10 = .ok (.iload_n 1, 1) := by decide +kernel
theorem dX1_roomsOf_11 : decode cX1_roomsOf 11 = .ok (.aaload, 1) := by decide +kernel
theorem dX1_roomsOf_12 : decode cX1_roomsOf 12 = .ok (.iload_n 3, 1) := by decide +kernel
theorem dX1_roomsOf_13 : decode cX1_roomsOf 13 = .ok (.iaload, 1) := by decide +kernel
theorem dX1_roomsOf_14 : decode cX1_roomsOf 14 = .ok (.iconst (-1), 1) := by decide +kernel
theorem dX1_roomsOf_15 : decode cX1_roomsOf 15 = .ok (.if_icmp .ne 9, 3) := by decide +kernel
theorem dX1_roomsOf_18 : decode cX1_roomsOf 18 = .ok (.iinc 3 (-1), 3) := by decide +kernel
theorem dX1_roomsOf_21 : decode cX1_roomsOf 21 = .ok (.goto (-19), 3) := by decide +kernel
theorem dX1_roomsOf_24 : decode cX1_roomsOf 24 = .ok (.iload_n 2, 1) := by decide +kernel
theorem dX1_roomsOf_25 : decode cX1_roomsOf 25 = .ok (.istore 4, 2) := by decide +kernel
theorem dX1_roomsOf_27 : decode cX1_roomsOf 27 = .ok (.iload 4, 2) := by decide +kernel
theorem dX1_roomsOf_29 : decode cX1_roomsOf 29 = .ok (.bipush 24, 2) := by decide +kernel
theorem dX1_roomsOf_31 : decode cX1_roomsOf 31 = .ok (.if_icmp .ge 22, 3) := by decide +kernel
theorem dX1_roomsOf_34 : decode cX1_roomsOf 34 = .ok (.aload_n 0, 1) := by decide +kernel
theorem dX1_roomsOf_35 : decode cX1_roomsOf 35 = .ok (.getfield 11, 3) := by decide +kernel
theorem dX1_roomsOf_38 : decode cX1_roomsOf 38 = .ok (.iload_n 1, 1) := by decide +kernel
theorem dX1_roomsOf_39 : decode cX1_roomsOf 39 = .ok (.aaload, 1) := by decide +kernel
theorem dX1_roomsOf_40 : decode cX1_roomsOf 40 = .ok (.iload 4, 2) := by decide +kernel
theorem dX1_roomsOf_42 : decode cX1_roomsOf 42 = .ok (.iaload, 1) := by decide +kernel
theorem dX1_roomsOf_43 : decode cX1_roomsOf 43 = .ok (.iconst (-1), 1) := by decide +kernel
theorem dX1_roomsOf_44 : decode cX1_roomsOf 44 = .ok (.if_icmp .ne 9, 3) := by decide +kernel
theorem dX1_roomsOf_47 : decode cX1_roomsOf 47 = .ok (.iinc 4 1, 3) := by decide +kernel
theorem dX1_roomsOf_50 : decode cX1_roomsOf 50 = .ok (.goto (-23), 3) := by decide +kernel
theorem dX1_roomsOf_53 : decode cX1_roomsOf 53 = .ok (.aload_n 0, 1) := by decide +kernel
theorem dX1_roomsOf_54 : decode cX1_roomsOf 54 = .ok (.iload_n 1, 1) := by decide +kernel
theorem dX1_roomsOf_55 : decode cX1_roomsOf 55 = .ok (.invokevirtual 81, 3) := by decide +kernel
theorem dX1_roomsOf_58 : decode cX1_roomsOf 58 = .ok (.astore 5, 2) := by decide +kernel
theorem dX1_roomsOf_60 : decode cX1_roomsOf 60 = .ok (.iconst 0, 1) := by decide +kernel
theorem dX1_roomsOf_61 : decode cX1_roomsOf 61 = .ok (.istore 6, 2) := by decide +kernel
theorem dX1_roomsOf_63 : decode cX1_roomsOf 63 = .ok (.iconst 0, 1) := by decide +kernel
theorem dX1_roomsOf_64 : decode cX1_roomsOf 64 = .ok (.istore 7, 2) := by decide +kernel
theorem dX1_roomsOf_66 : decode cX1_roomsOf 66 = .ok (.iload 7, 2) := by decide +kernel
theorem dX1_roomsOf_68 : decode cX1_roomsOf 68 = .ok (.aload_n 0, 1) := by decide +kernel
theorem dX1_roomsOf_69 : decode cX1_roomsOf 69 = .ok (.getfield 16, 3) := by decide +kernel
theorem dX1_roomsOf_72 : decode cX1_roomsOf 72 = .ok (.getfield 85, 3) := by decide +kernel
theorem dX1_roomsOf_75 : decode cX1_roomsOf 75 = .ok (.if_icmp .ge 71, 3) := by decide +kernel
theorem dX1_roomsOf_78 : decode cX1_roomsOf 78 = .ok (.iload_n 3, 1) := by decide +kernel
theorem dX1_roomsOf_79 : decode cX1_roomsOf 79 = .ok (.ifCond .lt 23, 3) := by decide +kernel
theorem dX1_roomsOf_82 : decode cX1_roomsOf 82 = .ok (.aload 5, 2) := by decide +kernel
theorem dX1_roomsOf_84 : decode cX1_roomsOf 84 = .ok (.aload_n 0, 1) := by decide +kernel
theorem dX1_roomsOf_85 : decode cX1_roomsOf 85 = .ok (.getfield 11, 3) := by decide +kernel
theorem dX1_roomsOf_88 : decode cX1_roomsOf 88 = .ok (.iload_n 1, 1) := by decide +kernel
theorem dX1_roomsOf_89 : decode cX1_roomsOf 89 = .ok (.aaload, 1) := by decide +kernel
theorem dX1_roomsOf_90 : decode cX1_roomsOf 90 = .ok (.iload_n 3, 1) := by decide +kernel
theorem dX1_roomsOf_91 : decode cX1_roomsOf 91 = .ok (.iaload, 1) := by decide +kernel
theorem dX1_roomsOf_92 : decode cX1_roomsOf 92 = .ok (.aaload, 1) := by decide +kernel
theorem dX1_roomsOf_93 : decode cX1_roomsOf 93 = .ok (.iload 7, 2) := by decide +kernel
theorem dX1_roomsOf_95 : decode cX1_roomsOf 95 = .ok (.iaload, 1) := by decide +kernel
theorem dX1_roomsOf_96 : decode cX1_roomsOf 96 = .ok (.iload_n 2, 1) := by decide +kernel
theorem dX1_roomsOf_97 : decode cX1_roomsOf 97 = .ok (.iload_n 3, 1) := by decide +kernel
theorem dX1_roomsOf_98 : decode cX1_roomsOf 98 = .ok (.isub, 1) := by decide +kernel
theorem dX1_roomsOf_99 : decode cX1_roomsOf 99 = .ok (.if_icmp .gt 41, 3) := by decide +kernel
theorem dX1_roomsOf_102 : decode cX1_roomsOf 102 = .ok (.iload 4, 2) := by decide +kernel
theorem dX1_roomsOf_104 : decode cX1_roomsOf 104 = .ok (.bipush 24, 2) := by decide +kernel
theorem dX1_roomsOf_106 : decode cX1_roomsOf 106 = .ok (.if_icmp .eq 25, 3) := by decide +kernel
theorem dX1_roomsOf_109 : decode cX1_roomsOf 109 = .ok (.aload 5, 2) := by decide +kernel
theorem dX1_roomsOf_111 : decode cX1_roomsOf 111 = .ok (.iload 7, 2) := by decide +kernel
theorem dX1_roomsOf_113 : decode cX1_roomsOf 113 = .ok (.aaload, 1) := by decide +kernel
theorem dX1_roomsOf_114 : decode cX1_roomsOf 114 = .ok (.aload_n 0, 1) := by decide +kernel
theorem dX1_roomsOf_115 : decode cX1_roomsOf 115 = .ok (.getfield 11, 3) := by decide +kernel
theorem dX1_roomsOf_118 : decode cX1_roomsOf 118 = .ok (.iload_n 1, 1) := by decide +kernel
theorem dX1_roomsOf_119 : decode cX1_roomsOf 119 = .ok (.aaload, 1) := by decide +kernel
theorem dX1_roomsOf_120 : decode cX1_roomsOf 120 = .ok (.iload 4, 2) := by decide +kernel
theorem dX1_roomsOf_122 : decode cX1_roomsOf 122 = .ok (.iaload, 1) := by decide +kernel
theorem dX1_roomsOf_123 : decode cX1_roomsOf 123 = .ok (.iaload, 1) := by decide +kernel
theorem dX1_roomsOf_124 : decode cX1_roomsOf 124 = .ok (.iload 4, 2) := by decide +kernel
theorem dX1_roomsOf_126 : decode cX1_roomsOf 126 = .ok (.iload_n 2, 1) := by decide +kernel
theorem dX1_roomsOf_127 : decode cX1_roomsOf 127 = .ok (.isub, 1) := by decide +kernel
theorem dX1_roomsOf_128 : decode cX1_roomsOf 128 = .ok (.if_icmp .gt 12, 3) := by decide +kernel
theorem dX1_roomsOf_131 : decode cX1_roomsOf 131 = .ok (.iload 6, 2) := by decide +kernel
theorem dX1_roomsOf_133 : decode cX1_roomsOf 133 = .ok (.iconst 1, 1) := by decide +kernel
theorem dX1_roomsOf_134 : decode cX1_roomsOf 134 = .ok (.iload 7, 2) := by decide +kernel
theorem dX1_roomsOf_136 : decode cX1_roomsOf 136 = .ok (.ishl, 1) := by decide +kernel
theorem dX1_roomsOf_137 : decode cX1_roomsOf 137 = .ok (.ior, 1) := by decide +kernel
theorem dX1_roomsOf_138 : decode cX1_roomsOf 138 = .ok (.istore 6, 2) := by decide +kernel
theorem dX1_roomsOf_140 : decode cX1_roomsOf 140 = .ok (.iinc 7 1, 3) := by decide +kernel
theorem dX1_roomsOf_143 : decode cX1_roomsOf 143 = .ok (.goto (-77), 3) := by decide +kernel
theorem dX1_roomsOf_146 : decode cX1_roomsOf 146 = .ok (.iload 6, 2) := by decide +kernel
theorem dX1_roomsOf_148 : decode cX1_roomsOf 148 = .ok (.ireturn, 1) := by decide +kernel
theorem dX1_isSuspect_0 : decode cX1_isSuspect 0 = .ok (.aload_n 0, 1) := by decide +kernel
theorem dX1_isSuspect_1 : decode cX1_isSuspect 1 = .ok (.getfield 20, 3) := by decide +kernel
theorem dX1_isSuspect_4 : decode cX1_isSuspect 4 = .ok (.getfield 87, 3) := by decide +kernel
theorem dX1_isSuspect_7 : decode cX1_isSuspect 7 = .ok (.istore_n 2, 1) := by decide +kernel
theorem dX1_isSuspect_8 : decode cX1_isSuspect 8 = .ok (.iload_n 2, 1) := by decide +kernel
theorem dX1_isSuspect_9 : decode cX1_isSuspect 9 = .ok (.aload_n 0, 1) := by decide +kernel
theorem dX1_isSuspect_10 : decode cX1_isSuspect 10 = .ok (.getfield 20, 3) := by decide +kernel
theorem dX1_isSuspect_13 : decode cX1_isSuspect 13 = .ok (.getfield 90, 3) := by decide +kernel
theorem dX1_isSuspect_16 : decode cX1_isSuspect 16 = .ok (.if_icmp .gt 39, 3) := by decide +kernel
theorem dX1_isSuspect_19 : decode cX1_isSuspect 19 = .ok (.aload_n 0, 1) := by decide +kernel
theorem dX1_isSuspect_20 : decode cX1_isSuspect 20 = .ok (.iload_n 1, 1) := by decide +kernel
theorem dX1_isSuspect_21 : decode cX1_isSuspect 21 = .ok (.iload_n 2, 1) := by decide +kernel
theorem dX1_isSuspect_22 : decode cX1_isSuspect 22 = .ok (.invokevirtual 93, 3) := by decide +kernel
theorem dX1_isSuspect_25 : decode cX1_isSuspect 25 = .ok (.aload_n 0, 1) := by decide +kernel
theorem dX1_isSuspect_26 : decode cX1_isSuspect 26 = .ok (.getfield 20, 3) := by decide +kernel
theorem dX1_isSuspect_29 : decode cX1_isSuspect 29 = .ok (.getfield 97, 3) := by decide +kernel
theorem dX1_isSuspect_32 : decode cX1_isSuspect 32 = .ok (.ishr, 1) := by decide +kernel
theorem dX1_isSuspect_33 : decode cX1_isSuspect 33 = .ok (.iconst 1, 1) := by decide +kernel
theorem dX1_isSuspect_34 : decode cX1_isSuspect 34 = .ok (.iand, 1) := by decide +kernel
theorem dX1_isSuspect_35 : decode cX1_isSuspect 35 = .ok (.ifCond .eq 14, 3) := by decide +kernel
theorem dX1_isSuspect_38 : decode cX1_isSuspect 38 = .ok (.aload_n 0, 1) := by decide +kernel
theorem dX1_isSuspect_39 : decode cX1_isSuspect 39 = .ok (.iload_n 1, 1) := by decide +kernel
theorem dX1_isSuspect_40 : decode cX1_isSuspect 40 = .ok (.iload_n 2, 1) := by decide +kernel
theorem dX1_isSuspect_41 : decode cX1_isSuspect 41 = .ok (.invokevirtual 100, 3) := by decide +kernel
theorem dX1_isSuspect_44 : decode cX1_isSuspect 44 = .ok (.ifCond .eq 5, 3) := by decide +kernel
theorem dX1_isSuspect_47 : decode cX1_isSuspect 47 = .ok (.iconst 1, 1) := by decide +kernel
theorem dX1_isSuspect_48 : decode cX1_isSuspect 48 = .ok (.ireturn, 1) := by decide +kernel
theorem dX1_isSuspect_49 : decode cX1_isSuspect 49 = .ok (.iinc 2 1, 3) := by decide +kernel
theorem dX1_isSuspect_52 : decode cX1_isSuspect 52 = .ok (.goto (-44), 3) := by decide +kernel
theorem dX1_isSuspect_55 : decode cX1_isSuspect 55 = .ok (.iconst 0, 1) := by decide +kernel
theorem dX1_isSuspect_56 : decode cX1_isSuspect 56 = .ok (.ireturn, 1) := by decide +kernel
theorem dX1_othersMayBeElsewhere_0 : decode cX1_othersMayBeElsewhere 0 = .ok (.iconst 0, 1) := by decide +kernel
theorem dX1_othersMayBeElsewhere_1 : decode cX1_othersMayBeElsewhere 1 = .ok (.istore_n 3, 1) := by decide +kernel
theorem dX1_othersMayBeElsewhere_2 : decode cX1_othersMayBeElsewhere 2 = .ok (.iload_n 3, 1) := by decide +kernel
theorem dX1_othersMayBeElsewhere_3 : decode cX1_othersMayBeElsewhere 3 = .ok (.aload_n 0, 1) := by decide +kernel
theorem dX1_othersMayBeElsewhere_4 : decode cX1_othersMayBeElsewhere 4 = .ok (.getfield 20, 3) := by decide +kernel
theorem dX1_othersMayBeElsewhere_7 : decode cX1_othersMayBeElsewhere 7 = .ok (.getfield 34, 3) := by decide +kernel
theorem dX1_othersMayBeElsewhere_10 : decode cX1_othersMayBeElsewhere 10 = .ok (.if_icmp .ge 37, 3) := by decide +kernel
theorem dX1_othersMayBeElsewhere_13 : decode cX1_othersMayBeElsewhere 13 = .ok (.iload_n 3, 1) := by decide +kernel
theorem dX1_othersMayBeElsewhere_14 : decode cX1_othersMayBeElsewhere 14 = .ok (.iload_n 1, 1) := by decide +kernel
theorem dX1_othersMayBeElsewhere_15 : decode cX1_othersMayBeElsewhere 15 = .ok (.if_icmp .eq 26, 3) := by decide +kernel
theorem dX1_othersMayBeElsewhere_18 : decode cX1_othersMayBeElsewhere 18 = .ok (.aload_n 0, 1) := by decide +kernel
theorem dX1_othersMayBeElsewhere_19 : decode cX1_othersMayBeElsewhere 19 = .ok (.iload_n 3, 1) := by decide +kernel
theorem dX1_othersMayBeElsewhere_20 : decode cX1_othersMayBeElsewhere 20 = .ok (.iload_n 2, 1) := by decide +kernel
theorem dX1_othersMayBeElsewhere_21 : decode cX1_othersMayBeElsewhere 21 = .ok (.invokevirtual 93, 3) := by decide +kernel
theorem dX1_othersMayBeElsewhere_24 : decode cX1_othersMayBeElsewhere 24 = .ok (.iconst 1, 1) := by decide +kernel
theorem dX1_othersMayBeElsewhere_25 : decode cX1_othersMayBeElsewhere 25 = .ok (.aload_n 0, 1) := by decide +kernel
theorem dX1_othersMayBeElsewhere_26 : decode cX1_othersMayBeElsewhere 26 = .ok (.getfield 20, 3) := by decide +kernel
theorem dX1_othersMayBeElsewhere_29 : decode cX1_othersMayBeElsewhere 29 = .ok (.getfield 97, 3) := by decide +kernel
theorem dX1_othersMayBeElsewhere_32 : decode cX1_othersMayBeElsewhere 32 = .ok (.ishl, 1) := by decide +kernel
theorem dX1_othersMayBeElsewhere_33 : decode cX1_othersMayBeElsewhere 33 = .ok (.iconst (-1), 1) := by decide +kernel
theorem dX1_othersMayBeElsewhere_34 : decode cX1_othersMayBeElsewhere 34 = .ok (.ixor, 1) := by decide +kernel
theorem dX1_othersMayBeElsewhere_35 : decode cX1_othersMayBeElsewhere 35 = .ok (.iand, 1) := by decide +kernel
theorem dX1_othersMayBeElsewhere_36 : decode cX1_othersMayBeElsewhere 36 = .ok (.ifCond .ne 5, 3) := by decide +kernel
theorem dX1_othersMayBeElsewhere_39 : decode cX1_othersMayBeElsewhere 39 = .ok (.iconst 0, 1) := by decide +kernel
theorem dX1_othersMayBeElsewhere_40 : decode cX1_othersMayBeElsewhere 40 = .ok (.ireturn, 1) := by decide +kernel
theorem dX1_othersMayBeElsewhere_41 : decode cX1_othersMayBeElsewhere 41 = .ok (.iinc 3 1, 3) := by decide +kernel
theorem dX1_othersMayBeElsewhere_44 : decode cX1_othersMayBeElsewhere 44 = .ok (.goto (-42), 3) := by decide +kernel
theorem dX1_othersMayBeElsewhere_47 : decode cX1_othersMayBeElsewhere 47 = .ok (.iconst 1, 1) := by decide +kernel
theorem dX1_othersMayBeElsewhere_48 : decode cX1_othersMayBeElsewhere 48 = .ok (.ireturn, 1) := by decide +kernel
theorem dX2_init_0 : decode cX2_init 0 = .ok (.aload_n 0, 1) := by decide +kernel
theorem dX2_init_1 : decode cX2_init 1 = .ok (.invokespecial 3, 3) := by decide +kernel
theorem dX2_init_4 : decode cX2_init 4 = .ok (.aload_n 0, 1) := by decide +kernel
theorem dX2_init_5 : decode cX2_init 5 = .ok (.iconst 5, 1) := by decide +kernel
theorem dX2_init_6 : decode cX2_init 6 = .ok (.newarray .int, 2) := by decide +kernel
theorem dX2_init_8 : decode cX2_init 8 = .ok (.putfield 9, 3) := by decide +kernel
theorem dX2_init_11 : decode cX2_init 11 = .ok (.aload_n 0, 1) := by decide +kernel
theorem dX2_init_12 : decode cX2_init 12 = .ok (.iconst 5, 1) := by decide +kernel
theorem dX2_init_13 : decode cX2_init 13 = .ok (.newarray .int, 2) := by decide +kernel
theorem dX2_init_15 : decode cX2_init 15 = .ok (.putfield 15, 3) := by decide +kernel
theorem dX2_init_18 : decode cX2_init 18 = .ok (.aload_n 0, 1) := by decide +kernel
theorem dX2_init_19 : decode cX2_init 19 = .ok (.iconst 5, 1) := by decide +kernel
theorem dX2_init_20 : decode cX2_init 20 = .ok (.newarray .int, 2) := by decide +kernel
theorem dX2_init_22 : decode cX2_init 22 = .ok (.putfield 18, 3) := by decide +kernel
theorem dX2_init_25 : decode cX2_init 25 = .ok (.aload_n 0, 1) := by decide +kernel
theorem dX2_init_26 : decode cX2_init 26 = .ok (.iconst 5, 1) := by decide +kernel
theorem dX2_init_27 : decode cX2_init 27 = .ok (.newarray .int, 2) := by decide +kernel
theorem dX2_init_29 : decode cX2_init 29 = .ok (.putfield 21, 3) := by decide +kernel
theorem dX2_init_32 : decode cX2_init 32 = .ok (.return_, 1) := by decide +kernel
theorem dX3_init_0 : decode cX3_init 0 = .ok (.aload_n 0, 1) := by decide +kernel
theorem dX3_init_1 : decode cX3_init 1 = .ok (.invokespecial 3, 3) := by decide +kernel
theorem dX3_init_4 : decode cX3_init 4 = .ok (.aload_n 0, 1) := by decide +kernel
theorem dX3_init_5 : decode cX3_init 5 = .ok (.new 9, 3) := by decide +kernel
theorem dX3_init_8 : decode cX3_init 8 = .ok (.dup, 1) := by decide +kernel
theorem dX3_init_9 : decode cX3_init 9 = .ok (.invokespecial 11, 3) := by decide +kernel
theorem dX3_init_12 : decode cX3_init 12 = .ok (.putfield 12, 3) := by decide +kernel
theorem dX3_init_15 : decode cX3_init 15 = .ok (.aload_n 0, 1) := by decide +kernel
theorem dX3_init_16 : decode cX3_init 16 = .ok (.new 9, 3) := by decide +kernel
theorem dX3_init_19 : decode cX3_init 19 = .ok (.dup, 1) := by decide +kernel
theorem dX3_init_20 : decode cX3_init 20 = .ok (.invokespecial 11, 3) := by decide +kernel
theorem dX3_init_23 : decode cX3_init 23 = .ok (.putfield 18, 3) := by decide +kernel
theorem dX3_init_26 : decode cX3_init 26 = .ok (.aload_n 0, 1) := by decide +kernel
theorem dX3_init_27 : decode cX3_init 27 = .ok (.bipush 24, 2) := by decide +kernel
theorem dX3_init_29 : decode cX3_init 29 = .ok (.bipush 10, 2) := by decide +kernel
theorem dX3_init_31 : decode cX3_init 31 = .ok (.multianewarray 21 2, 4) := by decide +kernel
theorem dX3_init_35 : decode cX3_init 35 = .ok (.putfield 23, 3) := by decide +kernel
theorem dX3_init_38 : decode cX3_init 38 = .ok (.aload_n 0, 1) := by decide +kernel
theorem dX3_init_39 : decode cX3_init 39 = .ok (.iconst 3, 1) := by decide +kernel
theorem dX3_init_40 : decode cX3_init 40 = .ok (.bipush 32, 2) := by decide +kernel
theorem dX3_init_42 : decode cX3_init 42 = .ok (.multianewarray 21 2, 4) := by decide +kernel
theorem dX3_init_46 : decode cX3_init 46 = .ok (.putfield 26, 3) := by decide +kernel
theorem dX3_init_49 : decode cX3_init 49 = .ok (.aload_n 0, 1) := by decide +kernel
theorem dX3_init_50 : decode cX3_init 50 = .ok (.iconst 3, 1) := by decide +kernel
theorem dX3_init_51 : decode cX3_init 51 = .ok (.newarray .int, 2) := by decide +kernel
theorem dX3_init_53 : decode cX3_init 53 = .ok (.putfield 29, 3) := by decide +kernel
theorem dX3_init_56 : decode cX3_init 56 = .ok (.aload_n 0, 1) := by decide +kernel
theorem dX3_init_57 : decode cX3_init 57 = .ok (.iconst 3, 1) := by decide +kernel
theorem dX3_init_58 : decode cX3_init 58 = .ok (.newarray .int, 2) := by decide +kernel
theorem dX3_init_60 : decode cX3_init 60 = .ok (.putfield 33, 3) := by decide +kernel
theorem dX3_init_63 : decode cX3_init 63 = .ok (.aload_n 0, 1) := by decide +kernel
theorem dX3_init_64 : decode cX3_init 64 = .ok (.iconst 3, 1) := by decide +kernel
theorem dX3_init_65 : decode cX3_init 65 = .ok (.newarray .int, 2) := by decide +kernel
theorem dX3_init_67 : decode cX3_init 67 = .ok (.putfield 36, 3) := by decide +kernel
theorem dX3_init_70 : decode cX3_init 70 = .ok (.aload_n 0, 1) := by decide +kernel
theorem dX3_init_71 : decode cX3_init 71 = .ok (.aload_n 1, 1) := by decide +kernel
theorem dX3_init_72 : decode cX3_init 72 = .ok (.putfield 39, 3) := by decide +kernel
theorem dX3_init_75 : decode cX3_init 75 = .ok (.aload_n 0, 1) := by decide +kernel
theorem dX3_init_76 : decode cX3_init 76 = .ok (.aload_n 2, 1) := by decide +kernel
theorem dX3_init_77 : decode cX3_init 77 = .ok (.putfield 43, 3) := by decide +kernel
theorem dX3_init_80 : decode cX3_init 80 = .ok (.aload_n 0, 1) := by decide +kernel
theorem dX3_init_81 : decode cX3_init 81 = .ok (.aload_n 3, 1) := by decide +kernel
theorem dX3_init_82 : decode cX3_init 82 = .ok (.putfield 47, 3) := by decide +kernel
theorem dX3_init_85 : decode cX3_init 85 = .ok (.return_, 1) := by decide +kernel
theorem dX3_plan_0 : decode cX3_plan 0 = .ok (.iload_n 1, 1) := by decide +kernel
theorem dX3_plan_1 : decode cX3_plan 1 = .ok (.ifCond .ne 10, 3) := by decide +kernel
theorem dX3_plan_4 : decode cX3_plan 4 = .ok (.aload_n 0, 1) := by decide +kernel
theorem dX3_plan_5 : decode cX3_plan 5 = .ok (.getfield 12, 3) := by decide +kernel
theorem dX3_plan_8 : decode cX3_plan 8 = .ok (.goto 7, 3) := by decide +kernel
theorem dX3_plan_11 : decode cX3_plan 11 = .ok (.aload_n 0, 1) := by decide +kernel
theorem dX3_plan_12 : decode cX3_plan 12 = .ok (.getfield 18, 3) := by decide +kernel
theorem dX3_plan_15 : decode cX3_plan 15 = .ok (.areturn, 1) := by decide +kernel
theorem dX3_prepare_0 : decode cX3_prepare 0 = .ok (.aload_n 0, 1) := by decide +kernel
theorem dX3_prepare_1 : decode cX3_prepare 1 = .ok (.getfield 51, 3) := by decide +kernel
theorem dX3_prepare_4 : decode cX3_prepare 4 = .ok (.ifCond .eq 4, 3) := by decide +kernel
theorem dX3_prepare_7 : decode cX3_prepare 7 = .ok (.return_, 1) := by decide +kernel
theorem dX3_prepare_8 : decode cX3_prepare 8 = .ok (.aload_n 0, 1) := by decide +kernel
theorem dX3_prepare_9 : decode cX3_prepare 9 = .ok (.getfield 47, 3) := by decide +kernel
theorem dX3_prepare_12 : decode cX3_prepare 12 = .ok (.invokevirtual 55, 3) := by decide +kernel
theorem dX3_prepare_15 : decode cX3_prepare 15 = .ok (.iconst 0, 1) := by decide +kernel
theorem dX3_prepare_16 : decode cX3_prepare 16 = .ok (.istore_n 1, 1) := by decide +kernel
theorem dX3_prepare_17 : decode cX3_prepare 17 = .ok (.iload_n 1, 1) := by decide +kernel
theorem dX3_prepare_18 : decode cX3_prepare 18 = .ok (.bipush 24, 2) := by decide +kernel
theorem dX3_prepare_20 : decode cX3_prepare 20 = .ok (.if_icmp .ge 14, 3) := by decide +kernel
theorem dX3_prepare_23 : decode cX3_prepare 23 = .ok (.aload_n 0, 1) := by decide +kernel
theorem dX3_prepare_24 : decode cX3_prepare 24 = .ok (.iload_n 1, 1) := by decide +kernel
theorem dX3_prepare_25 : decode cX3_prepare 25 = .ok (.invokevirtual 60, 3) := by decide +kernel
theorem dX3_prepare_28 : decode cX3_prepare 28 = .ok (.iinc 1 1, 3) := by decide +kernel
theorem dX3_prepare_31 : decode cX3_prepare 31 = .ok (.goto (-14), 3) := by decide +kernel
theorem dX3_prepare_34 : decode cX3_prepare 34 = .ok (.aload_n 0, 1) := by decide +kernel
theorem dX3_prepare_35 : decode cX3_prepare 35 = .ok (.getfield 43, 3) := by decide +kernel
theorem dX3_prepare_38 : decode cX3_prepare 38 = .ok (.invokevirtual 64, 3) := by decide +kernel
theorem dX3_prepare_41 : decode cX3_prepare 41 = .ok (.istore_n 1, 1) := by decide +kernel
theorem dX3_prepare_42 : decode cX3_prepare 42 = .ok (.iconst 0, 1) := by decide +kernel
theorem dX3_prepare_43 : decode cX3_prepare 43 = .ok (.istore_n 2, 1) := by decide +kernel
theorem dX3_prepare_44 : decode cX3_prepare 44 = .ok (.iload_n 2, 1) := by decide +kernel
theorem dX3_prepare_45 : decode cX3_prepare 45 = .ok (.aload_n 0, 1) := by decide +kernel
theorem dX3_prepare_46 : decode cX3_prepare 46 = .ok (.getfield 43, 3) := by decide +kernel
theorem dX3_prepare_49 : decode cX3_prepare 49 = .ok (.getfield 70, 3) := by decide +kernel
theorem dX3_prepare_52 : decode cX3_prepare 52 = .ok (.if_icmp .ge 22, 3) := by decide +kernel
theorem dX3_prepare_55 : decode cX3_prepare 55 = .ok (.iload_n 1, 1) := by decide +kernel
theorem dX3_prepare_56 : decode cX3_prepare 56 = .ok (.iload_n 2, 1) := by decide +kernel
theorem dX3_prepare_57 : decode cX3_prepare 57 = .ok (.ishr, 1) := by decide +kernel
theorem dX3_prepare_58 : decode cX3_prepare 58 = .ok (.iconst 1, 1) := by decide +kernel
theorem dX3_prepare_59 : decode cX3_prepare 59 = .ok (.iand, 1) := by decide +kernel
theorem dX3_prepare_60 : decode cX3_prepare 60 = .ok (.ifCond .eq 8, 3) := by decide +kernel
theorem dX3_prepare_63 : decode cX3_prepare 63 = .ok (.aload_n 0, 1) := by decide +kernel
theorem dX3_prepare_64 : decode cX3_prepare 64 = .ok (.iload_n 2, 1) := by decide +kernel
theorem dX3_prepare_65 : decode cX3_prepare 65 = .ok (.invokevirtual 74, 3) := by decide +kernel
theorem dX3_prepare_68 : decode cX3_prepare 68 = .ok (.iinc 2 1, 3) := by decide +kernel
theorem dX3_prepare_71 : decode cX3_prepare 71 = .ok (.goto (-27), 3) := by decide +kernel
theorem dX3_prepare_74 : decode cX3_prepare 74 = .ok (.aload_n 0, 1) := by decide +kernel
theorem dX3_prepare_75 : decode cX3_prepare 75 = .ok (.iload_n 1, 1) := by decide +kernel
theorem dX3_prepare_76 : decode cX3_prepare 76 = .ok (.invokevirtual 77, 3) := by decide +kernel
theorem dX3_prepare_79 : decode cX3_prepare 79 = .ok (.aload_n 0, 1) := by decide +kernel
theorem dX3_prepare_80 : decode cX3_prepare 80 = .ok (.iload_n 1, 1) := by decide +kernel
theorem dX3_prepare_81 : decode cX3_prepare 81 = .ok (.invokevirtual 80, 3) := by decide +kernel
theorem dX3_prepare_84 : decode cX3_prepare 84 = .ok (.aload_n 0, 1) := by decide +kernel
theorem dX3_prepare_85 : decode cX3_prepare 85 = .ok (.iconst 1, 1) := by decide +kernel
theorem dX3_prepare_86 : decode cX3_prepare 86 = .ok (.putfield 51, 3) := by decide +kernel
theorem dX3_prepare_89 : decode cX3_prepare 89 = .ok (.return_, 1) := by decide +kernel
theorem dX3_fillEnds_0 : decode cX3_fillEnds 0 = .ok (.aload_n 0, 1) := by decide +kernel
theorem dX3_fillEnds_1 : decode cX3_fillEnds 1 = .ok (.getfield 23, 3) := by decide +kernel
theorem dX3_fillEnds_4 : decode cX3_fillEnds 4 = .ok (.iload_n 1, 1) := by decide +kernel
theorem dX3_fillEnds_5 : decode cX3_fillEnds 5 = .ok (.aaload, 1) := by decide +kernel
theorem dX3_fillEnds_6 : decode cX3_fillEnds 6 = .ok (.astore_n 2, 1) := by decide +kernel
theorem dX3_fillEnds_7 : decode cX3_fillEnds 7 = .ok (.aload_n 2, 1) := by decide +kernel
theorem dX3_fillEnds_8 : decode cX3_fillEnds 8 = .ok (.bipush 24, 2) := by decide +kernel
theorem dX3_fillEnds_10 : decode cX3_fillEnds 10 = .ok (.invokestatic 83, 3) := by decide +kernel
theorem dX3_fillEnds_13 : decode cX3_fillEnds 13 = .ok (.iconst 0, 1) := by decide +kernel
theorem dX3_fillEnds_14 : decode cX3_fillEnds 14 = .ok (.istore_n 3, 1) := by decide +kernel
theorem dX3_fillEnds_15 : decode cX3_fillEnds 15 = .ok (.aload_n 0, 1) := by decide +kernel
theorem dX3_fillEnds_16 : decode cX3_fillEnds 16 = .ok (.getfield 47, 3) := by decide +kernel
theorem dX3_fillEnds_19 : decode cX3_fillEnds 19 = .ok (.aload_n 0, 1) := by decide +kernel
theorem dX3_fillEnds_20 : decode cX3_fillEnds 20 = .ok (.getfield 43, 3) := by decide +kernel
theorem dX3_fillEnds_23 : decode cX3_fillEnds 23 = .ok (.getfield 89, 3) := by decide +kernel
theorem dX3_fillEnds_26 : decode cX3_fillEnds 26 = .ok (.iload_n 1, 1) := by decide +kernel
theorem dX3_fillEnds_27 : decode cX3_fillEnds 27 = .ok (.iconst 1, 1) := by decide +kernel
theorem dX3_fillEnds_28 : decode cX3_fillEnds 28 = .ok (.invokevirtual 92, 3) := by decide +kernel
theorem dX3_fillEnds_31 : decode cX3_fillEnds 31 = .ok (.ifCond .eq 15, 3) := by decide +kernel
theorem dX3_fillEnds_34 : decode cX3_fillEnds 34 = .ok (.iconst 1, 1) := by decide +kernel
theorem dX3_fillEnds_35 : decode cX3_fillEnds 35 = .ok (.aload_n 0, 1) := by decide +kernel
theorem dX3_fillEnds_36 : decode cX3_fillEnds 36 = .ok (.getfield 43, 3) := by decide +kernel
theorem dX3_fillEnds_39 : decode cX3_fillEnds 39 = .ok (.getfield 89, 3) := by decide +kernel
theorem dX3_fillEnds_42 : decode cX3_fillEnds 42 = .ok (.ishl, 1) := by decide +kernel
theorem dX3_fillEnds_43 : decode cX3_fillEnds 43 = .ok (.goto 4, 3) := by decide +kernel
theorem dX3_fillEnds_46 : decode cX3_fillEnds 46 = .ok (.iconst 0, 1) := by decide +kernel
theorem dX3_fillEnds_47 : decode cX3_fillEnds 47 = .ok (.istore 4, 2) := by decide +kernel
theorem dX3_fillEnds_49 : decode cX3_fillEnds 49 = .ok (.iload_n 1, 1) := by decide +kernel
theorem dX3_fillEnds_50 : decode cX3_fillEnds 50 = .ok (.istore 5, 2) := by decide +kernel
theorem dX3_fillEnds_52 : decode cX3_fillEnds 52 = .ok (.iload 5, 2) := by decide +kernel
theorem dX3_fillEnds_54 : decode cX3_fillEnds 54 = .ok (.bipush 24, 2) := by decide +kernel
theorem dX3_fillEnds_56 : decode cX3_fillEnds 56 = .ok (.if_icmp .ge 94, 3) := by decide +kernel
theorem dX3_fillEnds_59 : decode cX3_fillEnds 59 = .ok (.iload 4, 2) := by decide +kernel
theorem dX3_fillEnds_61 : decode cX3_fillEnds 61 = .ok (.ifCond .eq 89, 3) := by decide +kernel
theorem dX3_fillEnds_64 : decode cX3_fillEnds 64 = .ok (.iload 4, 2) := by decide +kernel
theorem dX3_fillEnds_66 : decode cX3_fillEnds 66 = .ok (.iload_n 3, 1) := by decide +kernel
theorem dX3_fillEnds_67 : decode cX3_fillEnds 67 = .ok (.iconst (-1), 1) := by decide +kernel
theorem dX3_fillEnds_68 : decode cX3_fillEnds 68 = .ok (.ixor, 1) := by decide +kernel
theorem dX3_fillEnds_69 : decode cX3_fillEnds 69 = .ok (.iand, 1) := by decide +kernel
theorem dX3_fillEnds_70 : decode cX3_fillEnds 70 = .ok (.istore 6, 2) := by decide +kernel
theorem dX3_fillEnds_72 : decode cX3_fillEnds 72 = .ok (.iconst 0, 1) := by decide +kernel
theorem dX3_fillEnds_73 : decode cX3_fillEnds 73 = .ok (.istore 7, 2) := by decide +kernel
theorem dX3_fillEnds_75 : decode cX3_fillEnds 75 = .ok (.iload 7, 2) := by decide +kernel
theorem dX3_fillEnds_77 : decode cX3_fillEnds 77 = .ok (.aload_n 0, 1) := by decide +kernel
theorem dX3_fillEnds_78 : decode cX3_fillEnds 78 = .ok (.getfield 39, 3) := by decide +kernel
theorem dX3_fillEnds_81 : decode cX3_fillEnds 81 = .ok (.getfield 96, 3) := by decide +kernel
theorem dX3_fillEnds_84 : decode cX3_fillEnds 84 = .ok (.if_icmp .ge 30, 3) := by decide +kernel
theorem dX3_fillEnds_87 : decode cX3_fillEnds 87 = .ok (.iload 6, 2) := by decide +kernel
theorem dX3_fillEnds_89 : decode cX3_fillEnds 89 = .ok (.ifCond .eq 25, 3) := by decide +kernel
theorem dX3_fillEnds_92 : decode cX3_fillEnds 92 = .ok (.iload 6, 2) := by decide +kernel
theorem dX3_fillEnds_94 : decode cX3_fillEnds 94 = .ok (.iload 7, 2) := by decide +kernel
theorem dX3_fillEnds_96 : decode cX3_fillEnds 96 = .ok (.ishr, 1) := by decide +kernel
theorem dX3_fillEnds_97 : decode cX3_fillEnds 97 = .ok (.iconst 1, 1) := by decide +kernel
theorem dX3_fillEnds_98 : decode cX3_fillEnds 98 = .ok (.iand, 1) := by decide +kernel
theorem dX3_fillEnds_99 : decode cX3_fillEnds 99 = .ok (.ifCond .eq 9, 3) := by decide +kernel
theorem dX3_fillEnds_102 : decode cX3_fillEnds 102 = .ok (.aload_n 2, 1) := by decide +kernel
theorem dX3_fillEnds_103 : decode cX3_fillEnds 103 = .ok (.iload 7, 2) := by decide +kernel
theorem dX3_fillEnds_105 : decode cX3_fillEnds 105 = .ok (.iload 5, 2) := by decide +kernel
theorem dX3_fillEnds_107 : decode cX3_fillEnds 107 = .ok (.iastore, 1) := by decide +kernel
theorem dX3_fillEnds_108 : decode cX3_fillEnds 108 = .ok (.iinc 7 1, 3) := by decide +kernel
theorem dX3_fillEnds_111 : decode cX3_fillEnds 111 = .ok (.goto (-36), 3) := by decide +kernel
theorem dX3_fillEnds_114 : decode cX3_fillEnds 114 = .ok (.iload_n 3, 1) := by decide +kernel
theorem dX3_fillEnds_115 : decode cX3_fillEnds 115 = .ok (.iload 4, 2) := by decide +kernel
theorem dX3_fillEnds_117 : decode cX3_fillEnds 117 = .ok (.ior, 1) := by decide +kernel
theorem dX3_fillEnds_118 : decode cX3_fillEnds 118 = .ok (.istore_n 3, 1) := by decide +kernel
theorem dX3_fillEnds_119 : decode cX3_fillEnds 119 = .ok (.iload 5, 2) := by decide +kernel
theorem dX3_fillEnds_121 : decode cX3_fillEnds 121 = .ok (.bipush 23, 2) := by decide +kernel
theorem dX3_fillEnds_123 : decode cX3_fillEnds 123 = .ok (.if_icmp .ge 18, 3) := by decide +kernel
theorem dX3_fillEnds_126 : decode cX3_fillEnds 126 = .ok (.aload_n 0, 1) := by decide +kernel
theorem dX3_fillEnds_127 : decode cX3_fillEnds 127 = .ok (.getfield 47, 3) := by decide +kernel
theorem dX3_fillEnds_130 : decode cX3_fillEnds 130 = .ok (.iload 4, 2) := by decide +kernel
theorem dX3_fillEnds_132 : decode cX3_fillEnds 132 = .ok (.iload 5, 2) := by decide +kernel
theorem dX3_fillEnds_134 : decode cX3_fillEnds 134 = .ok (.iconst 1, 1) := by decide +kernel
theorem dX3_fillEnds_135 : decode cX3_fillEnds 135 = .ok (.invokevirtual 101, 3) := by decide +kernel
theorem dX3_fillEnds_138 : decode cX3_fillEnds 138 = .ok (.goto 4, 3) := by decide +kernel
theorem dX3_fillEnds_141 : decode cX3_fillEnds 141 = .ok (.iconst 0, 1) := by decide +kernel
theorem dX3_fillEnds_142 : decode cX3_fillEnds 142 = .ok (.istore 4, 2) := by decide +kernel
theorem dX3_fillEnds_144 : decode cX3_fillEnds 144 = .ok (.iinc 5 1, 3) := by decide +kernel
theorem dX3_fillEnds_147 : decode cX3_fillEnds 147 = .ok (.goto (-95), 3) := by decide +kernel
theorem dX3_fillEnds_150 : decode cX3_fillEnds 150 = .ok (.return_, 1) := by decide +kernel
theorem dX3_takenAt_0 : decode cX3_takenAt 0 = .ok (.iload_n 3, 1) := by decide +kernel
theorem dX3_takenAt_1 : decode cX3_takenAt 1 = .ok (.aload_n 0, 1) := by decide +kernel
theorem dX3_takenAt_2 : decode cX3_takenAt 2 = .ok (.getfield 43, 3) := by decide +kernel
theorem dX3_takenAt_5 : decode cX3_takenAt 5 = .ok (.getfield 105, 3) := by decide +kernel
theorem dX3_takenAt_8 : decode cX3_takenAt 8 = .ok (.iload_n 1, 1) := by decide +kernel
theorem dX3_takenAt_9 : decode cX3_takenAt 9 = .ok (.iaload, 1) := by decide +kernel
theorem dX3_takenAt_10 : decode cX3_takenAt 10 = .ok (.invokestatic 108, 3) := by decide +kernel
theorem dX3_takenAt_13 : decode cX3_takenAt 13 = .ok (.istore 4, 2) := by decide +kernel
theorem dX3_takenAt_15 : decode cX3_takenAt 15 = .ok (.aload_n 0, 1) := by decide +kernel
theorem dX3_takenAt_16 : decode cX3_takenAt 16 = .ok (.getfield 43, 3) := by decide +kernel
theorem dX3_takenAt_19 : decode cX3_takenAt 19 = .ok (.getfield 114, 3) := by decide +kernel
theorem dX3_takenAt_22 : decode cX3_takenAt 22 = .ok (.iload_n 1, 1) := by decide +kernel
theorem dX3_takenAt_23 : decode cX3_takenAt 23 = .ok (.iaload, 1) := by decide +kernel
theorem dX3_takenAt_24 : decode cX3_takenAt 24 = .ok (.istore 5, 2) := by decide +kernel
theorem dX3_takenAt_26 : decode cX3_takenAt 26 = .ok (.iload 4, 2) := by decide +kernel
theorem dX3_takenAt_28 : decode cX3_takenAt 28 = .ok (.aload_n 0, 1) := by decide +kernel
theorem dX3_takenAt_29 : decode cX3_takenAt 29 = .ok (.getfield 39, 3) := by decide +kernel
theorem dX3_takenAt_32 : decode cX3_takenAt 32 = .ok (.getfield 116, 3) := by decide +kernel
theorem dX3_takenAt_35 : decode cX3_takenAt 35 = .ok (.iload_n 2, 1) := by decide +kernel
theorem dX3_takenAt_36 : decode cX3_takenAt 36 = .ok (.aaload, 1) := by decide +kernel
theorem dX3_takenAt_37 : decode cX3_takenAt 37 = .ok (.aload_n 0, 1) := by decide +kernel
theorem dX3_takenAt_38 : decode cX3_takenAt 38 = .ok (.getfield 43, 3) := by decide +kernel
theorem dX3_takenAt_41 : decode cX3_takenAt 41 = .ok (.getfield 89, 3) := by decide +kernel
theorem dX3_takenAt_44 : decode cX3_takenAt 44 = .ok (.iaload, 1) := by decide +kernel
theorem dX3_takenAt_45 : decode cX3_takenAt 45 = .ok (.iadd, 1) := by decide +kernel
theorem dX3_takenAt_46 : decode cX3_takenAt 46 = .ok (.istore 6, 2) := by decide +kernel
theorem dX3_takenAt_48 : decode cX3_takenAt 48 = .ok (.iload 6, 2) := by decide +kernel
theorem dX3_takenAt_50 : decode cX3_takenAt 50 = .ok (.bipush 24, 2) := by decide +kernel
theorem dX3_takenAt_52 : decode cX3_takenAt 52 = .ok (.if_icmp .ge 27, 3) := by decide +kernel
theorem dX3_takenAt_55 : decode cX3_takenAt 55 = .ok (.aload_n 0, 1) := by decide +kernel
theorem dX3_takenAt_56 : decode cX3_takenAt 56 = .ok (.getfield 23, 3) := by decide +kernel
theorem dX3_takenAt_59 : decode cX3_takenAt 59 = .ok (.iload 6, 2) := by decide +kernel
theorem dX3_takenAt_61 : decode cX3_takenAt 61 = .ok (.aaload, 1) := by decide +kernel
theorem dX3_takenAt_62 : decode cX3_takenAt 62 = .ok (.iload 5, 2) := by decide +kernel
theorem dX3_takenAt_64 : decode cX3_takenAt 64 = .ok (.iaload, 1) := by decide +kernel
theorem dX3_takenAt_65 : decode cX3_takenAt 65 = .ok (.bipush 24, 2) := by decide +kernel
theorem dX3_takenAt_67 : decode cX3_takenAt 67 = .ok (.if_icmp .eq 6, 3) := by decide +kernel
theorem dX3_takenAt_70 : decode cX3_takenAt 70 = .ok (.iload 6, 2) := by decide +kernel
theorem dX3_takenAt_72 : decode cX3_takenAt 72 = .ok (.ireturn, 1) := by decide +kernel
theorem dX3_takenAt_73 : decode cX3_takenAt 73 = .ok (.iinc 6 1, 3) := by decide +kernel
theorem dX3_takenAt_76 : decode cX3_takenAt 76 = .ok (.goto (-28), 3) := by decide +kernel
theorem dX3_takenAt_79 : decode cX3_takenAt 79 = .ok (.bipush 24, 2) := by decide +kernel
theorem dX3_takenAt_81 : decode cX3_takenAt 81 = .ok (.ireturn, 1) := by decide +kernel
theorem dX3_doneAt_0 : decode cX3_doneAt 0 = .ok (.iload_n 3, 1) := by decide +kernel
theorem dX3_doneAt_1 : decode cX3_doneAt 1 = .ok (.bipush 24, 2) := by decide +kernel
theorem dX3_doneAt_3 : decode cX3_doneAt 3 = .ok (.if_icmp .ne 6, 3) := by decide +kernel
theorem dX3_doneAt_6 : decode cX3_doneAt 6 = .ok (.bipush 24, 2) := by decide +kernel
theorem dX3_doneAt_8 : decode cX3_doneAt 8 = .ok (.ireturn, 1) := by decide +kernel
theorem dX3_doneAt_9 : decode cX3_doneAt 9 = .ok (.aload_n 0, 1) := by decide +kernel
theorem dX3_doneAt_10 : decode cX3_doneAt 10 = .ok (.getfield 43, 3) := by decide +kernel
theorem dX3_doneAt_13 : decode cX3_doneAt 13 = .ok (.getfield 119, 3) := by decide +kernel
theorem dX3_doneAt_16 : decode cX3_doneAt 16 = .ok (.iload_n 1, 1) := by decide +kernel
theorem dX3_doneAt_17 : decode cX3_doneAt 17 = .ok (.iaload, 1) := by decide +kernel
theorem dX3_doneAt_18 : decode cX3_doneAt 18 = .ok (.ifCond .ne 46, 3) := by decide +kernel
theorem dX3_doneAt_21 : decode cX3_doneAt 21 = .ok (.iload_n 3, 1) := by decide +kernel
theorem dX3_doneAt_22 : decode cX3_doneAt 22 = .ok (.aload_n 0, 1) := by decide +kernel
theorem dX3_doneAt_23 : decode cX3_doneAt 23 = .ok (.getfield 43, 3) := by decide +kernel
theorem dX3_doneAt_26 : decode cX3_doneAt 26 = .ok (.getfield 105, 3) := by decide +kernel
theorem dX3_doneAt_29 : decode cX3_doneAt 29 = .ok (.iload_n 1, 1) := by decide +kernel
theorem dX3_doneAt_30 : decode cX3_doneAt 30 = .ok (.iaload, 1) := by decide +kernel
theorem dX3_doneAt_31 : decode cX3_doneAt 31 = .ok (.invokestatic 108, 3) := by decide +kernel
theorem dX3_doneAt_34 : decode cX3_doneAt 34 = .ok (.istore 4, 2) := by decide +kernel
theorem dX3_doneAt_36 : decode cX3_doneAt 36 = .ok (.bipush 24, 2) := by decide +kernel
theorem dX3_doneAt_38 : decode cX3_doneAt 38 = .ok (.iload 4, 2) := by decide +kernel
theorem dX3_doneAt_40 : decode cX3_doneAt 40 = .ok (.aload_n 0, 1) := by decide +kernel
theorem dX3_doneAt_41 : decode cX3_doneAt 41 = .ok (.getfield 39, 3) := by decide +kernel
theorem dX3_doneAt_44 : decode cX3_doneAt 44 = .ok (.getfield 116, 3) := by decide +kernel
theorem dX3_doneAt_47 : decode cX3_doneAt 47 = .ok (.iload_n 2, 1) := by decide +kernel
theorem dX3_doneAt_48 : decode cX3_doneAt 48 = .ok (.aaload, 1) := by decide +kernel
theorem dX3_doneAt_49 : decode cX3_doneAt 49 = .ok (.aload_n 0, 1) := by decide +kernel
theorem dX3_doneAt_50 : decode cX3_doneAt 50 = .ok (.getfield 43, 3) := by decide +kernel
theorem dX3_doneAt_53 : decode cX3_doneAt 53 = .ok (.getfield 114, 3) := by decide +kernel
theorem dX3_doneAt_56 : decode cX3_doneAt 56 = .ok (.iload_n 1, 1) := by decide +kernel
theorem dX3_doneAt_57 : decode cX3_doneAt 57 = .ok (.iaload, 1) := by decide +kernel
theorem dX3_doneAt_58 : decode cX3_doneAt 58 = .ok (.iaload, 1) := by decide +kernel
theorem dX3_doneAt_59 : decode cX3_doneAt 59 = .ok (.iadd, 1) := by decide +kernel
theorem dX3_doneAt_60 : decode cX3_doneAt 60 = .ok (.invokestatic 122, 3) := by decide +kernel
theorem dX3_doneAt_63 : decode cX3_doneAt 63 = .ok (.ireturn, 1) := by decide +kernel
theorem dX3_doneAt_64 : decode cX3_doneAt 64 = .ok (.aload_n 0, 1) := by decide +kernel
theorem dX3_doneAt_65 : decode cX3_doneAt 65 = .ok (.iload_n 1, 1) := by decide +kernel
theorem dX3_doneAt_66 : decode cX3_doneAt 66 = .ok (.iload_n 2, 1) := by decide +kernel
theorem dX3_doneAt_67 : decode cX3_doneAt 67 = .ok (.iload_n 3, 1) := by decide +kernel
theorem dX3_doneAt_68 : decode cX3_doneAt 68 = .ok (.invokevirtual 125, 3) := by decide +kernel
theorem dX3_doneAt_71 : decode cX3_doneAt 71 = .ok (.istore 4, 2) := by decide +kernel
theorem dX3_doneAt_73 : decode cX3_doneAt 73 = .ok (.iload 4, 2) := by decide +kernel
theorem dX3_doneAt_75 : decode cX3_doneAt 75 = .ok (.bipush 24, 2) := by decide +kernel
theorem dX3_doneAt_77 : decode cX3_doneAt 77 = .ok (.if_icmp .ne 8, 3) := by decide +kernel
theorem dX3_doneAt_80 : decode cX3_doneAt 80 = .ok (.bipush 24, 2) := by decide +kernel
theorem dX3_doneAt_82 : decode cX3_doneAt 82 = .ok (.goto 20, 3) := by decide +kernel
theorem dX3_doneAt_85 : decode cX3_doneAt 85 = .ok (.aload_n 0, 1) := by decide +kernel
theorem dX3_doneAt_86 : decode cX3_doneAt 86 = .ok (.getfield 23, 3) := by decide +kernel
theorem dX3_doneAt_89 : decode cX3_doneAt 89 = .ok (.iload 4, 2) := by decide +kernel
theorem dX3_doneAt_91 : decode cX3_doneAt 91 = .ok (.aaload, 1) := by decide +kernel
theorem dX3_doneAt_92 : decode cX3_doneAt 92 = .ok (.aload_n 0, 1) := by decide +kernel
theorem dX3_doneAt_93 : decode cX3_doneAt 93 = .ok (.getfield 43, 3) := by decide +kernel
theorem dX3_doneAt_96 : decode cX3_doneAt 96 = .ok (.getfield 114, 3) := by decide +kernel
theorem dX3_doneAt_99 : decode cX3_doneAt 99 = .ok (.iload_n 1, 1) := by decide +kernel
theorem dX3_doneAt_100 : decode cX3_doneAt 100 = .ok (.iaload, 1) := by decide +kernel
theorem dX3_doneAt_101 : decode cX3_doneAt 101 = .ok (.iaload, 1) := by decide +kernel
theorem dX3_doneAt_102 : decode cX3_doneAt 102 = .ok (.ireturn, 1) := by decide +kernel
theorem dX3_firstOrder_0 : decode cX3_firstOrder 0 = .ok (.iconst 0, 1) := by decide +kernel
theorem dX3_firstOrder_1 : decode cX3_firstOrder 1 = .ok (.istore_n 2, 1) := by decide +kernel
theorem dX3_firstOrder_2 : decode cX3_firstOrder 2 = .ok (.iload_n 2, 1) := by decide +kernel
theorem dX3_firstOrder_3 : decode cX3_firstOrder 3 = .ok (.iconst 5, 1) := by decide +kernel
theorem dX3_firstOrder_4 : decode cX3_firstOrder 4 = .ok (.if_icmp .ge 13, 3) := by decide +kernel
theorem dX3_firstOrder_7 : decode cX3_firstOrder 7 = .ok (.aload_n 1, 1) := by decide +kernel
theorem dX3_firstOrder_8 : decode cX3_firstOrder 8 = .ok (.iload_n 2, 1) := by decide +kernel
theorem dX3_firstOrder_9 : decode cX3_firstOrder 9 = .ok (.iload_n 2, 1) := by decide +kernel
theorem dX3_firstOrder_10 : decode cX3_firstOrder 10 = .ok (.iastore, 1) := by decide +kernel
theorem dX3_firstOrder_11 : decode cX3_firstOrder 11 = .ok (.iinc 2 1, 3) := by decide +kernel
theorem dX3_firstOrder_14 : decode cX3_firstOrder 14 = .ok (.goto (-12), 3) := by decide +kernel
theorem dX3_firstOrder_17 : decode cX3_firstOrder 17 = .ok (.return_, 1) := by decide +kernel
theorem dX3_nextOrder_0 : decode cX3_nextOrder 0 = .ok (.aload_n 0, 1) := by decide +kernel
theorem dX3_nextOrder_1 : decode cX3_nextOrder 1 = .ok (.getfield 43, 3) := by decide +kernel
theorem dX3_nextOrder_4 : decode cX3_nextOrder 4 = .ok (.getfield 129, 3) := by decide +kernel
theorem dX3_nextOrder_7 : decode cX3_nextOrder 7 = .ok (.istore_n 2, 1) := by decide +kernel
theorem dX3_nextOrder_8 : decode cX3_nextOrder 8 = .ok (.iload_n 2, 1) := by decide +kernel
theorem dX3_nextOrder_9 : decode cX3_nextOrder 9 = .ok (.iconst 2, 1) := by decide +kernel
theorem dX3_nextOrder_10 : decode cX3_nextOrder 10 = .ok (.isub, 1) := by decide +kernel
theorem dX3_nextOrder_11 : decode cX3_nextOrder 11 = .ok (.istore_n 3, 1) := by decide +kernel
theorem dX3_nextOrder_12 : decode cX3_nextOrder 12 = .ok (.iload_n 3, 1) := by decide +kernel
theorem dX3_nextOrder_13 : decode cX3_nextOrder 13 = .ok (.ifCond .lt 20, 3) := by decide +kernel
theorem dX3_nextOrder_16 : decode cX3_nextOrder 16 = .ok (.aload_n 1, 1) := by decide +kernel
theorem dX3_nextOrder_17 : decode cX3_nextOrder 17 = .ok (.iload_n 3, 1) := by decide +kernel
theorem dX3_nextOrder_18 : decode cX3_nextOrder 18 = .ok (.iaload, 1) := by decide +kernel
theorem dX3_nextOrder_19 : decode cX3_nextOrder 19 = .ok (.aload_n 1, 1) := by decide +kernel
theorem dX3_nextOrder_20 : decode cX3_nextOrder 20 = .ok (.iload_n 3, 1) := by decide +kernel
theorem dX3_nextOrder_21 : decode cX3_nextOrder 21 = .ok (.iconst 1, 1) := by decide +kernel
theorem dX3_nextOrder_22 : decode cX3_nextOrder 22 = .ok (.iadd, 1) := by decide +kernel
theorem dX3_nextOrder_23 : decode cX3_nextOrder 23 = .ok (.iaload, 1) := by decide +kernel
theorem dX3_nextOrder_24 : decode cX3_nextOrder 24 = .ok (.if_icmp .le 9, 3) := by decide +kernel
theorem dX3_nextOrder_27 : decode cX3_nextOrder 27 = .ok (.iinc 3 (-1), 3) := by decide +kernel
theorem dX3_nextOrder_30 : decode cX3_nextOrder 30 = .ok (.goto (-18), 3) := by decide +kernel
theorem dX3_nextOrder_33 : decode cX3_nextOrder 33 = .ok (.iload_n 3, 1) := by decide +kernel
theorem dX3_nextOrder_34 : decode cX3_nextOrder 34 = .ok (.ifCond .ge 5, 3) := by decide +kernel
theorem dX3_nextOrder_37 : decode cX3_nextOrder 37 = .ok (.iconst 0, 1) := by decide +kernel
theorem dX3_nextOrder_38 : decode cX3_nextOrder 38 = .ok (.ireturn, 1) := by decide +kernel
theorem dX3_nextOrder_39 : decode cX3_nextOrder 39 = .ok (.iload_n 2, 1) := by decide +kernel
theorem dX3_nextOrder_40 : decode cX3_nextOrder 40 = .ok (.iconst 1, 1) := by decide +kernel
theorem dX3_nextOrder_41 : decode cX3_nextOrder 41 = .ok (.isub, 1) := by decide +kernel
theorem dX3_nextOrder_42 : decode cX3_nextOrder 42 = .ok (.istore 4, 2) := by decide +kernel
theorem dX3_nextOrder_44 : decode cX3_nextOrder 44 = .ok (.iload 4, 2) := by decide +kernel
theorem dX3_nextOrder_46 : decode cX3_nextOrder 46 = .ok (.iload_n 3, 1) := by decide +kernel
theorem dX3_nextOrder_47 : decode cX3_nextOrder 47 = .ok (.if_icmp .le 19, 3) := by decide +kernel
theorem dX3_nextOrder_50 : decode cX3_nextOrder 50 = .ok (.aload_n 1, 1) := by decide +kernel
theorem dX3_nextOrder_51 : decode cX3_nextOrder 51 = .ok (.iload 4, 2) := by decide +kernel
theorem dX3_nextOrder_53 : decode cX3_nextOrder 53 = .ok (.iaload, 1) := by decide +kernel
theorem dX3_nextOrder_54 : decode cX3_nextOrder 54 = .ok (.aload_n 1, 1) := by decide +kernel
theorem dX3_nextOrder_55 : decode cX3_nextOrder 55 = .ok (.iload_n 3, 1) := by decide +kernel
theorem dX3_nextOrder_56 : decode cX3_nextOrder 56 = .ok (.iaload, 1) := by decide +kernel
theorem dX3_nextOrder_57 : decode cX3_nextOrder 57 = .ok (.if_icmp .ge 9, 3) := by decide +kernel
theorem dX3_nextOrder_60 : decode cX3_nextOrder 60 = .ok (.iinc 4 (-1), 3) := by decide +kernel
theorem dX3_nextOrder_63 : decode cX3_nextOrder 63 = .ok (.goto (-19), 3) := by decide +kernel
theorem dX3_nextOrder_66 : decode cX3_nextOrder 66 = .ok (.aload_n 0, 1) := by decide +kernel
theorem dX3_nextOrder_67 : decode cX3_nextOrder 67 = .ok (.aload_n 1, 1) := by decide +kernel
theorem dX3_nextOrder_68 : decode cX3_nextOrder 68 = .ok (.iload_n 3, 1) := by decide +kernel
theorem dX3_nextOrder_69 : decode cX3_nextOrder 69 = .ok (.iload 4, 2) := by decide +kernel
theorem dX3_nextOrder_71 : decode cX3_nextOrder 71 = .ok (.invokevirtual 132, 3) := by decide +kernel
theorem dX3_nextOrder_74 : decode cX3_nextOrder 74 = .ok (.iload_n 3, 1) := by decide +kernel
theorem dX3_nextOrder_75 : decode cX3_nextOrder 75 = .ok (.iconst 1, 1) := by decide +kernel
theorem dX3_nextOrder_76 : decode cX3_nextOrder 76 = .ok (.iadd, 1) := by decide +kernel
theorem dX3_nextOrder_77 : decode cX3_nextOrder 77 = .ok (.istore 5, 2) := by decide +kernel
theorem dX3_nextOrder_79 : decode cX3_nextOrder 79 = .ok (.iload_n 2, 1) := by decide +kernel
theorem dX3_nextOrder_80 : decode cX3_nextOrder 80 = .ok (.iconst 1, 1) := by decide +kernel
theorem dX3_nextOrder_81 : decode cX3_nextOrder 81 = .ok (.isub, 1) := by decide +kernel
theorem dX3_nextOrder_82 : decode cX3_nextOrder 82 = .ok (.istore 6, 2) := by decide +kernel
theorem dX3_nextOrder_84 : decode cX3_nextOrder 84 = .ok (.iload 5, 2) := by decide +kernel
theorem dX3_nextOrder_86 : decode cX3_nextOrder 86 = .ok (.iload 6, 2) := by decide +kernel
theorem dX3_nextOrder_88 : decode cX3_nextOrder 88 = .ok (.if_icmp .ge 21, 3) := by decide +kernel
theorem dX3_nextOrder_91 : decode cX3_nextOrder 91 = .ok (.aload_n 0, 1) := by decide +kernel
theorem dX3_nextOrder_92 : decode cX3_nextOrder 92 = .ok (.aload_n 1, 1) := by decide +kernel
theorem dX3_nextOrder_93 : decode cX3_nextOrder 93 = .ok (.iload 5, 2) := by decide +kernel
theorem dX3_nextOrder_95 : decode cX3_nextOrder 95 = .ok (.iload 6, 2) := by decide +kernel
theorem dX3_nextOrder_97 : decode cX3_nextOrder 97 = .ok (.invokevirtual 132, 3) := by decide +kernel
theorem dX3_nextOrder_100 : decode cX3_nextOrder 100 = .ok (.iinc 5 1, 3) := by decide +kernel
theorem dX3_nextOrder_103 : decode cX3_nextOrder 103 = .ok (.iinc 6 (-1), 3) := by decide +kernel
theorem dX3_nextOrder_106 : decode cX3_nextOrder 106 = .ok (.goto (-22), 3) := by decide +kernel
theorem dX3_nextOrder_109 : decode cX3_nextOrder 109 = .ok (.iconst 1, 1) := by decide +kernel
theorem dX3_nextOrder_110 : decode cX3_nextOrder 110 = .ok (.ireturn, 1) := by decide +kernel
theorem dX3_swap_0 : decode cX3_swap 0 = .ok (.aload_n 1, 1) := by decide +kernel
theorem dX3_swap_1 : decode cX3_swap 1 = .ok (.iload_n 2, 1) := by decide +kernel
theorem dX3_swap_2 : decode cX3_swap 2 = .ok (.iaload, 1) := by decide +kernel
theorem dX3_swap_3 : decode cX3_swap 3 = .ok (.istore 4, 2) := by decide +kernel
theorem dX3_swap_5 : decode cX3_swap 5 = .ok (.aload_n 1, 1) := by decide +kernel
theorem dX3_swap_6 : decode cX3_swap 6 = .ok (.iload_n 2, 1) := by decide +kernel
theorem dX3_swap_7 : decode cX3_swap 7 = .ok (.aload_n 1, 1) := by decide +kernel
theorem dX3_swap_8 : decode cX3_swap 8 = .ok (.iload_n 3, 1) := by decide +kernel
theorem dX3_swap_9 : decode cX3_swap 9 = .ok (.iaload, 1) := by decide +kernel
theorem dX3_swap_10 : decode cX3_swap 10 = .ok (.iastore, 1) := by decide +kernel
theorem dX3_swap_11 : decode cX3_swap 11 = .ok (.aload_n 1, 1) := by decide +kernel
theorem dX3_swap_12 : decode cX3_swap 12 = .ok (.iload_n 3, 1) := by decide +kernel
theorem dX3_swap_13 : decode cX3_swap 13 = .ok (.iload 4, 2) := by decide +kernel
theorem dX3_swap_15 : decode cX3_swap 15 = .ok (.iastore, 1) := by decide +kernel
theorem dX3_swap_16 : decode cX3_swap 16 = .ok (.return_, 1) := by decide +kernel
theorem dX3_fillLeast_0 : decode cX3_fillLeast 0 = .ok (.aload_n 0, 1) := by decide +kernel
theorem dX3_fillLeast_1 : decode cX3_fillLeast 1 = .ok (.getfield 26, 3) := by decide +kernel
theorem dX3_fillLeast_4 : decode cX3_fillLeast 4 = .ok (.iload_n 1, 1) := by decide +kernel
theorem dX3_fillLeast_5 : decode cX3_fillLeast 5 = .ok (.aaload, 1) := by decide +kernel
theorem dX3_fillLeast_6 : decode cX3_fillLeast 6 = .ok (.astore_n 2, 1) := by decide +kernel
theorem dX3_fillLeast_7 : decode cX3_fillLeast 7 = .ok (.aload_n 2, 1) := by decide +kernel
theorem dX3_fillLeast_8 : decode cX3_fillLeast 8 = .ok (.ldc 136, 2) := by decide +kernel
theorem dX3_fillLeast_10 : decode cX3_fillLeast 10 = .ok (.invokestatic 83, 3) := by decide +kernel
theorem dX3_fillLeast_13 : decode cX3_fillLeast 13 = .ok (.aload_n 2, 1) := by decide +kernel
theorem dX3_fillLeast_14 : decode cX3_fillLeast 14 = .ok (.iconst 0, 1) := by decide +kernel
theorem dX3_fillLeast_15 : decode cX3_fillLeast 15 = .ok (.iconst 0, 1) := by decide +kernel
theorem dX3_fillLeast_16 : decode cX3_fillLeast 16 = .ok (.iastore, 1) := by decide +kernel
theorem dX3_fillLeast_17 : decode cX3_fillLeast 17 = .ok (.aload_n 0, 1) := by decide +kernel
theorem dX3_fillLeast_18 : decode cX3_fillLeast 18 = .ok (.getfield 12, 3) := by decide +kernel
theorem dX3_fillLeast_21 : decode cX3_fillLeast 21 = .ok (.getfield 137, 3) := by decide +kernel
theorem dX3_fillLeast_24 : decode cX3_fillLeast 24 = .ok (.astore_n 3, 1) := by decide +kernel
theorem dX3_fillLeast_25 : decode cX3_fillLeast 25 = .ok (.aload_n 0, 1) := by decide +kernel
theorem dX3_fillLeast_26 : decode cX3_fillLeast 26 = .ok (.aload_n 3, 1) := by decide +kernel
theorem dX3_fillLeast_27 : decode cX3_fillLeast 27 = .ok (.invokevirtual 140, 3) := by decide +kernel
theorem dX3_fillLeast_30 : decode cX3_fillLeast 30 = .ok (.iconst 0, 1) := by decide +kernel
theorem dX3_fillLeast_31 : decode cX3_fillLeast 31 = .ok (.istore 4, 2) := by decide +kernel
theorem dX3_fillLeast_33 : decode cX3_fillLeast 33 = .ok (.iload 4, 2) := by decide +kernel
theorem dX3_fillLeast_35 : decode cX3_fillLeast 35 = .ok (.bipush 120, 2) := by decide +kernel
theorem dX3_fillLeast_37 : decode cX3_fillLeast 37 = .ok (.if_icmp .ge 127, 3) := by decide +kernel
theorem dX3_fillLeast_40 : decode cX3_fillLeast 40 = .ok (.aload_n 0, 1) := by decide +kernel
theorem dX3_fillLeast_41 : decode cX3_fillLeast 41 = .ok (.getfield 43, 3) := by decide +kernel
theorem dX3_fillLeast_44 : decode cX3_fillLeast 44 = .ok (.getfield 144, 3) := by decide +kernel
theorem dX3_fillLeast_47 : decode cX3_fillLeast 47 = .ok (.iload_n 1, 1) := by decide +kernel
theorem dX3_fillLeast_48 : decode cX3_fillLeast 48 = .ok (.iaload, 1) := by decide +kernel
theorem dX3_fillLeast_49 : decode cX3_fillLeast 49 = .ok (.istore 5, 2) := by decide +kernel
theorem dX3_fillLeast_51 : decode cX3_fillLeast 51 = .ok (.iconst 0, 1) := by decide +kernel
theorem dX3_fillLeast_52 : decode cX3_fillLeast 52 = .ok (.istore 6, 2) := by decide +kernel
theorem dX3_fillLeast_54 : decode cX3_fillLeast 54 = .ok (.iconst 0, 1) := by decide +kernel
theorem dX3_fillLeast_55 : decode cX3_fillLeast 55 = .ok (.istore 7, 2) := by decide +kernel
theorem dX3_fillLeast_57 : decode cX3_fillLeast 57 = .ok (.iconst 0, 1) := by decide +kernel
theorem dX3_fillLeast_58 : decode cX3_fillLeast 58 = .ok (.istore 8, 2) := by decide +kernel
theorem dX3_fillLeast_60 : decode cX3_fillLeast 60 = .ok (.iconst 0, 1) := by decide +kernel
theorem dX3_fillLeast_61 : decode cX3_fillLeast 61 = .ok (.istore 9, 2) := by decide +kernel
theorem dX3_fillLeast_63 : decode cX3_fillLeast 63 = .ok (.iload 9, 2) := by decide +kernel
theorem dX3_fillLeast_65 : decode cX3_fillLeast 65 = .ok (.aload_n 0, 1) := by decide +kernel
theorem dX3_fillLeast_66 : decode cX3_fillLeast 66 = .ok (.getfield 43, 3) := by decide +kernel
theorem dX3_fillLeast_69 : decode cX3_fillLeast 69 = .ok (.getfield 129, 3) := by decide +kernel
theorem dX3_fillLeast_72 : decode cX3_fillLeast 72 = .ok (.if_icmp .ge 77, 3) := by decide +kernel
theorem dX3_fillLeast_75 : decode cX3_fillLeast 75 = .ok (.aload_n 3, 1) := by decide +kernel
theorem dX3_fillLeast_76 : decode cX3_fillLeast 76 = .ok (.iload 9, 2) := by decide +kernel
theorem dX3_fillLeast_78 : decode cX3_fillLeast 78 = .ok (.iaload, 1) := by decide +kernel
theorem dX3_fillLeast_79 : decode cX3_fillLeast 79 = .ok (.istore 10, 2) := by decide +kernel
theorem dX3_fillLeast_81 : decode cX3_fillLeast 81 = .ok (.aload_n 0, 1) := by decide +kernel
theorem dX3_fillLeast_82 : decode cX3_fillLeast 82 = .ok (.iload 10, 2) := by decide +kernel
theorem dX3_fillLeast_84 : decode cX3_fillLeast 84 = .ok (.iload 5, 2) := by decide +kernel
theorem dX3_fillLeast_86 : decode cX3_fillLeast 86 = .ok (.iload 6, 2) := by decide +kernel
theorem dX3_fillLeast_88 : decode cX3_fillLeast 88 = .ok (.invokevirtual 147, 3) := by decide +kernel
theorem dX3_fillLeast_91 : decode cX3_fillLeast 91 = .ok (.istore 6, 2) := by decide +kernel
theorem dX3_fillLeast_93 : decode cX3_fillLeast 93 = .ok (.aload_n 0, 1) := by decide +kernel
theorem dX3_fillLeast_94 : decode cX3_fillLeast 94 = .ok (.getfield 43, 3) := by decide +kernel
theorem dX3_fillLeast_97 : decode cX3_fillLeast 97 = .ok (.getfield 114, 3) := by decide +kernel
theorem dX3_fillLeast_100 : decode cX3_fillLeast 100 = .ok (.iload 10, 2) := by decide +kernel
theorem dX3_fillLeast_102 : decode cX3_fillLeast 102 = .ok (.iaload, 1) := by decide +kernel
theorem dX3_fillLeast_103 : decode cX3_fillLeast 103 = .ok (.istore 5, 2) := by decide +kernel
theorem dX3_fillLeast_105 : decode cX3_fillLeast 105 = .ok (.iload 7, 2) := by decide +kernel
theorem dX3_fillLeast_107 : decode cX3_fillLeast 107 = .ok (.aload_n 0, 1) := by decide +kernel
theorem dX3_fillLeast_108 : decode cX3_fillLeast 108 = .ok (.getfield 43, 3) := by decide +kernel
theorem dX3_fillLeast_111 : decode cX3_fillLeast 111 = .ok (.iload 10, 2) := by decide +kernel
theorem dX3_fillLeast_113 : decode cX3_fillLeast 113 = .ok (.iload 6, 2) := by decide +kernel
theorem dX3_fillLeast_115 : decode cX3_fillLeast 115 = .ok (.invokevirtual 150, 3) := by decide +kernel
theorem dX3_fillLeast_118 : decode cX3_fillLeast 118 = .ok (.iadd, 1) := by decide +kernel
theorem dX3_fillLeast_119 : decode cX3_fillLeast 119 = .ok (.istore 7, 2) := by decide +kernel
theorem dX3_fillLeast_121 : decode cX3_fillLeast 121 = .ok (.iload 8, 2) := by decide +kernel
theorem dX3_fillLeast_123 : decode cX3_fillLeast 123 = .ok (.iconst 1, 1) := by decide +kernel
theorem dX3_fillLeast_124 : decode cX3_fillLeast 124 = .ok (.iload 10, 2) := by decide +kernel
theorem dX3_fillLeast_126 : decode cX3_fillLeast 126 = .ok (.ishl, 1) := by decide +kernel
theorem dX3_fillLeast_127 : decode cX3_fillLeast 127 = .ok (.ior, 1) := by decide +kernel
theorem dX3_fillLeast_128 : decode cX3_fillLeast 128 = .ok (.istore 8, 2) := by decide +kernel
theorem dX3_fillLeast_130 : decode cX3_fillLeast 130 = .ok (.aload_n 2, 1) := by decide +kernel
theorem dX3_fillLeast_131 : decode cX3_fillLeast 131 = .ok (.iload 8, 2) := by decide +kernel
theorem dX3_fillLeast_133 : decode cX3_fillLeast 133 = .ok (.aload_n 2, 1) := by decide +kernel
theorem dX3_fillLeast_134 : decode cX3_fillLeast 134 = .ok (.iload 8, 2) := by decide +kernel
theorem dX3_fillLeast_136 : decode cX3_fillLeast 136 = .ok (.iaload, 1) := by decide +kernel
theorem dX3_fillLeast_137 : decode cX3_fillLeast 137 = .ok (.iload 7, 2) := by decide +kernel
theorem dX3_fillLeast_139 : decode cX3_fillLeast 139 = .ok (.invokestatic 122, 3) := by decide +kernel
theorem dX3_fillLeast_142 : decode cX3_fillLeast 142 = .ok (.iastore, 1) := by decide +kernel
theorem dX3_fillLeast_143 : decode cX3_fillLeast 143 = .ok (.iinc 9 1, 3) := by decide +kernel
theorem dX3_fillLeast_146 : decode cX3_fillLeast 146 = .ok (.goto (-83), 3) := by decide +kernel
theorem dX3_fillLeast_149 : decode cX3_fillLeast 149 = .ok (.aload_n 0, 1) := by decide +kernel
theorem dX3_fillLeast_150 : decode cX3_fillLeast 150 = .ok (.aload_n 3, 1) := by decide +kernel
theorem dX3_fillLeast_151 : decode cX3_fillLeast 151 = .ok (.invokevirtual 153, 3) := by decide +kernel
theorem dX3_fillLeast_154 : decode cX3_fillLeast 154 = .ok (.ifCond .ne 4, 3) := by decide +kernel
theorem dX3_fillLeast_157 : decode cX3_fillLeast 157 = .ok (.return_, 1) := by decide +kernel
theorem dX3_fillLeast_158 : decode cX3_fillLeast 158 = .ok (.iinc 4 1, 3) := by decide +kernel
theorem dX3_fillLeast_161 : decode cX3_fillLeast 161 = .ok (.goto (-128), 3) := by decide +kernel
theorem dX3_fillLeast_164 : decode cX3_fillLeast 164 = .ok (.return_, 1) := by decide +kernel
theorem dX3_leastWith_0 : decode cX3_leastWith 0 = .ok (.iconst 1, 1) := by decide +kernel
theorem dX3_leastWith_1 : decode cX3_leastWith 1 = .ok (.istore_n 2, 1) := by decide +kernel
theorem dX3_leastWith_2 : decode cX3_leastWith 2 = .ok (.iconst 0, 1) := by decide +kernel
theorem dX3_leastWith_3 : decode cX3_leastWith 3 = .ok (.istore_n 3, 1) := by decide +kernel
theorem dX3_leastWith_4 : decode cX3_leastWith 4 = .ok (.iload_n 3, 1) := by decide +kernel
theorem dX3_leastWith_5 : decode cX3_leastWith 5 = .ok (.aload_n 0, 1) := by decide +kernel
theorem dX3_leastWith_6 : decode cX3_leastWith 6 = .ok (.getfield 43, 3) := by decide +kernel
theorem dX3_leastWith_9 : decode cX3_leastWith 9 = .ok (.getfield 129, 3) := by decide +kernel
theorem dX3_leastWith_12 : decode cX3_leastWith 12 = .ok (.if_icmp .ge 13, 3) := by decide +kernel
theorem dX3_leastWith_15 : decode cX3_leastWith 15 = .ok (.iload_n 2, 1) := by decide +kernel
theorem dX3_leastWith_16 : decode cX3_leastWith 16 = .ok (.iconst 3, 1) := by decide +kernel
theorem dX3_leastWith_17 : decode cX3_leastWith 17 = .ok (.imul, 1) := by decide +kernel
theorem dX3_leastWith_18 : decode cX3_leastWith 18 = .ok (.istore_n 2, 1) := by decide +kernel
theorem dX3_leastWith_19 : decode cX3_leastWith 19 = .ok (.iinc 3 1, 3) := by decide +kernel
theorem dX3_leastWith_22 : decode cX3_leastWith 22 = .ok (.goto (-18), 3) := by decide +kernel
theorem dX3_leastWith_25 : decode cX3_leastWith 25 = .ok (.ldc 136, 2) := by decide +kernel
theorem dX3_leastWith_27 : decode cX3_leastWith 27 = .ok (.istore_n 3, 1) := by decide +kernel
theorem dX3_leastWith_28 : decode cX3_leastWith 28 = .ok (.iconst 0, 1) := by decide +kernel
theorem dX3_leastWith_29 : decode cX3_leastWith 29 = .ok (.istore 4, 2) := by decide +kernel
theorem dX3_leastWith_31 : decode cX3_leastWith 31 = .ok (.iload 4, 2) := by decide +kernel
theorem dX3_leastWith_33 : decode cX3_leastWith 33 = .ok (.iload_n 2, 1) := by decide +kernel
theorem dX3_leastWith_34 : decode cX3_leastWith 34 = .ok (.if_icmp .ge 33, 3) := by decide +kernel
theorem dX3_leastWith_37 : decode cX3_leastWith 37 = .ok (.aload_n 0, 1) := by decide +kernel
theorem dX3_leastWith_38 : decode cX3_leastWith 38 = .ok (.iload 4, 2) := by decide +kernel
theorem dX3_leastWith_40 : decode cX3_leastWith 40 = .ok (.iload_n 1, 1) := by decide +kernel
theorem dX3_leastWith_41 : decode cX3_leastWith 41 = .ok (.invokevirtual 157, 3) := by decide +kernel
theorem dX3_leastWith_44 : decode cX3_leastWith 44 = .ok (.istore 5, 2) := by decide +kernel
theorem dX3_leastWith_46 : decode cX3_leastWith 46 = .ok (.iload 5, 2) := by decide +kernel
theorem dX3_leastWith_48 : decode cX3_leastWith 48 = .ok (.iload_n 3, 1) := by decide +kernel
theorem dX3_leastWith_49 : decode cX3_leastWith 49 = .ok (.if_icmp .ge 12, 3) := by decide +kernel
theorem dX3_leastWith_52 : decode cX3_leastWith 52 = .ok (.iload 5, 2) := by decide +kernel
theorem dX3_leastWith_54 : decode cX3_leastWith 54 = .ok (.istore_n 3, 1) := by decide +kernel
theorem dX3_leastWith_55 : decode cX3_leastWith 55 = .ok (.aload_n 0, 1) := by decide +kernel
theorem dX3_leastWith_56 : decode cX3_leastWith 56 = .ok (.iload 4, 2) := by decide +kernel
theorem dX3_leastWith_58 : decode cX3_leastWith 58 = .ok (.putfield 160, 3) := by decide +kernel
theorem dX3_leastWith_61 : decode cX3_leastWith 61 = .ok (.iinc 4 1, 3) := by decide +kernel
theorem dX3_leastWith_64 : decode cX3_leastWith 64 = .ok (.goto (-33), 3) := by decide +kernel
theorem dX3_leastWith_67 : decode cX3_leastWith 67 = .ok (.iload_n 3, 1) := by decide +kernel
theorem dX3_leastWith_68 : decode cX3_leastWith 68 = .ok (.ireturn, 1) := by decide +kernel
theorem dX3_costOf_0 : decode cX3_costOf 0 = .ok (.aload_n 0, 1) := by decide +kernel
theorem dX3_costOf_1 : decode cX3_costOf 1 = .ok (.getfield 29, 3) := by decide +kernel
theorem dX3_costOf_4 : decode cX3_costOf 4 = .ok (.iconst 0, 1) := by decide +kernel
theorem dX3_costOf_5 : decode cX3_costOf 5 = .ok (.invokestatic 83, 3) := by decide +kernel
theorem dX3_costOf_8 : decode cX3_costOf 8 = .ok (.iload_n 1, 1) := by decide +kernel
theorem dX3_costOf_9 : decode cX3_costOf 9 = .ok (.istore_n 3, 1) := by decide +kernel
theorem dX3_costOf_10 : decode cX3_costOf 10 = .ok (.aload_n 0, 1) := by decide +kernel
theorem dX3_costOf_11 : decode cX3_costOf 11 = .ok (.getfield 43, 3) := by decide +kernel
theorem dX3_costOf_14 : decode cX3_costOf 14 = .ok (.getfield 129, 3) := by decide +kernel
theorem dX3_costOf_17 : decode cX3_costOf 17 = .ok (.iconst 1, 1) := by decide +kernel
theorem dX3_costOf_18 : decode cX3_costOf 18 = .ok (.isub, 1) := by decide +kernel
theorem dX3_costOf_19 : decode cX3_costOf 19 = .ok (.istore 4, 2) := by decide +kernel
theorem dX3_costOf_21 : decode cX3_costOf 21 = .ok (.iload 4, 2) := by decide +kernel
theorem dX3_costOf_23 : decode cX3_costOf 23 = .ok (.ifCond .lt 44, 3) := by decide +kernel
theorem dX3_costOf_26 : decode cX3_costOf 26 = .ok (.iload_n 3, 1) := by decide +kernel
theorem dX3_costOf_27 : decode cX3_costOf 27 = .ok (.iconst 3, 1) := by decide +kernel
theorem dX3_costOf_28 : decode cX3_costOf 28 = .ok (.irem, 1) := by decide +kernel
theorem dX3_costOf_29 : decode cX3_costOf 29 = .ok (.istore 5, 2) := by decide +kernel
theorem dX3_costOf_31 : decode cX3_costOf 31 = .ok (.iload_n 2, 1) := by decide +kernel
theorem dX3_costOf_32 : decode cX3_costOf 32 = .ok (.iload 5, 2) := by decide +kernel
theorem dX3_costOf_34 : decode cX3_costOf 34 = .ok (.ishr, 1) := by decide +kernel
theorem dX3_costOf_35 : decode cX3_costOf 35 = .ok (.iconst 1, 1) := by decide +kernel
theorem dX3_costOf_36 : decode cX3_costOf 36 = .ok (.iand, 1) := by decide +kernel
theorem dX3_costOf_37 : decode cX3_costOf 37 = .ok (.ifCond .ne 6, 3) := by decide +kernel
theorem dX3_costOf_40 : decode cX3_costOf 40 = .ok (.ldc 136, 2) := by decide +kernel
theorem dX3_costOf_42 : decode cX3_costOf 42 = .ok (.ireturn, 1) := by decide +kernel
theorem dX3_costOf_43 : decode cX3_costOf 43 = .ok (.aload_n 0, 1) := by decide +kernel
theorem dX3_costOf_44 : decode cX3_costOf 44 = .ok (.getfield 29, 3) := by decide +kernel
theorem dX3_costOf_47 : decode cX3_costOf 47 = .ok (.iload 5, 2) := by decide +kernel
theorem dX3_costOf_49 : decode cX3_costOf 49 = .ok (.dup2, 1) := by decide +kernel
theorem dX3_costOf_50 : decode cX3_costOf 50 = .ok (.iaload, 1) := by decide +kernel
theorem dX3_costOf_51 : decode cX3_costOf 51 = .ok (.iconst 1, 1) := by decide +kernel
theorem dX3_costOf_52 : decode cX3_costOf 52 = .ok (.iload 4, 2) := by decide +kernel
theorem dX3_costOf_54 : decode cX3_costOf 54 = .ok (.ishl, 1) := by decide +kernel
theorem dX3_costOf_55 : decode cX3_costOf 55 = .ok (.ior, 1) := by decide +kernel
theorem dX3_costOf_56 : decode cX3_costOf 56 = .ok (.iastore, 1) := by decide +kernel
theorem dX3_costOf_57 : decode cX3_costOf 57 = .ok (.iload_n 3, 1) := by decide +kernel
theorem dX3_costOf_58 : decode cX3_costOf 58 = .ok (.iconst 3, 1) := by decide +kernel
theorem dX3_costOf_59 : decode cX3_costOf 59 = .ok (.idiv, 1) := by decide +kernel
theorem dX3_costOf_60 : decode cX3_costOf 60 = .ok (.istore_n 3, 1) := by decide +kernel
theorem dX3_costOf_61 : decode cX3_costOf 61 = .ok (.iinc 4 (-1), 3) := by decide +kernel
theorem dX3_costOf_64 : decode cX3_costOf 64 = .ok (.goto (-43), 3) := by decide +kernel
theorem dX3_costOf_67 : decode cX3_costOf 67 = .ok (.iconst 0, 1) := by decide +kernel
theorem dX3_costOf_68 : decode cX3_costOf 68 = .ok (.istore 4, 2) := by decide +kernel
theorem dX3_costOf_70 : decode cX3_costOf 70 = .ok (.iconst 0, 1) := by decide +kernel
theorem dX3_costOf_71 : decode cX3_costOf 71 = .ok (.istore 5, 2) := by decide +kernel
theorem dX3_costOf_73 : decode cX3_costOf 73 = .ok (.iload 5, 2) := by decide +kernel
theorem dX3_costOf_75 : decode cX3_costOf 75 = .ok (.aload_n 0, 1) := by decide +kernel
theorem dX3_costOf_76 : decode cX3_costOf 76 = .ok (.getfield 43, 3) := by decide +kernel
theorem dX3_costOf_79 : decode cX3_costOf 79 = .ok (.getfield 70, 3) := by decide +kernel
theorem dX3_costOf_82 : decode cX3_costOf 82 = .ok (.if_icmp .ge 39, 3) := by decide +kernel
theorem dX3_costOf_85 : decode cX3_costOf 85 = .ok (.aload_n 0, 1) := by decide +kernel
theorem dX3_costOf_86 : decode cX3_costOf 86 = .ok (.getfield 29, 3) := by decide +kernel
theorem dX3_costOf_89 : decode cX3_costOf 89 = .ok (.iload 5, 2) := by decide +kernel
theorem dX3_costOf_91 : decode cX3_costOf 91 = .ok (.iaload, 1) := by decide +kernel
theorem dX3_costOf_92 : decode cX3_costOf 92 = .ok (.ifCond .eq 23, 3) := by decide +kernel
theorem dX3_costOf_95 : decode cX3_costOf 95 = .ok (.iload 4, 2) := by decide +kernel
theorem dX3_costOf_97 : decode cX3_costOf 97 = .ok (.aload_n 0, 1) := by decide +kernel
theorem dX3_costOf_98 : decode cX3_costOf 98 = .ok (.getfield 26, 3) := by decide +kernel
theorem dX3_costOf_101 : decode cX3_costOf 101 = .ok (.iload 5, 2) := by decide +kernel
theorem dX3_costOf_103 : decode cX3_costOf 103 = .ok (.aaload, 1) := by decide +kernel
theorem dX3_costOf_104 : decode cX3_costOf 104 = .ok (.aload_n 0, 1) := by decide +kernel
theorem dX3_costOf_105 : decode cX3_costOf 105 = .ok (.getfield 29, 3) := by decide +kernel
theorem dX3_costOf_108 : decode cX3_costOf 108 = .ok (.iload 5, 2) := by decide +kernel
theorem dX3_costOf_110 : decode cX3_costOf 110 = .ok (.iaload, 1) := by decide +kernel
theorem dX3_costOf_111 : decode cX3_costOf 111 = .ok (.iaload, 1) := by decide +kernel
theorem dX3_costOf_112 : decode cX3_costOf 112 = .ok (.iadd, 1) := by decide +kernel
theorem dX3_costOf_113 : decode cX3_costOf 113 = .ok (.istore 4, 2) := by decide +kernel
theorem dX3_costOf_115 : decode cX3_costOf 115 = .ok (.iinc 5 1, 3) := by decide +kernel
theorem dX3_costOf_118 : decode cX3_costOf 118 = .ok (.goto (-45), 3) := by decide +kernel
theorem dX3_costOf_121 : decode cX3_costOf 121 = .ok (.iload 4, 2) := by decide +kernel
theorem dX3_costOf_123 : decode cX3_costOf 123 = .ok (.ireturn, 1) := by decide +kernel
theorem dX3_makeBest_0 : decode cX3_makeBest 0 = .ok (.aload_n 0, 1) := by decide +kernel
theorem dX3_makeBest_1 : decode cX3_makeBest 1 = .ok (.iload_n 1, 1) := by decide +kernel
theorem dX3_makeBest_2 : decode cX3_makeBest 2 = .ok (.invokevirtual 163, 3) := by decide +kernel
theorem dX3_makeBest_5 : decode cX3_makeBest 5 = .ok (.istore_n 2, 1) := by decide +kernel
theorem dX3_makeBest_6 : decode cX3_makeBest 6 = .ok (.aload_n 0, 1) := by decide +kernel
theorem dX3_makeBest_7 : decode cX3_makeBest 7 = .ok (.getfield 160, 3) := by decide +kernel
theorem dX3_makeBest_10 : decode cX3_makeBest 10 = .ok (.istore_n 3, 1) := by decide +kernel
theorem dX3_makeBest_11 : decode cX3_makeBest 11 = .ok (.aload_n 0, 1) := by decide +kernel
theorem dX3_makeBest_12 : decode cX3_makeBest 12 = .ok (.getfield 43, 3) := by decide +kernel
theorem dX3_makeBest_15 : decode cX3_makeBest 15 = .ok (.getfield 129, 3) := by decide +kernel
theorem dX3_makeBest_18 : decode cX3_makeBest 18 = .ok (.iconst 1, 1) := by decide +kernel
theorem dX3_makeBest_19 : decode cX3_makeBest 19 = .ok (.isub, 1) := by decide +kernel
theorem dX3_makeBest_20 : decode cX3_makeBest 20 = .ok (.istore 4, 2) := by decide +kernel
theorem dX3_makeBest_22 : decode cX3_makeBest 22 = .ok (.iload 4, 2) := by decide +kernel
theorem dX3_makeBest_24 : decode cX3_makeBest 24 = .ok (.ifCond .lt 26, 3) := by decide +kernel
theorem dX3_makeBest_27 : decode cX3_makeBest 27 = .ok (.aload_n 0, 1) := by decide +kernel
theorem dX3_makeBest_28 : decode cX3_makeBest 28 = .ok (.getfield 12, 3) := by decide +kernel
theorem dX3_makeBest_31 : decode cX3_makeBest 31 = .ok (.getfield 167, 3) := by decide +kernel
theorem dX3_makeBest_34 : decode cX3_makeBest 34 = .ok (.iload 4, 2) := by decide +kernel
theorem dX3_makeBest_36 : decode cX3_makeBest 36 = .ok (.iload_n 3, 1) := by decide +kernel
theorem dX3_makeBest_37 : decode cX3_makeBest 37 = .ok (.iconst 3, 1) := by decide +kernel
theorem dX3_makeBest_38 : decode cX3_makeBest 38 = .ok (.irem, 1) := by decide +kernel
theorem dX3_makeBest_39 : decode cX3_makeBest 39 = .ok (.iastore, 1) := by decide +kernel
theorem dX3_makeBest_40 : decode cX3_makeBest 40 = .ok (.iload_n 3, 1) := by decide +kernel
theorem dX3_makeBest_41 : decode cX3_makeBest 41 = .ok (.iconst 3, 1) := by decide +kernel
theorem dX3_makeBest_42 : decode cX3_makeBest 42 = .ok (.idiv, 1) := by decide +kernel
theorem dX3_makeBest_43 : decode cX3_makeBest 43 = .ok (.istore_n 3, 1) := by decide +kernel
theorem dX3_makeBest_44 : decode cX3_makeBest 44 = .ok (.iinc 4 (-1), 3) := by decide +kernel
theorem dX3_makeBest_47 : decode cX3_makeBest 47 = .ok (.goto (-25), 3) := by decide +kernel
theorem dX3_makeBest_50 : decode cX3_makeBest 50 = .ok (.aload_n 0, 1) := by decide +kernel
theorem dX3_makeBest_51 : decode cX3_makeBest 51 = .ok (.aload_n 0, 1) := by decide +kernel
theorem dX3_makeBest_52 : decode cX3_makeBest 52 = .ok (.getfield 12, 3) := by decide +kernel
theorem dX3_makeBest_55 : decode cX3_makeBest 55 = .ok (.getfield 137, 3) := by decide +kernel
theorem dX3_makeBest_58 : decode cX3_makeBest 58 = .ok (.invokevirtual 140, 3) := by decide +kernel
theorem dX3_makeBest_61 : decode cX3_makeBest 61 = .ok (.iconst 0, 1) := by decide +kernel
theorem dX3_makeBest_62 : decode cX3_makeBest 62 = .ok (.istore 4, 2) := by decide +kernel
theorem dX3_makeBest_64 : decode cX3_makeBest 64 = .ok (.iload 4, 2) := by decide +kernel
theorem dX3_makeBest_66 : decode cX3_makeBest 66 = .ok (.bipush 120, 2) := by decide +kernel
theorem dX3_makeBest_68 : decode cX3_makeBest 68 = .ok (.if_icmp .ge 43, 3) := by decide +kernel
theorem dX3_makeBest_71 : decode cX3_makeBest 71 = .ok (.aload_n 0, 1) := by decide +kernel
theorem dX3_makeBest_72 : decode cX3_makeBest 72 = .ok (.aload_n 0, 1) := by decide +kernel
theorem dX3_makeBest_73 : decode cX3_makeBest 73 = .ok (.getfield 12, 3) := by decide +kernel
theorem dX3_makeBest_76 : decode cX3_makeBest 76 = .ok (.invokevirtual 170, 3) := by decide +kernel
theorem dX3_makeBest_79 : decode cX3_makeBest 79 = .ok (.aload_n 0, 1) := by decide +kernel
theorem dX3_makeBest_80 : decode cX3_makeBest 80 = .ok (.getfield 12, 3) := by decide +kernel
theorem dX3_makeBest_83 : decode cX3_makeBest 83 = .ok (.getfield 174, 3) := by decide +kernel
theorem dX3_makeBest_86 : decode cX3_makeBest 86 = .ok (.iload_n 2, 1) := by decide +kernel
theorem dX3_makeBest_87 : decode cX3_makeBest 87 = .ok (.if_icmp .eq 17, 3) := by decide +kernel
theorem dX3_makeBest_90 : decode cX3_makeBest 90 = .ok (.aload_n 0, 1) := by decide +kernel
theorem dX3_makeBest_91 : decode cX3_makeBest 91 = .ok (.aload_n 0, 1) := by decide +kernel
theorem dX3_makeBest_92 : decode cX3_makeBest 92 = .ok (.getfield 12, 3) := by decide +kernel
theorem dX3_makeBest_95 : decode cX3_makeBest 95 = .ok (.getfield 137, 3) := by decide +kernel
theorem dX3_makeBest_98 : decode cX3_makeBest 98 = .ok (.invokevirtual 153, 3) := by decide +kernel
theorem dX3_makeBest_101 : decode cX3_makeBest 101 = .ok (.ifCond .ne 4, 3) := by decide +kernel
theorem dX3_makeBest_104 : decode cX3_makeBest 104 = .ok (.return_, 1) := by decide +kernel
theorem dX3_makeBest_105 : decode cX3_makeBest 105 = .ok (.iinc 4 1, 3) := by decide +kernel
theorem dX3_makeBest_108 : decode cX3_makeBest 108 = .ok (.goto (-44), 3) := by decide +kernel
theorem dX3_makeBest_111 : decode cX3_makeBest 111 = .ok (.return_, 1) := by decide +kernel
theorem dX3_allHome_0 : decode cX3_allHome 0 = .ok (.iconst 0, 1) := by decide +kernel
theorem dX3_allHome_1 : decode cX3_allHome 1 = .ok (.istore_n 1, 1) := by decide +kernel
theorem dX3_allHome_2 : decode cX3_allHome 2 = .ok (.iload_n 1, 1) := by decide +kernel
theorem dX3_allHome_3 : decode cX3_allHome 3 = .ok (.aload_n 0, 1) := by decide +kernel
theorem dX3_allHome_4 : decode cX3_allHome 4 = .ok (.getfield 43, 3) := by decide +kernel
theorem dX3_allHome_7 : decode cX3_allHome 7 = .ok (.getfield 70, 3) := by decide +kernel
theorem dX3_allHome_10 : decode cX3_allHome 10 = .ok (.if_icmp .ge 31, 3) := by decide +kernel
theorem dX3_allHome_13 : decode cX3_allHome 13 = .ok (.aload_n 0, 1) := by decide +kernel
theorem dX3_allHome_14 : decode cX3_allHome 14 = .ok (.getfield 33, 3) := by decide +kernel
theorem dX3_allHome_17 : decode cX3_allHome 17 = .ok (.iload_n 1, 1) := by decide +kernel
theorem dX3_allHome_18 : decode cX3_allHome 18 = .ok (.aload_n 0, 1) := by decide +kernel
theorem dX3_allHome_19 : decode cX3_allHome 19 = .ok (.getfield 43, 3) := by decide +kernel
theorem dX3_allHome_22 : decode cX3_allHome 22 = .ok (.getfield 144, 3) := by decide +kernel
theorem dX3_allHome_25 : decode cX3_allHome 25 = .ok (.iload_n 1, 1) := by decide +kernel
theorem dX3_allHome_26 : decode cX3_allHome 26 = .ok (.iaload, 1) := by decide +kernel
theorem dX3_allHome_27 : decode cX3_allHome 27 = .ok (.iastore, 1) := by decide +kernel
theorem dX3_allHome_28 : decode cX3_allHome 28 = .ok (.aload_n 0, 1) := by decide +kernel
theorem dX3_allHome_29 : decode cX3_allHome 29 = .ok (.getfield 36, 3) := by decide +kernel
theorem dX3_allHome_32 : decode cX3_allHome 32 = .ok (.iload_n 1, 1) := by decide +kernel
theorem dX3_allHome_33 : decode cX3_allHome 33 = .ok (.iconst 0, 1) := by decide +kernel
theorem dX3_allHome_34 : decode cX3_allHome 34 = .ok (.iastore, 1) := by decide +kernel
theorem dX3_allHome_35 : decode cX3_allHome 35 = .ok (.iinc 1 1, 3) := by decide +kernel
theorem dX3_allHome_38 : decode cX3_allHome 38 = .ok (.goto (-36), 3) := by decide +kernel
theorem dX3_allHome_41 : decode cX3_allHome 41 = .ok (.return_, 1) := by decide +kernel
theorem dX3_follow_0 : decode cX3_follow 0 = .ok (.aload_n 0, 1) := by decide +kernel
theorem dX3_follow_1 : decode cX3_follow 1 = .ok (.invokevirtual 177, 3) := by decide +kernel
theorem dX3_follow_4 : decode cX3_follow 4 = .ok (.aload_n 1, 1) := by decide +kernel
theorem dX3_follow_5 : decode cX3_follow 5 = .ok (.iconst 0, 1) := by decide +kernel
theorem dX3_follow_6 : decode cX3_follow 6 = .ok (.putfield 174, 3) := by decide +kernel
theorem dX3_follow_9 : decode cX3_follow 9 = .ok (.iconst 0, 1) := by decide +kernel
theorem dX3_follow_10 : decode cX3_follow 10 = .ok (.istore_n 2, 1) := by decide +kernel
theorem dX3_follow_11 : decode cX3_follow 11 = .ok (.iload_n 2, 1) := by decide +kernel
theorem dX3_follow_12 : decode cX3_follow 12 = .ok (.aload_n 0, 1) := by decide +kernel
theorem dX3_follow_13 : decode cX3_follow 13 = .ok (.getfield 43, 3) := by decide +kernel
theorem dX3_follow_16 : decode cX3_follow 16 = .ok (.getfield 129, 3) := by decide +kernel
theorem dX3_follow_19 : decode cX3_follow 19 = .ok (.if_icmp .ge 20, 3) := by decide +kernel
theorem dX3_follow_22 : decode cX3_follow 22 = .ok (.aload_n 0, 1) := by decide +kernel
theorem dX3_follow_23 : decode cX3_follow 23 = .ok (.aload_n 1, 1) := by decide +kernel
theorem dX3_follow_24 : decode cX3_follow 24 = .ok (.aload_n 1, 1) := by decide +kernel
theorem dX3_follow_25 : decode cX3_follow 25 = .ok (.getfield 137, 3) := by decide +kernel
theorem dX3_follow_28 : decode cX3_follow 28 = .ok (.iload_n 2, 1) := by decide +kernel
theorem dX3_follow_29 : decode cX3_follow 29 = .ok (.iaload, 1) := by decide +kernel
theorem dX3_follow_30 : decode cX3_follow 30 = .ok (.invokevirtual 180, 3) := by decide +kernel
theorem dX3_follow_33 : decode cX3_follow 33 = .ok (.iinc 2 1, 3) := by decide +kernel
theorem dX3_follow_36 : decode cX3_follow 36 = .ok (.goto (-25), 3) := by decide +kernel
theorem dX3_follow_39 : decode cX3_follow 39 = .ok (.return_, 1) := by decide +kernel
theorem dX3_carryOut_0 : decode cX3_carryOut 0 = .ok (.aload_n 1, 1) := by decide +kernel
theorem dX3_carryOut_1 : decode cX3_carryOut 1 = .ok (.getfield 167, 3) := by decide +kernel
theorem dX3_carryOut_4 : decode cX3_carryOut 4 = .ok (.iload_n 2, 1) := by decide +kernel
theorem dX3_carryOut_5 : decode cX3_carryOut 5 = .ok (.iaload, 1) := by decide +kernel
theorem dX3_carryOut_6 : decode cX3_carryOut 6 = .ok (.istore_n 3, 1) := by decide +kernel
theorem dX3_carryOut_7 : decode cX3_carryOut 7 = .ok (.aload_n 1, 1) := by decide +kernel
theorem dX3_carryOut_8 : decode cX3_carryOut 8 = .ok (.getfield 184, 3) := by decide +kernel
theorem dX3_carryOut_11 : decode cX3_carryOut 11 = .ok (.iload_n 2, 1) := by decide +kernel
theorem dX3_carryOut_12 : decode cX3_carryOut 12 = .ok (.aload_n 0, 1) := by decide +kernel
theorem dX3_carryOut_13 : decode cX3_carryOut 13 = .ok (.iload_n 2, 1) := by decide +kernel
theorem dX3_carryOut_14 : decode cX3_carryOut 14 = .ok (.aload_n 0, 1) := by decide +kernel
theorem dX3_carryOut_15 : decode cX3_carryOut 15 = .ok (.getfield 33, 3) := by decide +kernel
theorem dX3_carryOut_18 : decode cX3_carryOut 18 = .ok (.iload_n 3, 1) := by decide +kernel
theorem dX3_carryOut_19 : decode cX3_carryOut 19 = .ok (.iaload, 1) := by decide +kernel
theorem dX3_carryOut_20 : decode cX3_carryOut 20 = .ok (.aload_n 0, 1) := by decide +kernel
theorem dX3_carryOut_21 : decode cX3_carryOut 21 = .ok (.getfield 36, 3) := by decide +kernel
theorem dX3_carryOut_24 : decode cX3_carryOut 24 = .ok (.iload_n 3, 1) := by decide +kernel
theorem dX3_carryOut_25 : decode cX3_carryOut 25 = .ok (.iaload, 1) := by decide +kernel
theorem dX3_carryOut_26 : decode cX3_carryOut 26 = .ok (.invokevirtual 147, 3) := by decide +kernel
theorem dX3_carryOut_29 : decode cX3_carryOut 29 = .ok (.iastore, 1) := by decide +kernel
theorem dX3_carryOut_30 : decode cX3_carryOut 30 = .ok (.aload_n 1, 1) := by decide +kernel
theorem dX3_carryOut_31 : decode cX3_carryOut 31 = .ok (.getfield 187, 3) := by decide +kernel
theorem dX3_carryOut_34 : decode cX3_carryOut 34 = .ok (.iload_n 2, 1) := by decide +kernel
theorem dX3_carryOut_35 : decode cX3_carryOut 35 = .ok (.aload_n 1, 1) := by decide +kernel
theorem dX3_carryOut_36 : decode cX3_carryOut 36 = .ok (.getfield 184, 3) := by decide +kernel
theorem dX3_carryOut_39 : decode cX3_carryOut 39 = .ok (.iload_n 2, 1) := by decide +kernel
theorem dX3_carryOut_40 : decode cX3_carryOut 40 = .ok (.iaload, 1) := by decide +kernel
theorem dX3_carryOut_41 : decode cX3_carryOut 41 = .ok (.bipush 24, 2) := by decide +kernel
theorem dX3_carryOut_43 : decode cX3_carryOut 43 = .ok (.if_icmp .ne 8, 3) := by decide +kernel
theorem dX3_carryOut_46 : decode cX3_carryOut 46 = .ok (.bipush 24, 2) := by decide +kernel
theorem dX3_carryOut_48 : decode cX3_carryOut 48 = .ok (.goto 20, 3) := by decide +kernel
theorem dX3_carryOut_51 : decode cX3_carryOut 51 = .ok (.aload_n 0, 1) := by decide +kernel
theorem dX3_carryOut_52 : decode cX3_carryOut 52 = .ok (.iload_n 2, 1) := by decide +kernel
theorem dX3_carryOut_53 : decode cX3_carryOut 53 = .ok (.aload_n 0, 1) := by decide +kernel
theorem dX3_carryOut_54 : decode cX3_carryOut 54 = .ok (.getfield 33, 3) := by decide +kernel
theorem dX3_carryOut_57 : decode cX3_carryOut 57 = .ok (.iload_n 3, 1) := by decide +kernel
theorem dX3_carryOut_58 : decode cX3_carryOut 58 = .ok (.iaload, 1) := by decide +kernel
theorem dX3_carryOut_59 : decode cX3_carryOut 59 = .ok (.aload_n 0, 1) := by decide +kernel
theorem dX3_carryOut_60 : decode cX3_carryOut 60 = .ok (.getfield 36, 3) := by decide +kernel
theorem dX3_carryOut_63 : decode cX3_carryOut 63 = .ok (.iload_n 3, 1) := by decide +kernel
theorem dX3_carryOut_64 : decode cX3_carryOut 64 = .ok (.iaload, 1) := by decide +kernel
theorem dX3_carryOut_65 : decode cX3_carryOut 65 = .ok (.invokevirtual 125, 3) := by decide +kernel
theorem dX3_carryOut_68 : decode cX3_carryOut 68 = .ok (.iastore, 1) := by decide +kernel
theorem dX3_carryOut_69 : decode cX3_carryOut 69 = .ok (.aload_n 1, 1) := by decide +kernel
theorem dX3_carryOut_70 : decode cX3_carryOut 70 = .ok (.dup, 1) := by decide +kernel
theorem dX3_carryOut_71 : decode cX3_carryOut 71 = .ok (.getfield 174, 3) := by decide +kernel
theorem dX3_carryOut_74 : decode cX3_carryOut 74 = .ok (.aload_n 0, 1) := by decide +kernel
theorem dX3_carryOut_75 : decode cX3_carryOut 75 = .ok (.getfield 43, 3) := by decide +kernel
theorem dX3_carryOut_78 : decode cX3_carryOut 78 = .ok (.iload_n 2, 1) := by decide +kernel
theorem dX3_carryOut_79 : decode cX3_carryOut 79 = .ok (.aload_n 1, 1) := by decide +kernel
theorem dX3_carryOut_80 : decode cX3_carryOut 80 = .ok (.getfield 184, 3) := by decide +kernel
theorem dX3_carryOut_83 : decode cX3_carryOut 83 = .ok (.iload_n 2, 1) := by decide +kernel
theorem dX3_carryOut_84 : decode cX3_carryOut 84 = .ok (.iaload, 1) := by decide +kernel
theorem dX3_carryOut_85 : decode cX3_carryOut 85 = .ok (.invokevirtual 150, 3) := by decide +kernel
theorem dX3_carryOut_88 : decode cX3_carryOut 88 = .ok (.iadd, 1) := by decide +kernel
theorem dX3_carryOut_89 : decode cX3_carryOut 89 = .ok (.putfield 174, 3) := by decide +kernel
theorem dX3_carryOut_92 : decode cX3_carryOut 92 = .ok (.aload_n 0, 1) := by decide +kernel
theorem dX3_carryOut_93 : decode cX3_carryOut 93 = .ok (.getfield 33, 3) := by decide +kernel
theorem dX3_carryOut_96 : decode cX3_carryOut 96 = .ok (.iload_n 3, 1) := by decide +kernel
theorem dX3_carryOut_97 : decode cX3_carryOut 97 = .ok (.aload_n 0, 1) := by decide +kernel
theorem dX3_carryOut_98 : decode cX3_carryOut 98 = .ok (.getfield 43, 3) := by decide +kernel
theorem dX3_carryOut_101 : decode cX3_carryOut 101 = .ok (.getfield 114, 3) := by decide +kernel
theorem dX3_carryOut_104 : decode cX3_carryOut 104 = .ok (.iload_n 2, 1) := by decide +kernel
theorem dX3_carryOut_105 : decode cX3_carryOut 105 = .ok (.iaload, 1) := by decide +kernel
theorem dX3_carryOut_106 : decode cX3_carryOut 106 = .ok (.iastore, 1) := by decide +kernel
theorem dX3_carryOut_107 : decode cX3_carryOut 107 = .ok (.aload_n 0, 1) := by decide +kernel
theorem dX3_carryOut_108 : decode cX3_carryOut 108 = .ok (.getfield 36, 3) := by decide +kernel
theorem dX3_carryOut_111 : decode cX3_carryOut 111 = .ok (.iload_n 3, 1) := by decide +kernel
theorem dX3_carryOut_112 : decode cX3_carryOut 112 = .ok (.aload_n 1, 1) := by decide +kernel
theorem dX3_carryOut_113 : decode cX3_carryOut 113 = .ok (.getfield 184, 3) := by decide +kernel
theorem dX3_carryOut_116 : decode cX3_carryOut 116 = .ok (.iload_n 2, 1) := by decide +kernel
theorem dX3_carryOut_117 : decode cX3_carryOut 117 = .ok (.iaload, 1) := by decide +kernel
theorem dX3_carryOut_118 : decode cX3_carryOut 118 = .ok (.iastore, 1) := by decide +kernel
theorem dX3_carryOut_119 : decode cX3_carryOut 119 = .ok (.return_, 1) := by decide +kernel
theorem dX3_makeRule_0 : decode cX3_makeRule 0 = .ok (.aload_n 0, 1) := by decide +kernel
theorem dX3_makeRule_1 : decode cX3_makeRule 1 = .ok (.aload_n 0, 1) := by decide +kernel
theorem dX3_makeRule_2 : decode cX3_makeRule 2 = .ok (.getfield 18, 3) := by decide +kernel
theorem dX3_makeRule_5 : decode cX3_makeRule 5 = .ok (.getfield 137, 3) := by decide +kernel
theorem dX3_makeRule_8 : decode cX3_makeRule 8 = .ok (.invokevirtual 140, 3) := by decide +kernel
theorem dX3_makeRule_11 : decode cX3_makeRule 11 = .ok (.iconst 1, 1) := by decide +kernel
theorem dX3_makeRule_12 : decode cX3_makeRule 12 = .ok (.istore_n 2, 1) := by decide +kernel
theorem dX3_makeRule_13 : decode cX3_makeRule 13 = .ok (.iload_n 2, 1) := by decide +kernel
theorem dX3_makeRule_14 : decode cX3_makeRule 14 = .ok (.aload_n 0, 1) := by decide +kernel
theorem dX3_makeRule_15 : decode cX3_makeRule 15 = .ok (.getfield 43, 3) := by decide +kernel
theorem dX3_makeRule_18 : decode cX3_makeRule 18 = .ok (.getfield 129, 3) := by decide +kernel
theorem dX3_makeRule_21 : decode cX3_makeRule 21 = .ok (.if_icmp .ge 63, 3) := by decide +kernel
theorem dX3_makeRule_24 : decode cX3_makeRule 24 = .ok (.iload_n 2, 1) := by decide +kernel
theorem dX3_makeRule_25 : decode cX3_makeRule 25 = .ok (.istore_n 3, 1) := by decide +kernel
theorem dX3_makeRule_26 : decode cX3_makeRule 26 = .ok (.iload_n 3, 1) := by decide +kernel
theorem dX3_makeRule_27 : decode cX3_makeRule 27 = .ok (.ifCond .le 51, 3) := by decide +kernel
theorem dX3_makeRule_30 : decode cX3_makeRule 30 = .ok (.aload_n 0, 1) := by decide +kernel
theorem dX3_makeRule_31 : decode cX3_makeRule 31 = .ok (.aload_n 0, 1) := by decide +kernel
theorem dX3_makeRule_32 : decode cX3_makeRule 32 = .ok (.getfield 18, 3) := by decide +kernel
theorem dX3_makeRule_35 : decode cX3_makeRule 35 = .ok (.getfield 137, 3) := by decide +kernel
theorem dX3_makeRule_38 : decode cX3_makeRule 38 = .ok (.iload_n 3, 1) := by decide +kernel
theorem dX3_makeRule_39 : decode cX3_makeRule 39 = .ok (.iaload, 1) := by decide +kernel
theorem dX3_makeRule_40 : decode cX3_makeRule 40 = .ok (.aload_n 0, 1) := by decide +kernel
theorem dX3_makeRule_41 : decode cX3_makeRule 41 = .ok (.getfield 18, 3) := by decide +kernel
theorem dX3_makeRule_44 : decode cX3_makeRule 44 = .ok (.getfield 137, 3) := by decide +kernel
theorem dX3_makeRule_47 : decode cX3_makeRule 47 = .ok (.iload_n 3, 1) := by decide +kernel
theorem dX3_makeRule_48 : decode cX3_makeRule 48 = .ok (.iconst 1, 1) := by decide +kernel
theorem dX3_makeRule_49 : decode cX3_makeRule 49 = .ok (.isub, 1) := by decide +kernel
theorem dX3_makeRule_50 : decode cX3_makeRule 50 = .ok (.iaload, 1) := by decide +kernel
theorem dX3_makeRule_51 : decode cX3_makeRule 51 = .ok (.invokevirtual 190, 3) := by decide +kernel
theorem dX3_makeRule_54 : decode cX3_makeRule 54 = .ok (.ifCond .eq 24, 3) := by decide +kernel
theorem dX3_makeRule_57 : decode cX3_makeRule 57 = .ok (.aload_n 0, 1) := by decide +kernel
theorem dX3_makeRule_58 : decode cX3_makeRule 58 = .ok (.aload_n 0, 1) := by decide +kernel
theorem dX3_makeRule_59 : decode cX3_makeRule 59 = .ok (.getfield 18, 3) := by decide +kernel
theorem dX3_makeRule_62 : decode cX3_makeRule 62 = .ok (.getfield 137, 3) := by decide +kernel
theorem dX3_makeRule_65 : decode cX3_makeRule 65 = .ok (.iload_n 3, 1) := by decide +kernel
theorem dX3_makeRule_66 : decode cX3_makeRule 66 = .ok (.iload_n 3, 1) := by decide +kernel
theorem dX3_makeRule_67 : decode cX3_makeRule 67 = .ok (.iconst 1, 1) := by decide +kernel
theorem dX3_makeRule_68 : decode cX3_makeRule 68 = .ok (.isub, 1) := by decide +kernel
theorem dX3_makeRule_69 : decode cX3_makeRule 69 = .ok (.invokevirtual 132, 3) := by decide +kernel
theorem dX3_makeRule_72 : decode cX3_makeRule 72 = .ok (.iinc 3 (-1), 3) := by decide +kernel
theorem dX3_makeRule_75 : decode cX3_makeRule 75 = .ok (.goto (-49), 3) := by decide +kernel
theorem dX3_makeRule_78 : decode cX3_makeRule 78 = .ok (.iinc 2 1, 3) := by decide +kernel
theorem dX3_makeRule_81 : decode cX3_makeRule 81 = .ok (.goto (-68), 3) := by decide +kernel
theorem dX3_makeRule_84 : decode cX3_makeRule 84 = .ok (.aload_n 0, 1) := by decide +kernel
theorem dX3_makeRule_85 : decode cX3_makeRule 85 = .ok (.invokevirtual 177, 3) := by decide +kernel
theorem dX3_makeRule_88 : decode cX3_makeRule 88 = .ok (.aload_n 0, 1) := by decide +kernel
theorem dX3_makeRule_89 : decode cX3_makeRule 89 = .ok (.getfield 18, 3) := by decide +kernel
theorem dX3_makeRule_92 : decode cX3_makeRule 92 = .ok (.iconst 0, 1) := by decide +kernel
theorem dX3_makeRule_93 : decode cX3_makeRule 93 = .ok (.putfield 174, 3) := by decide +kernel
theorem dX3_makeRule_96 : decode cX3_makeRule 96 = .ok (.iconst 0, 1) := by decide +kernel
theorem dX3_makeRule_97 : decode cX3_makeRule 97 = .ok (.istore_n 2, 1) := by decide +kernel
theorem dX3_makeRule_98 : decode cX3_makeRule 98 = .ok (.iload_n 2, 1) := by decide +kernel
theorem dX3_makeRule_99 : decode cX3_makeRule 99 = .ok (.aload_n 0, 1) := by decide +kernel
theorem dX3_makeRule_100 : decode cX3_makeRule 100 = .ok (.getfield 43, 3) := by decide +kernel
theorem dX3_makeRule_103 : decode cX3_makeRule 103 = .ok (.getfield 129, 3) := by decide +kernel
theorem dX3_makeRule_106 : decode cX3_makeRule 106 = .ok (.if_icmp .ge 43, 3) := by decide +kernel
theorem dX3_makeRule_109 : decode cX3_makeRule 109 = .ok (.aload_n 0, 1) := by decide +kernel
theorem dX3_makeRule_110 : decode cX3_makeRule 110 = .ok (.getfield 18, 3) := by decide +kernel
theorem dX3_makeRule_113 : decode cX3_makeRule 113 = .ok (.getfield 137, 3) := by decide +kernel
theorem dX3_makeRule_116 : decode cX3_makeRule 116 = .ok (.iload_n 2, 1) := by decide +kernel
theorem dX3_makeRule_117 : decode cX3_makeRule 117 = .ok (.iaload, 1) := by decide +kernel
theorem dX3_makeRule_118 : decode cX3_makeRule 118 = .ok (.istore_n 3, 1) := by decide +kernel
theorem dX3_makeRule_119 : decode cX3_makeRule 119 = .ok (.aload_n 0, 1) := by decide +kernel
theorem dX3_makeRule_120 : decode cX3_makeRule 120 = .ok (.getfield 18, 3) := by decide +kernel
theorem dX3_makeRule_123 : decode cX3_makeRule 123 = .ok (.getfield 167, 3) := by decide +kernel
theorem dX3_makeRule_126 : decode cX3_makeRule 126 = .ok (.iload_n 3, 1) := by decide +kernel
theorem dX3_makeRule_127 : decode cX3_makeRule 127 = .ok (.aload_n 0, 1) := by decide +kernel
theorem dX3_makeRule_128 : decode cX3_makeRule 128 = .ok (.iload_n 3, 1) := by decide +kernel
theorem dX3_makeRule_129 : decode cX3_makeRule 129 = .ok (.iload_n 1, 1) := by decide +kernel
theorem dX3_makeRule_130 : decode cX3_makeRule 130 = .ok (.invokevirtual 194, 3) := by decide +kernel
theorem dX3_makeRule_133 : decode cX3_makeRule 133 = .ok (.iastore, 1) := by decide +kernel
theorem dX3_makeRule_134 : decode cX3_makeRule 134 = .ok (.aload_n 0, 1) := by decide +kernel
theorem dX3_makeRule_135 : decode cX3_makeRule 135 = .ok (.aload_n 0, 1) := by decide +kernel
theorem dX3_makeRule_136 : decode cX3_makeRule 136 = .ok (.getfield 18, 3) := by decide +kernel
theorem dX3_makeRule_139 : decode cX3_makeRule 139 = .ok (.iload_n 3, 1) := by decide +kernel
theorem dX3_makeRule_140 : decode cX3_makeRule 140 = .ok (.invokevirtual 180, 3) := by decide +kernel
theorem dX3_makeRule_143 : decode cX3_makeRule 143 = .ok (.iinc 2 1, 3) := by decide +kernel
theorem dX3_makeRule_146 : decode cX3_makeRule 146 = .ok (.goto (-48), 3) := by decide +kernel
theorem dX3_makeRule_149 : decode cX3_makeRule 149 = .ok (.return_, 1) := by decide +kernel
theorem dX3_isAhead_0 : decode cX3_isAhead 0 = .ok (.aload_n 0, 1) := by decide +kernel
theorem dX3_isAhead_1 : decode cX3_isAhead 1 = .ok (.getfield 43, 3) := by decide +kernel
theorem dX3_isAhead_4 : decode cX3_isAhead 4 = .ok (.getfield 105, 3) := by decide +kernel
theorem dX3_isAhead_7 : decode cX3_isAhead 7 = .ok (.iload_n 1, 1) := by decide +kernel
theorem dX3_isAhead_8 : decode cX3_isAhead 8 = .ok (.iaload, 1) := by decide +kernel
theorem dX3_isAhead_9 : decode cX3_isAhead 9 = .ok (.aload_n 0, 1) := by decide +kernel
theorem dX3_isAhead_10 : decode cX3_isAhead 10 = .ok (.getfield 43, 3) := by decide +kernel
theorem dX3_isAhead_13 : decode cX3_isAhead 13 = .ok (.getfield 105, 3) := by decide +kernel
theorem dX3_isAhead_16 : decode cX3_isAhead 16 = .ok (.iload_n 2, 1) := by decide +kernel
theorem dX3_isAhead_17 : decode cX3_isAhead 17 = .ok (.iaload, 1) := by decide +kernel
theorem dX3_isAhead_18 : decode cX3_isAhead 18 = .ok (.if_icmp .eq 30, 3) := by decide +kernel
theorem dX3_isAhead_21 : decode cX3_isAhead 21 = .ok (.aload_n 0, 1) := by decide +kernel
theorem dX3_isAhead_22 : decode cX3_isAhead 22 = .ok (.getfield 43, 3) := by decide +kernel
theorem dX3_isAhead_25 : decode cX3_isAhead 25 = .ok (.getfield 105, 3) := by decide +kernel
theorem dX3_isAhead_28 : decode cX3_isAhead 28 = .ok (.iload_n 1, 1) := by decide +kernel
theorem dX3_isAhead_29 : decode cX3_isAhead 29 = .ok (.iaload, 1) := by decide +kernel
theorem dX3_isAhead_30 : decode cX3_isAhead 30 = .ok (.aload_n 0, 1) := by decide +kernel
theorem dX3_isAhead_31 : decode cX3_isAhead 31 = .ok (.getfield 43, 3) := by decide +kernel
theorem dX3_isAhead_34 : decode cX3_isAhead 34 = .ok (.getfield 105, 3) := by decide +kernel
theorem dX3_isAhead_37 : decode cX3_isAhead 37 = .ok (.iload_n 2, 1) := by decide +kernel
theorem dX3_isAhead_38 : decode cX3_isAhead 38 = .ok (.iaload, 1) := by decide +kernel
theorem dX3_isAhead_39 : decode cX3_isAhead 39 = .ok (.if_icmp .ge 7, 3) := by decide +kernel
theorem dX3_isAhead_42 : decode cX3_isAhead 42 = .ok (.iconst 1, 1) := by decide +kernel
theorem dX3_isAhead_43 : decode cX3_isAhead 43 = .ok (.goto 4, 3) := by decide +kernel
theorem dX3_isAhead_46 : decode cX3_isAhead 46 = .ok (.iconst 0, 1) := by decide +kernel
theorem dX3_isAhead_47 : decode cX3_isAhead 47 = .ok (.ireturn, 1) := by decide +kernel
theorem dX3_isAhead_48 : decode cX3_isAhead 48 = .ok (.aload_n 0, 1) := by decide +kernel
theorem dX3_isAhead_49 : decode cX3_isAhead 49 = .ok (.getfield 43, 3) := by decide +kernel
theorem dX3_isAhead_52 : decode cX3_isAhead 52 = .ok (.getfield 197, 3) := by decide +kernel
theorem dX3_isAhead_55 : decode cX3_isAhead 55 = .ok (.iload_n 1, 1) := by decide +kernel
theorem dX3_isAhead_56 : decode cX3_isAhead 56 = .ok (.iaload, 1) := by decide +kernel
theorem dX3_isAhead_57 : decode cX3_isAhead 57 = .ok (.aload_n 0, 1) := by decide +kernel
theorem dX3_isAhead_58 : decode cX3_isAhead 58 = .ok (.getfield 43, 3) := by decide +kernel
theorem dX3_isAhead_61 : decode cX3_isAhead 61 = .ok (.getfield 197, 3) := by decide +kernel
theorem dX3_isAhead_64 : decode cX3_isAhead 64 = .ok (.iload_n 2, 1) := by decide +kernel
theorem dX3_isAhead_65 : decode cX3_isAhead 65 = .ok (.iaload, 1) := by decide +kernel
theorem dX3_isAhead_66 : decode cX3_isAhead 66 = .ok (.if_icmp .eq 30, 3) := by decide +kernel
theorem dX3_isAhead_69 : decode cX3_isAhead 69 = .ok (.aload_n 0, 1) := by decide +kernel
theorem dX3_isAhead_70 : decode cX3_isAhead 70 = .ok (.getfield 43, 3) := by decide +kernel
theorem dX3_isAhead_73 : decode cX3_isAhead 73 = .ok (.getfield 197, 3) := by decide +kernel
theorem dX3_isAhead_76 : decode cX3_isAhead 76 = .ok (.iload_n 1, 1) := by decide +kernel
theorem dX3_isAhead_77 : decode cX3_isAhead 77 = .ok (.iaload, 1) := by decide +kernel
theorem dX3_isAhead_78 : decode cX3_isAhead 78 = .ok (.aload_n 0, 1) := by decide +kernel
theorem dX3_isAhead_79 : decode cX3_isAhead 79 = .ok (.getfield 43, 3) := by decide +kernel
theorem dX3_isAhead_82 : decode cX3_isAhead 82 = .ok (.getfield 197, 3) := by decide +kernel
theorem dX3_isAhead_85 : decode cX3_isAhead 85 = .ok (.iload_n 2, 1) := by decide +kernel
theorem dX3_isAhead_86 : decode cX3_isAhead 86 = .ok (.iaload, 1) := by decide +kernel
theorem dX3_isAhead_87 : decode cX3_isAhead 87 = .ok (.if_icmp .le 7, 3) := by decide +kernel
theorem dX3_isAhead_90 : decode cX3_isAhead 90 = .ok (.iconst 1, 1) := by decide +kernel
theorem dX3_isAhead_91 : decode cX3_isAhead 91 = .ok (.goto 4, 3) := by decide +kernel
theorem dX3_isAhead_94 : decode cX3_isAhead 94 = .ok (.iconst 0, 1) := by decide +kernel
theorem dX3_isAhead_95 : decode cX3_isAhead 95 = .ok (.ireturn, 1) := by decide +kernel
theorem dX3_isAhead_96 : decode cX3_isAhead 96 = .ok (.iload_n 1, 1) := by decide +kernel
theorem dX3_isAhead_97 : decode cX3_isAhead 97 = .ok (.iload_n 2, 1) := by decide +kernel
theorem dX3_isAhead_98 : decode cX3_isAhead 98 = .ok (.if_icmp .ge 7, 3) := by decide +kernel
theorem dX3_isAhead_101 : decode cX3_isAhead 101 = .ok (.iconst 1, 1) := by decide +kernel
theorem dX3_isAhead_102 : decode cX3_isAhead 102 = .ok (.goto 4, 3) := by decide +kernel
theorem dX3_isAhead_105 : decode cX3_isAhead 105 = .ok (.iconst 0, 1) := by decide +kernel
theorem dX3_isAhead_106 : decode cX3_isAhead 106 = .ok (.ireturn, 1) := by decide +kernel
theorem dX3_soonestFor_0 : decode cX3_soonestFor 0 = .ok (.iconst (-1), 1) := by decide +kernel
theorem dX3_soonestFor_1 : decode cX3_soonestFor 1 = .ok (.istore_n 3, 1) := by decide +kernel
theorem dX3_soonestFor_2 : decode cX3_soonestFor 2 = .ok (.bipush 24, 2) := by decide +kernel
theorem dX3_soonestFor_4 : decode cX3_soonestFor 4 = .ok (.istore 4, 2) := by decide +kernel
theorem dX3_soonestFor_6 : decode cX3_soonestFor 6 = .ok (.iconst 0, 1) := by decide +kernel
theorem dX3_soonestFor_7 : decode cX3_soonestFor 7 = .ok (.istore 5, 2) := by decide +kernel
theorem dX3_soonestFor_9 : decode cX3_soonestFor 9 = .ok (.iload 5, 2) := by decide +kernel
theorem dX3_soonestFor_11 : decode cX3_soonestFor 11 = .ok (.aload_n 0, 1) := by decide +kernel
theorem dX3_soonestFor_12 : decode cX3_soonestFor 12 = .ok (.getfield 43, 3) := by decide +kernel
theorem dX3_soonestFor_15 : decode cX3_soonestFor 15 = .ok (.getfield 70, 3) := by decide +kernel
theorem dX3_soonestFor_18 : decode cX3_soonestFor 18 = .ok (.if_icmp .ge 57, 3) := by decide +kernel
theorem dX3_soonestFor_21 : decode cX3_soonestFor 21 = .ok (.iload_n 2, 1) := by decide +kernel
theorem dX3_soonestFor_22 : decode cX3_soonestFor 22 = .ok (.iload 5, 2) := by decide +kernel
theorem dX3_soonestFor_24 : decode cX3_soonestFor 24 = .ok (.ishr, 1) := by decide +kernel
theorem dX3_soonestFor_25 : decode cX3_soonestFor 25 = .ok (.iconst 1, 1) := by decide +kernel
theorem dX3_soonestFor_26 : decode cX3_soonestFor 26 = .ok (.iand, 1) := by decide +kernel
theorem dX3_soonestFor_27 : decode cX3_soonestFor 27 = .ok (.ifCond .eq 42, 3) := by decide +kernel
theorem dX3_soonestFor_30 : decode cX3_soonestFor 30 = .ok (.aload_n 0, 1) := by decide +kernel
theorem dX3_soonestFor_31 : decode cX3_soonestFor 31 = .ok (.iload_n 1, 1) := by decide +kernel
theorem dX3_soonestFor_32 : decode cX3_soonestFor 32 = .ok (.aload_n 0, 1) := by decide +kernel
theorem dX3_soonestFor_33 : decode cX3_soonestFor 33 = .ok (.getfield 33, 3) := by decide +kernel
theorem dX3_soonestFor_36 : decode cX3_soonestFor 36 = .ok (.iload 5, 2) := by decide +kernel
theorem dX3_soonestFor_38 : decode cX3_soonestFor 38 = .ok (.iaload, 1) := by decide +kernel
theorem dX3_soonestFor_39 : decode cX3_soonestFor 39 = .ok (.aload_n 0, 1) := by decide +kernel
theorem dX3_soonestFor_40 : decode cX3_soonestFor 40 = .ok (.getfield 36, 3) := by decide +kernel
theorem dX3_soonestFor_43 : decode cX3_soonestFor 43 = .ok (.iload 5, 2) := by decide +kernel
theorem dX3_soonestFor_45 : decode cX3_soonestFor 45 = .ok (.iaload, 1) := by decide +kernel
theorem dX3_soonestFor_46 : decode cX3_soonestFor 46 = .ok (.invokevirtual 147, 3) := by decide +kernel
theorem dX3_soonestFor_49 : decode cX3_soonestFor 49 = .ok (.istore 6, 2) := by decide +kernel
theorem dX3_soonestFor_51 : decode cX3_soonestFor 51 = .ok (.iload_n 3, 1) := by decide +kernel
theorem dX3_soonestFor_52 : decode cX3_soonestFor 52 = .ok (.ifCond .lt 10, 3) := by decide +kernel
theorem dX3_soonestFor_55 : decode cX3_soonestFor 55 = .ok (.iload 6, 2) := by decide +kernel
theorem dX3_soonestFor_57 : decode cX3_soonestFor 57 = .ok (.iload 4, 2) := by decide +kernel
theorem dX3_soonestFor_59 : decode cX3_soonestFor 59 = .ok (.if_icmp .ge 10, 3) := by decide +kernel
theorem dX3_soonestFor_62 : decode cX3_soonestFor 62 = .ok (.iload 5, 2) := by decide +kernel
theorem dX3_soonestFor_64 : decode cX3_soonestFor 64 = .ok (.istore_n 3, 1) := by decide +kernel
theorem dX3_soonestFor_65 : decode cX3_soonestFor 65 = .ok (.iload 6, 2) := by decide +kernel
theorem dX3_soonestFor_67 : decode cX3_soonestFor 67 = .ok (.istore 4, 2) := by decide +kernel
theorem dX3_soonestFor_69 : decode cX3_soonestFor 69 = .ok (.iinc 5 1, 3) := by decide +kernel
theorem dX3_soonestFor_72 : decode cX3_soonestFor 72 = .ok (.goto (-63), 3) := by decide +kernel
theorem dX3_soonestFor_75 : decode cX3_soonestFor 75 = .ok (.iload_n 3, 1) := by decide +kernel
theorem dX3_soonestFor_76 : decode cX3_soonestFor 76 = .ok (.iconst 0, 1) := by decide +kernel
theorem dX3_soonestFor_77 : decode cX3_soonestFor 77 = .ok (.invokestatic 108, 3) := by decide +kernel
theorem dX3_soonestFor_80 : decode cX3_soonestFor 80 = .ok (.ireturn, 1) := by decide +kernel
theorem dX4_init_0 : decode cX4_init 0 = .ok (.aload_n 0, 1) := by decide +kernel
theorem dX4_init_1 : decode cX4_init 1 = .ok (.invokespecial 1, 3) := by decide +kernel
theorem dX4_init_4 : decode cX4_init 4 = .ok (.aload_n 0, 1) := by decide +kernel
theorem dX4_init_5 : decode cX4_init 5 = .ok (.iconst 4, 1) := by decide +kernel
theorem dX4_init_6 : decode cX4_init 6 = .ok (.newarray .int, 2) := by decide +kernel
theorem dX4_init_8 : decode cX4_init 8 = .ok (.putfield 9, 3) := by decide +kernel
theorem dX4_init_11 : decode cX4_init 11 = .ok (.aload_n 0, 1) := by decide +kernel
theorem dX4_init_12 : decode cX4_init 12 = .ok (.iconst 4, 1) := by decide +kernel
theorem dX4_init_13 : decode cX4_init 13 = .ok (.newarray .int, 2) := by decide +kernel
theorem dX4_init_15 : decode cX4_init 15 = .ok (.putfield 13, 3) := by decide +kernel
theorem dX4_init_18 : decode cX4_init 18 = .ok (.aload_n 0, 1) := by decide +kernel
theorem dX4_init_19 : decode cX4_init 19 = .ok (.iconst 4, 1) := by decide +kernel
theorem dX4_init_20 : decode cX4_init 20 = .ok (.bipush 24, 2) := by decide +kernel
theorem dX4_init_22 : decode cX4_init 22 = .ok (.multianewarray 16 2, 4) := by decide +kernel
theorem dX4_init_26 : decode cX4_init 26 = .ok (.putfield 18, 3) := by decide +kernel
theorem dX4_init_29 : decode cX4_init 29 = .ok (.aload_n 0, 1) := by decide +kernel
theorem dX4_init_30 : decode cX4_init 30 = .ok (.getfield 9, 3) := by decide +kernel
theorem dX4_init_33 : decode cX4_init 33 = .ok (.iconst (-1), 1) := by decide +kernel
theorem dX4_init_34 : decode cX4_init 34 = .ok (.invokestatic 21, 3) := by decide +kernel
theorem dX4_init_37 : decode cX4_init 37 = .ok (.return_, 1) := by decide +kernel
theorem dX5_init_0 : decode cX5_init 0 = .ok (.aload_n 0, 1) := by decide +kernel
theorem dX5_init_1 : decode cX5_init 1 = .ok (.invokespecial 3, 3) := by decide +kernel
theorem dX5_init_4 : decode cX5_init 4 = .ok (.aload_n 0, 1) := by decide +kernel
theorem dX5_init_5 : decode cX5_init 5 = .ok (.iconst 3, 1) := by decide +kernel
theorem dX5_init_6 : decode cX5_init 6 = .ok (.newarray .int, 2) := by decide +kernel
theorem dX5_init_8 : decode cX5_init 8 = .ok (.putfield 9, 3) := by decide +kernel
theorem dX5_init_11 : decode cX5_init 11 = .ok (.aload_n 0, 1) := by decide +kernel
theorem dX5_init_12 : decode cX5_init 12 = .ok (.iconst 5, 1) := by decide +kernel
theorem dX5_init_13 : decode cX5_init 13 = .ok (.newarray .int, 2) := by decide +kernel
theorem dX5_init_15 : decode cX5_init 15 = .ok (.putfield 15, 3) := by decide +kernel
theorem dX5_init_18 : decode cX5_init 18 = .ok (.aload_n 0, 1) := by decide +kernel
theorem dX5_init_19 : decode cX5_init 19 = .ok (.iconst 5, 1) := by decide +kernel
theorem dX5_init_20 : decode cX5_init 20 = .ok (.newarray .int, 2) := by decide +kernel
theorem dX5_init_22 : decode cX5_init 22 = .ok (.putfield 18, 3) := by decide +kernel
theorem dX5_init_25 : decode cX5_init 25 = .ok (.aload_n 0, 1) := by decide +kernel
theorem dX5_init_26 : decode cX5_init 26 = .ok (.iconst 5, 1) := by decide +kernel
theorem dX5_init_27 : decode cX5_init 27 = .ok (.newarray .int, 2) := by decide +kernel
theorem dX5_init_29 : decode cX5_init 29 = .ok (.putfield 21, 3) := by decide +kernel
theorem dX5_init_32 : decode cX5_init 32 = .ok (.aload_n 0, 1) := by decide +kernel
theorem dX5_init_33 : decode cX5_init 33 = .ok (.iconst 5, 1) := by decide +kernel
theorem dX5_init_34 : decode cX5_init 34 = .ok (.newarray .int, 2) := by decide +kernel
theorem dX5_init_36 : decode cX5_init 36 = .ok (.putfield 24, 3) := by decide +kernel
theorem dX5_init_39 : decode cX5_init 39 = .ok (.aload_n 0, 1) := by decide +kernel
theorem dX5_init_40 : decode cX5_init 40 = .ok (.iconst 5, 1) := by decide +kernel
theorem dX5_init_41 : decode cX5_init 41 = .ok (.newarray .int, 2) := by decide +kernel
theorem dX5_init_43 : decode cX5_init 43 = .ok (.putfield 27, 3) := by decide +kernel
theorem dX5_init_46 : decode cX5_init 46 = .ok (.return_, 1) := by decide +kernel
theorem dX5_hasServant_0 : decode cX5_hasServant 0 = .ok (.iload_n 1, 1) := by decide +kernel
theorem dX5_hasServant_1 : decode cX5_hasServant 1 = .ok (.ifCond .lt 15, 3) := by decide +kernel
theorem dX5_hasServant_4 : decode cX5_hasServant 4 = .ok (.iload_n 1, 1) := by decide +kernel
theorem dX5_hasServant_5 : decode cX5_hasServant 5 = .ok (.aload_n 0, 1) := by decide +kernel
theorem dX5_hasServant_6 : decode cX5_hasServant 6 = .ok (.getfield 30, 3) := by decide +kernel
theorem dX5_hasServant_9 : decode cX5_hasServant 9 = .ok (.if_icmp .ge 7, 3) := by decide +kernel
theorem dX5_hasServant_12 : decode cX5_hasServant 12 = .ok (.iconst 1, 1) := by decide +kernel
theorem dX5_hasServant_13 : decode cX5_hasServant 13 = .ok (.goto 4, 3) := by decide +kernel
theorem dX5_hasServant_16 : decode cX5_hasServant 16 = .ok (.iconst 0, 1) := by decide +kernel
theorem dX5_hasServant_17 : decode cX5_hasServant 17 = .ok (.ireturn, 1) := by decide +kernel
theorem dX5_hasErrand_0 : decode cX5_hasErrand 0 = .ok (.iload_n 1, 1) := by decide +kernel
theorem dX5_hasErrand_1 : decode cX5_hasErrand 1 = .ok (.ifCond .lt 15, 3) := by decide +kernel
theorem dX5_hasErrand_4 : decode cX5_hasErrand 4 = .ok (.iload_n 1, 1) := by decide +kernel
theorem dX5_hasErrand_5 : decode cX5_hasErrand 5 = .ok (.aload_n 0, 1) := by decide +kernel
theorem dX5_hasErrand_6 : decode cX5_hasErrand 6 = .ok (.getfield 34, 3) := by decide +kernel
theorem dX5_hasErrand_9 : decode cX5_hasErrand 9 = .ok (.if_icmp .ge 7, 3) := by decide +kernel
theorem dX5_hasErrand_12 : decode cX5_hasErrand 12 = .ok (.iconst 1, 1) := by decide +kernel
theorem dX5_hasErrand_13 : decode cX5_hasErrand 13 = .ok (.goto 4, 3) := by decide +kernel
theorem dX5_hasErrand_16 : decode cX5_hasErrand 16 = .ok (.iconst 0, 1) := by decide +kernel
theorem dX5_hasErrand_17 : decode cX5_hasErrand 17 = .ok (.ireturn, 1) := by decide +kernel
theorem dX5_well_0 : decode cX5_well 0 = .ok (.iconst 1, 1) := by decide +kernel
theorem dX5_well_1 : decode cX5_well 1 = .ok (.aload_n 0, 1) := by decide +kernel
theorem dX5_well_2 : decode cX5_well 2 = .ok (.getfield 30, 3) := by decide +kernel
theorem dX5_well_5 : decode cX5_well 5 = .ok (.ishl, 1) := by decide +kernel
theorem dX5_well_6 : decode cX5_well 6 = .ok (.iconst 1, 1) := by decide +kernel
theorem dX5_well_7 : decode cX5_well 7 = .ok (.isub, 1) := by decide +kernel
theorem dX5_well_8 : decode cX5_well 8 = .ok (.aload_n 0, 1) := by decide +kernel
theorem dX5_well_9 : decode cX5_well 9 = .ok (.getfield 37, 3) := by decide +kernel
theorem dX5_well_12 : decode cX5_well 12 = .ok (.iconst (-1), 1) := by decide +kernel
theorem dX5_well_13 : decode cX5_well 13 = .ok (.ixor, 1) := by decide +kernel
theorem dX5_well_14 : decode cX5_well 14 = .ok (.iand, 1) := by decide +kernel
theorem dX5_well_15 : decode cX5_well 15 = .ok (.ireturn, 1) := by decide +kernel
theorem dX5_addErrand_0 : decode cX5_addErrand 0 = .ok (.aload_n 0, 1) := by decide +kernel
theorem dX5_addErrand_1 : decode cX5_addErrand 1 = .ok (.getfield 15, 3) := by decide +kernel
theorem dX5_addErrand_4 : decode cX5_addErrand 4 = .ok (.aload_n 0, 1) := by decide +kernel
theorem dX5_addErrand_5 : decode cX5_addErrand 5 = .ok (.getfield 34, 3) := by decide +kernel
theorem dX5_addErrand_8 : decode cX5_addErrand 8 = .ok (.iload_n 1, 1) := by decide +kernel
theorem dX5_addErrand_9 : decode cX5_addErrand 9 = .ok (.iastore, 1) := by decide +kernel
theorem dX5_addErrand_10 : decode cX5_addErrand 10 = .ok (.aload_n 0, 1) := by decide +kernel
theorem dX5_addErrand_11 : decode cX5_addErrand 11 = .ok (.getfield 18, 3) := by decide +kernel
theorem dX5_addErrand_14 : decode cX5_addErrand 14 = .ok (.aload_n 0, 1) := by decide +kernel
theorem dX5_addErrand_15 : decode cX5_addErrand 15 = .ok (.getfield 34, 3) := by decide +kernel
theorem dX5_addErrand_18 : decode cX5_addErrand 18 = .ok (.iload_n 2, 1) := by decide +kernel
theorem dX5_addErrand_19 : decode cX5_addErrand 19 = .ok (.iastore, 1) := by decide +kernel
theorem dX5_addErrand_20 : decode cX5_addErrand 20 = .ok (.aload_n 0, 1) := by decide +kernel
theorem dX5_addErrand_21 : decode cX5_addErrand 21 = .ok (.getfield 21, 3) := by decide +kernel
theorem dX5_addErrand_24 : decode cX5_addErrand 24 = .ok (.aload_n 0, 1) := by decide +kernel
theorem dX5_addErrand_25 : decode cX5_addErrand 25 = .ok (.getfield 34, 3) := by decide +kernel
theorem dX5_addErrand_28 : decode cX5_addErrand 28 = .ok (.iload_n 3, 1) := by decide +kernel
theorem dX5_addErrand_29 : decode cX5_addErrand 29 = .ok (.iastore, 1) := by decide +kernel
theorem dX5_addErrand_30 : decode cX5_addErrand 30 = .ok (.aload_n 0, 1) := by decide +kernel
theorem dX5_addErrand_31 : decode cX5_addErrand 31 = .ok (.getfield 24, 3) := by decide +kernel
theorem dX5_addErrand_34 : decode cX5_addErrand 34 = .ok (.aload_n 0, 1) := by decide +kernel
theorem dX5_addErrand_35 : decode cX5_addErrand 35 = .ok (.getfield 34, 3) := by decide +kernel
theorem dX5_addErrand_38 : decode cX5_addErrand 38 = .ok (.iload 4, 2) := by decide +kernel
theorem dX5_addErrand_40 : decode cX5_addErrand 40 = .ok (.iastore, 1) := by decide +kernel
theorem dX5_addErrand_41 : decode cX5_addErrand 41 = .ok (.aload_n 0, 1) := by decide +kernel
theorem dX5_addErrand_42 : decode cX5_addErrand 42 = .ok (.getfield 27, 3) := by decide +kernel
theorem dX5_addErrand_45 : decode cX5_addErrand 45 = .ok (.aload_n 0, 1) := by decide +kernel
theorem dX5_addErrand_46 : decode cX5_addErrand 46 = .ok (.getfield 34, 3) := by decide +kernel
theorem dX5_addErrand_49 : decode cX5_addErrand 49 = .ok (.iload 5, 2) := by decide +kernel
theorem dX5_addErrand_51 : decode cX5_addErrand 51 = .ok (.iastore, 1) := by decide +kernel
theorem dX5_addErrand_52 : decode cX5_addErrand 52 = .ok (.aload_n 0, 1) := by decide +kernel
theorem dX5_addErrand_53 : decode cX5_addErrand 53 = .ok (.dup, 1) := by decide +kernel
theorem dX5_addErrand_54 : decode cX5_addErrand 54 = .ok (.getfield 34, 3) := by decide +kernel
theorem dX5_addErrand_57 : decode cX5_addErrand 57 = .ok (.iconst 1, 1) := by decide +kernel
theorem dX5_addErrand_58 : decode cX5_addErrand 58 = .ok (.iadd, 1) := by decide +kernel
theorem dX5_addErrand_59 : decode cX5_addErrand 59 = .ok (.putfield 34, 3) := by decide +kernel
theorem dX5_addErrand_62 : decode cX5_addErrand 62 = .ok (.return_, 1) := by decide +kernel
theorem dX5_removeErrand_0 : decode cX5_removeErrand 0 = .ok (.aload_n 0, 1) := by decide +kernel
theorem dX5_removeErrand_1 : decode cX5_removeErrand 1 = .ok (.dup, 1) := by decide +kernel
theorem dX5_removeErrand_2 : decode cX5_removeErrand 2 = .ok (.getfield 34, 3) := by decide +kernel
theorem dX5_removeErrand_5 : decode cX5_removeErrand 5 = .ok (.iconst 1, 1) := by decide +kernel
theorem dX5_removeErrand_6 : decode cX5_removeErrand 6 = .ok (.isub, 1) := by decide +kernel
theorem dX5_removeErrand_7 : decode cX5_removeErrand 7 = .ok (.putfield 34, 3) := by decide +kernel
theorem dX5_removeErrand_10 : decode cX5_removeErrand 10 = .ok (.iload_n 1, 1) := by decide +kernel
theorem dX5_removeErrand_11 : decode cX5_removeErrand 11 = .ok (.istore_n 2, 1) := by decide +kernel
theorem dX5_removeErrand_12 : decode cX5_removeErrand 12 = .ok (.iload_n 2, 1) := by decide +kernel
theorem dX5_removeErrand_13 : decode cX5_removeErrand 13 = .ok (.aload_n 0, 1) := by decide +kernel
theorem dX5_removeErrand_14 : decode cX5_removeErrand 14 = .ok (.getfield 34, 3) := by decide +kernel
theorem dX5_removeErrand_17 : decode cX5_removeErrand 17 = .ok (.if_icmp .ge 79, 3) := by decide +kernel
theorem dX5_removeErrand_20 : decode cX5_removeErrand 20 = .ok (.aload_n 0, 1) := by decide +kernel
theorem dX5_removeErrand_21 : decode cX5_removeErrand 21 = .ok (.getfield 15, 3) := by decide +kernel
theorem dX5_removeErrand_24 : decode cX5_removeErrand 24 = .ok (.iload_n 2, 1) := by decide +kernel
theorem dX5_removeErrand_25 : decode cX5_removeErrand 25 = .ok (.aload_n 0, 1) := by decide +kernel
theorem dX5_removeErrand_26 : decode cX5_removeErrand 26 = .ok (.getfield 15, 3) := by decide +kernel
theorem dX5_removeErrand_29 : decode cX5_removeErrand 29 = .ok (.iload_n 2, 1) := by decide +kernel
theorem dX5_removeErrand_30 : decode cX5_removeErrand 30 = .ok (.iconst 1, 1) := by decide +kernel
theorem dX5_removeErrand_31 : decode cX5_removeErrand 31 = .ok (.iadd, 1) := by decide +kernel
theorem dX5_removeErrand_32 : decode cX5_removeErrand 32 = .ok (.iaload, 1) := by decide +kernel
theorem dX5_removeErrand_33 : decode cX5_removeErrand 33 = .ok (.iastore, 1) := by decide +kernel
theorem dX5_removeErrand_34 : decode cX5_removeErrand 34 = .ok (.aload_n 0, 1) := by decide +kernel
theorem dX5_removeErrand_35 : decode cX5_removeErrand 35 = .ok (.getfield 18, 3) := by decide +kernel
theorem dX5_removeErrand_38 : decode cX5_removeErrand 38 = .ok (.iload_n 2, 1) := by decide +kernel
theorem dX5_removeErrand_39 : decode cX5_removeErrand 39 = .ok (.aload_n 0, 1) := by decide +kernel
theorem dX5_removeErrand_40 : decode cX5_removeErrand 40 = .ok (.getfield 18, 3) := by decide +kernel
theorem dX5_removeErrand_43 : decode cX5_removeErrand 43 = .ok (.iload_n 2, 1) := by decide +kernel
theorem dX5_removeErrand_44 : decode cX5_removeErrand 44 = .ok (.iconst 1, 1) := by decide +kernel
theorem dX5_removeErrand_45 : decode cX5_removeErrand 45 = .ok (.iadd, 1) := by decide +kernel
theorem dX5_removeErrand_46 : decode cX5_removeErrand 46 = .ok (.iaload, 1) := by decide +kernel
theorem dX5_removeErrand_47 : decode cX5_removeErrand 47 = .ok (.iastore, 1) := by decide +kernel
theorem dX5_removeErrand_48 : decode cX5_removeErrand 48 = .ok (.aload_n 0, 1) := by decide +kernel
theorem dX5_removeErrand_49 : decode cX5_removeErrand 49 = .ok (.getfield 21, 3) := by decide +kernel
theorem dX5_removeErrand_52 : decode cX5_removeErrand 52 = .ok (.iload_n 2, 1) := by decide +kernel
theorem dX5_removeErrand_53 : decode cX5_removeErrand 53 = .ok (.aload_n 0, 1) := by decide +kernel
theorem dX5_removeErrand_54 : decode cX5_removeErrand 54 = .ok (.getfield 21, 3) := by decide +kernel
theorem dX5_removeErrand_57 : decode cX5_removeErrand 57 = .ok (.iload_n 2, 1) := by decide +kernel
theorem dX5_removeErrand_58 : decode cX5_removeErrand 58 = .ok (.iconst 1, 1) := by decide +kernel
theorem dX5_removeErrand_59 : decode cX5_removeErrand 59 = .ok (.iadd, 1) := by decide +kernel
theorem dX5_removeErrand_60 : decode cX5_removeErrand 60 = .ok (.iaload, 1) := by decide +kernel
theorem dX5_removeErrand_61 : decode cX5_removeErrand 61 = .ok (.iastore, 1) := by decide +kernel
theorem dX5_removeErrand_62 : decode cX5_removeErrand 62 = .ok (.aload_n 0, 1) := by decide +kernel
theorem dX5_removeErrand_63 : decode cX5_removeErrand 63 = .ok (.getfield 24, 3) := by decide +kernel
theorem dX5_removeErrand_66 : decode cX5_removeErrand 66 = .ok (.iload_n 2, 1) := by decide +kernel
theorem dX5_removeErrand_67 : decode cX5_removeErrand 67 = .ok (.aload_n 0, 1) := by decide +kernel
theorem dX5_removeErrand_68 : decode cX5_removeErrand 68 = .ok (.getfield 24, 3) := by decide +kernel
theorem dX5_removeErrand_71 : decode cX5_removeErrand 71 = .ok (.iload_n 2, 1) := by decide +kernel
theorem dX5_removeErrand_72 : decode cX5_removeErrand 72 = .ok (.iconst 1, 1) := by decide +kernel
theorem dX5_removeErrand_73 : decode cX5_removeErrand 73 = .ok (.iadd, 1) := by decide +kernel
theorem dX5_removeErrand_74 : decode cX5_removeErrand 74 = .ok (.iaload, 1) := by decide +kernel
theorem dX5_removeErrand_75 : decode cX5_removeErrand 75 = .ok (.iastore, 1) := by decide +kernel
theorem dX5_removeErrand_76 : decode cX5_removeErrand 76 = .ok (.aload_n 0, 1) := by decide +kernel
theorem dX5_removeErrand_77 : decode cX5_removeErrand 77 = .ok (.getfield 27, 3) := by decide +kernel
theorem dX5_removeErrand_80 : decode cX5_removeErrand 80 = .ok (.iload_n 2, 1) := by decide +kernel
theorem dX5_removeErrand_81 : decode cX5_removeErrand 81 = .ok (.aload_n 0, 1) := by decide +kernel
theorem dX5_removeErrand_82 : decode cX5_removeErrand 82 = .ok (.getfield 27, 3) := by decide +kernel
theorem dX5_removeErrand_85 : decode cX5_removeErrand 85 = .ok (.iload_n 2, 1) := by decide +kernel
theorem dX5_removeErrand_86 : decode cX5_removeErrand 86 = .ok (.iconst 1, 1) := by decide +kernel
theorem dX5_removeErrand_87 : decode cX5_removeErrand 87 = .ok (.iadd, 1) := by decide +kernel
theorem dX5_removeErrand_88 : decode cX5_removeErrand 88 = .ok (.iaload, 1) := by decide +kernel
theorem dX5_removeErrand_89 : decode cX5_removeErrand 89 = .ok (.iastore, 1) := by decide +kernel
theorem dX5_removeErrand_90 : decode cX5_removeErrand 90 = .ok (.iinc 2 1, 3) := by decide +kernel
theorem dX5_removeErrand_93 : decode cX5_removeErrand 93 = .ok (.goto (-81), 3) := by decide +kernel
theorem dX5_removeErrand_96 : decode cX5_removeErrand 96 = .ok (.return_, 1) := by decide +kernel
theorem dX5_weight_0 : decode cX5_weight 0 = .ok (.iload_n 2, 1) := by decide +kernel
theorem dX5_weight_1 : decode cX5_weight 1 = .ok (.bipush 24, 2) := by decide +kernel
theorem dX5_weight_3 : decode cX5_weight 3 = .ok (.if_icmp .ne 8, 3) := by decide +kernel
theorem dX5_weight_6 : decode cX5_weight 6 = .ok (.bipush 24, 2) := by decide +kernel
theorem dX5_weight_8 : decode cX5_weight 8 = .ok (.goto 15, 3) := by decide +kernel
theorem dX5_weight_11 : decode cX5_weight 11 = .ok (.iconst 0, 1) := by decide +kernel
theorem dX5_weight_12 : decode cX5_weight 12 = .ok (.iload_n 2, 1) := by decide +kernel
theorem dX5_weight_13 : decode cX5_weight 13 = .ok (.aload_n 0, 1) := by decide +kernel
theorem dX5_weight_14 : decode cX5_weight 14 = .ok (.getfield 27, 3) := by decide +kernel
theorem dX5_weight_17 : decode cX5_weight 17 = .ok (.iload_n 1, 1) := by decide +kernel
theorem dX5_weight_18 : decode cX5_weight 18 = .ok (.iaload, 1) := by decide +kernel
theorem dX5_weight_19 : decode cX5_weight 19 = .ok (.isub, 1) := by decide +kernel
theorem dX5_weight_20 : decode cX5_weight 20 = .ok (.invokestatic 40, 3) := by decide +kernel
theorem dX5_weight_23 : decode cX5_weight 23 = .ok (.istore_n 3, 1) := by decide +kernel
theorem dX5_weight_24 : decode cX5_weight 24 = .ok (.aload_n 0, 1) := by decide +kernel
theorem dX5_weight_25 : decode cX5_weight 25 = .ok (.getfield 21, 3) := by decide +kernel
theorem dX5_weight_28 : decode cX5_weight 28 = .ok (.iload_n 1, 1) := by decide +kernel
theorem dX5_weight_29 : decode cX5_weight 29 = .ok (.iaload, 1) := by decide +kernel
theorem dX5_weight_30 : decode cX5_weight 30 = .ok (.iload_n 3, 1) := by decide +kernel
theorem dX5_weight_31 : decode cX5_weight 31 = .ok (.imul, 1) := by decide +kernel
theorem dX5_weight_32 : decode cX5_weight 32 = .ok (.ireturn, 1) := by decide +kernel
theorem dX5_become_0 : decode cX5_become 0 = .ok (.aload_n 0, 1) := by decide +kernel
theorem dX5_become_1 : decode cX5_become 1 = .ok (.aload_n 1, 1) := by decide +kernel
theorem dX5_become_2 : decode cX5_become 2 = .ok (.getfield 30, 3) := by decide +kernel
theorem dX5_become_5 : decode cX5_become 5 = .ok (.putfield 30, 3) := by decide +kernel
theorem dX5_become_8 : decode cX5_become 8 = .ok (.aload_n 0, 1) := by decide +kernel
theorem dX5_become_9 : decode cX5_become 9 = .ok (.aload_n 1, 1) := by decide +kernel
theorem dX5_become_10 : decode cX5_become 10 = .ok (.getfield 37, 3) := by decide +kernel
theorem dX5_become_13 : decode cX5_become 13 = .ok (.putfield 37, 3) := by decide +kernel
theorem dX5_become_16 : decode cX5_become 16 = .ok (.aload_n 0, 1) := by decide +kernel
theorem dX5_become_17 : decode cX5_become 17 = .ok (.aload_n 1, 1) := by decide +kernel
theorem dX5_become_18 : decode cX5_become 18 = .ok (.getfield 46, 3) := by decide +kernel
theorem dX5_become_21 : decode cX5_become 21 = .ok (.putfield 46, 3) := by decide +kernel
theorem dX5_become_24 : decode cX5_become 24 = .ok (.aload_n 0, 1) := by decide +kernel
theorem dX5_become_25 : decode cX5_become 25 = .ok (.aload_n 1, 1) := by decide +kernel
theorem dX5_become_26 : decode cX5_become 26 = .ok (.getfield 34, 3) := by decide +kernel
theorem dX5_become_29 : decode cX5_become 29 = .ok (.putfield 34, 3) := by decide +kernel
theorem dX5_become_32 : decode cX5_become 32 = .ok (.aload_n 1, 1) := by decide +kernel
theorem dX5_become_33 : decode cX5_become 33 = .ok (.getfield 9, 3) := by decide +kernel
theorem dX5_become_36 : decode cX5_become 36 = .ok (.iconst 0, 1) := by decide +kernel
theorem dX5_become_37 : decode cX5_become 37 = .ok (.aload_n 0, 1) := by decide +kernel
theorem dX5_become_38 : decode cX5_become 38 = .ok (.getfield 9, 3) := by decide +kernel
theorem dX5_become_41 : decode cX5_become 41 = .ok (.iconst 0, 1) := by decide +kernel
theorem dX5_become_42 : decode cX5_become 42 = .ok (.iconst 3, 1) := by decide +kernel
theorem dX5_become_43 : decode cX5_become 43 = .ok (.invokestatic 49, 3) := by decide +kernel
theorem dX5_become_46 : decode cX5_become 46 = .ok (.aload_n 1, 1) := by decide +kernel
theorem dX5_become_47 : decode cX5_become 47 = .ok (.getfield 15, 3) := by decide +kernel
theorem dX5_become_50 : decode cX5_become 50 = .ok (.iconst 0, 1) := by decide +kernel
theorem dX5_become_51 : decode cX5_become 51 = .ok (.aload_n 0, 1) := by decide +kernel
theorem dX5_become_52 : decode cX5_become 52 = .ok (.getfield 15, 3) := by decide +kernel
theorem dX5_become_55 : decode cX5_become 55 = .ok (.iconst 0, 1) := by decide +kernel
theorem dX5_become_56 : decode cX5_become 56 = .ok (.iconst 5, 1) := by decide +kernel
theorem dX5_become_57 : decode cX5_become 57 = .ok (.invokestatic 49, 3) := by decide +kernel
theorem dX5_become_60 : decode cX5_become 60 = .ok (.aload_n 1, 1) := by decide +kernel
theorem dX5_become_61 : decode cX5_become 61 = .ok (.getfield 18, 3) := by decide +kernel
theorem dX5_become_64 : decode cX5_become 64 = .ok (.iconst 0, 1) := by decide +kernel
theorem dX5_become_65 : decode cX5_become 65 = .ok (.aload_n 0, 1) := by decide +kernel
theorem dX5_become_66 : decode cX5_become 66 = .ok (.getfield 18, 3) := by decide +kernel
theorem dX5_become_69 : decode cX5_become 69 = .ok (.iconst 0, 1) := by decide +kernel
theorem dX5_become_70 : decode cX5_become 70 = .ok (.iconst 5, 1) := by decide +kernel
theorem dX5_become_71 : decode cX5_become 71 = .ok (.invokestatic 49, 3) := by decide +kernel
theorem dX5_become_74 : decode cX5_become 74 = .ok (.aload_n 1, 1) := by decide +kernel
theorem dX5_become_75 : decode cX5_become 75 = .ok (.getfield 21, 3) := by decide +kernel
theorem dX5_become_78 : decode cX5_become 78 = .ok (.iconst 0, 1) := by decide +kernel
theorem dX5_become_79 : decode cX5_become 79 = .ok (.aload_n 0, 1) := by decide +kernel
theorem dX5_become_80 : decode cX5_become 80 = .ok (.getfield 21, 3) := by decide +kernel
theorem dX5_become_83 : decode cX5_become 83 = .ok (.iconst 0, 1) := by decide +kernel
theorem dX5_become_84 : decode cX5_become 84 = .ok (.iconst 5, 1) := by decide +kernel
theorem dX5_become_85 : decode cX5_become 85 = .ok (.invokestatic 49, 3) := by decide +kernel
theorem dX5_become_88 : decode cX5_become 88 = .ok (.aload_n 1, 1) := by decide +kernel
theorem dX5_become_89 : decode cX5_become 89 = .ok (.getfield 24, 3) := by decide +kernel
theorem dX5_become_92 : decode cX5_become 92 = .ok (.iconst 0, 1) := by decide +kernel
theorem dX5_become_93 : decode cX5_become 93 = .ok (.aload_n 0, 1) := by decide +kernel
theorem dX5_become_94 : decode cX5_become 94 = .ok (.getfield 24, 3) := by decide +kernel
theorem dX5_become_97 : decode cX5_become 97 = .ok (.iconst 0, 1) := by decide +kernel
theorem dX5_become_98 : decode cX5_become 98 = .ok (.iconst 5, 1) := by decide +kernel
theorem dX5_become_99 : decode cX5_become 99 = .ok (.invokestatic 49, 3) := by decide +kernel
theorem dX5_become_102 : decode cX5_become 102 = .ok (.aload_n 1, 1) := by decide +kernel
theorem dX5_become_103 : decode cX5_become 103 = .ok (.getfield 27, 3) := by decide +kernel
theorem dX5_become_106 : decode cX5_become 106 = .ok (.iconst 0, 1) := by decide +kernel
theorem dX5_become_107 : decode cX5_become 107 = .ok (.aload_n 0, 1) := by decide +kernel
theorem dX5_become_108 : decode cX5_become 108 = .ok (.getfield 27, 3) := by decide +kernel
theorem dX5_become_111 : decode cX5_become 111 = .ok (.iconst 0, 1) := by decide +kernel
theorem dX5_become_112 : decode cX5_become 112 = .ok (.iconst 5, 1) := by decide +kernel
theorem dX5_become_113 : decode cX5_become 113 = .ok (.invokestatic 49, 3) := by decide +kernel
theorem dX5_become_116 : decode cX5_become 116 = .ok (.return_, 1) := by decide +kernel
theorem dX6_init_0 : decode cX6_init 0 = .ok (.aload_n 0, 1) := by decide +kernel
theorem dX6_init_1 : decode cX6_init 1 = .ok (.invokespecial 3, 3) := by decide +kernel
theorem dX6_init_4 : decode cX6_init 4 = .ok (.aload_n 0, 1) := by decide +kernel
theorem dX6_init_5 : decode cX6_init 5 = .ok (.iconst 5, 1) := by decide +kernel
theorem dX6_init_6 : decode cX6_init 6 = .ok (.newarray .int, 2) := by decide +kernel
theorem dX6_init_8 : decode cX6_init 8 = .ok (.putfield 9, 3) := by decide +kernel
theorem dX6_init_11 : decode cX6_init 11 = .ok (.aload_n 0, 1) := by decide +kernel
theorem dX6_init_12 : decode cX6_init 12 = .ok (.bipush 12, 2) := by decide +kernel
theorem dX6_init_14 : decode cX6_init 14 = .ok (.newarray .int, 2) := by decide +kernel
theorem dX6_init_16 : decode cX6_init 16 = .ok (.putfield 15, 3) := by decide +kernel
theorem dX6_init_19 : decode cX6_init 19 = .ok (.aload_n 0, 1) := by decide +kernel
theorem dX6_init_20 : decode cX6_init 20 = .ok (.bipush 12, 2) := by decide +kernel
theorem dX6_init_22 : decode cX6_init 22 = .ok (.newarray .int, 2) := by decide +kernel
theorem dX6_init_24 : decode cX6_init 24 = .ok (.putfield 18, 3) := by decide +kernel
theorem dX6_init_27 : decode cX6_init 27 = .ok (.aload_n 0, 1) := by decide +kernel
theorem dX6_init_28 : decode cX6_init 28 = .ok (.bipush 12, 2) := by decide +kernel
theorem dX6_init_30 : decode cX6_init 30 = .ok (.newarray .int, 2) := by decide +kernel
theorem dX6_init_32 : decode cX6_init 32 = .ok (.putfield 21, 3) := by decide +kernel
theorem dX6_init_35 : decode cX6_init 35 = .ok (.aload_n 0, 1) := by decide +kernel
theorem dX6_init_36 : decode cX6_init 36 = .ok (.bipush 12, 2) := by decide +kernel
theorem dX6_init_38 : decode cX6_init 38 = .ok (.newarray .int, 2) := by decide +kernel
theorem dX6_init_40 : decode cX6_init 40 = .ok (.putfield 24, 3) := by decide +kernel
theorem dX6_init_43 : decode cX6_init 43 = .ok (.return_, 1) := by decide +kernel
theorem dX6_hasOne_0 : decode cX6_hasOne 0 = .ok (.iload_n 1, 1) := by decide +kernel
theorem dX6_hasOne_1 : decode cX6_hasOne 1 = .ok (.ifCond .lt 15, 3) := by decide +kernel
theorem dX6_hasOne_4 : decode cX6_hasOne 4 = .ok (.iload_n 1, 1) := by decide +kernel
theorem dX6_hasOne_5 : decode cX6_hasOne 5 = .ok (.aload_n 0, 1) := by decide +kernel
theorem dX6_hasOne_6 : decode cX6_hasOne 6 = .ok (.getfield 27, 3) := by decide +kernel
theorem dX6_hasOne_9 : decode cX6_hasOne 9 = .ok (.if_icmp .ge 7, 3) := by decide +kernel
theorem dX6_hasOne_12 : decode cX6_hasOne 12 = .ok (.iconst 1, 1) := by decide +kernel
theorem dX6_hasOne_13 : decode cX6_hasOne 13 = .ok (.goto 4, 3) := by decide +kernel
theorem dX6_hasOne_16 : decode cX6_hasOne 16 = .ok (.iconst 0, 1) := by decide +kernel
theorem dX6_hasOne_17 : decode cX6_hasOne 17 = .ok (.ireturn, 1) := by decide +kernel
theorem dX6_addSaying_0 : decode cX6_addSaying 0 = .ok (.aload_n 0, 1) := by decide +kernel
theorem dX6_addSaying_1 : decode cX6_addSaying 1 = .ok (.getfield 15, 3) := by decide +kernel
theorem dX6_addSaying_4 : decode cX6_addSaying 4 = .ok (.aload_n 0, 1) := by decide +kernel
theorem dX6_addSaying_5 : decode cX6_addSaying 5 = .ok (.getfield 31, 3) := by decide +kernel
theorem dX6_addSaying_8 : decode cX6_addSaying 8 = .ok (.iload_n 1, 1) := by decide +kernel
theorem dX6_addSaying_9 : decode cX6_addSaying 9 = .ok (.iastore, 1) := by decide +kernel
theorem dX6_addSaying_10 : decode cX6_addSaying 10 = .ok (.aload_n 0, 1) := by decide +kernel
theorem dX6_addSaying_11 : decode cX6_addSaying 11 = .ok (.getfield 18, 3) := by decide +kernel
theorem dX6_addSaying_14 : decode cX6_addSaying 14 = .ok (.aload_n 0, 1) := by decide +kernel
theorem dX6_addSaying_15 : decode cX6_addSaying 15 = .ok (.getfield 31, 3) := by decide +kernel
theorem dX6_addSaying_18 : decode cX6_addSaying 18 = .ok (.iload_n 2, 1) := by decide +kernel
theorem dX6_addSaying_19 : decode cX6_addSaying 19 = .ok (.iastore, 1) := by decide +kernel
theorem dX6_addSaying_20 : decode cX6_addSaying 20 = .ok (.aload_n 0, 1) := by decide +kernel
theorem dX6_addSaying_21 : decode cX6_addSaying 21 = .ok (.getfield 21, 3) := by decide +kernel
theorem dX6_addSaying_24 : decode cX6_addSaying 24 = .ok (.aload_n 0, 1) := by decide +kernel
theorem dX6_addSaying_25 : decode cX6_addSaying 25 = .ok (.getfield 31, 3) := by decide +kernel
theorem dX6_addSaying_28 : decode cX6_addSaying 28 = .ok (.iload_n 3, 1) := by decide +kernel
theorem dX6_addSaying_29 : decode cX6_addSaying 29 = .ok (.iastore, 1) := by decide +kernel
theorem dX6_addSaying_30 : decode cX6_addSaying 30 = .ok (.aload_n 0, 1) := by decide +kernel
theorem dX6_addSaying_31 : decode cX6_addSaying 31 = .ok (.getfield 24, 3) := by decide +kernel
theorem dX6_addSaying_34 : decode cX6_addSaying 34 = .ok (.aload_n 0, 1) := by decide +kernel
theorem dX6_addSaying_35 : decode cX6_addSaying 35 = .ok (.getfield 31, 3) := by decide +kernel
theorem dX6_addSaying_38 : decode cX6_addSaying 38 = .ok (.iload 4, 2) := by decide +kernel
theorem dX6_addSaying_40 : decode cX6_addSaying 40 = .ok (.iastore, 1) := by decide +kernel
theorem dX6_addSaying_41 : decode cX6_addSaying 41 = .ok (.aload_n 0, 1) := by decide +kernel
theorem dX6_addSaying_42 : decode cX6_addSaying 42 = .ok (.dup, 1) := by decide +kernel
theorem dX6_addSaying_43 : decode cX6_addSaying 43 = .ok (.getfield 31, 3) := by decide +kernel
theorem dX6_addSaying_46 : decode cX6_addSaying 46 = .ok (.iconst 1, 1) := by decide +kernel
theorem dX6_addSaying_47 : decode cX6_addSaying 47 = .ok (.iadd, 1) := by decide +kernel
theorem dX6_addSaying_48 : decode cX6_addSaying 48 = .ok (.putfield 31, 3) := by decide +kernel
theorem dX6_addSaying_51 : decode cX6_addSaying 51 = .ok (.return_, 1) := by decide +kernel
theorem dX6_become_0 : decode cX6_become 0 = .ok (.aload_n 0, 1) := by decide +kernel
theorem dX6_become_1 : decode cX6_become 1 = .ok (.aload_n 1, 1) := by decide +kernel
theorem dX6_become_2 : decode cX6_become 2 = .ok (.getfield 27, 3) := by decide +kernel
theorem dX6_become_5 : decode cX6_become 5 = .ok (.putfield 27, 3) := by decide +kernel
theorem dX6_become_8 : decode cX6_become 8 = .ok (.aload_n 0, 1) := by decide +kernel
theorem dX6_become_9 : decode cX6_become 9 = .ok (.aload_n 1, 1) := by decide +kernel
theorem dX6_become_10 : decode cX6_become 10 = .ok (.getfield 31, 3) := by decide +kernel
theorem dX6_become_13 : decode cX6_become 13 = .ok (.putfield 31, 3) := by decide +kernel
theorem dX6_become_16 : decode cX6_become 16 = .ok (.aload_n 0, 1) := by decide +kernel
theorem dX6_become_17 : decode cX6_become 17 = .ok (.aload_n 1, 1) := by decide +kernel
theorem dX6_become_18 : decode cX6_become 18 = .ok (.getfield 34, 3) := by decide +kernel
theorem dX6_become_21 : decode cX6_become 21 = .ok (.putfield 34, 3) := by decide +kernel
theorem dX6_become_24 : decode cX6_become 24 = .ok (.aload_n 0, 1) := by decide +kernel
theorem dX6_become_25 : decode cX6_become 25 = .ok (.aload_n 1, 1) := by decide +kernel
theorem dX6_become_26 : decode cX6_become 26 = .ok (.getfield 38, 3) := by decide +kernel
theorem dX6_become_29 : decode cX6_become 29 = .ok (.putfield 38, 3) := by decide +kernel
theorem dX6_become_32 : decode cX6_become 32 = .ok (.aload_n 0, 1) := by decide +kernel
theorem dX6_become_33 : decode cX6_become 33 = .ok (.aload_n 1, 1) := by decide +kernel
theorem dX6_become_34 : decode cX6_become 34 = .ok (.getfield 41, 3) := by decide +kernel
theorem dX6_become_37 : decode cX6_become 37 = .ok (.putfield 41, 3) := by decide +kernel
theorem dX6_become_40 : decode cX6_become 40 = .ok (.aload_n 0, 1) := by decide +kernel
theorem dX6_become_41 : decode cX6_become 41 = .ok (.aload_n 1, 1) := by decide +kernel
theorem dX6_become_42 : decode cX6_become 42 = .ok (.getfield 44, 3) := by decide +kernel
theorem dX6_become_45 : decode cX6_become 45 = .ok (.putfield 44, 3) := by decide +kernel
theorem dX6_become_48 : decode cX6_become 48 = .ok (.aload_n 1, 1) := by decide +kernel
theorem dX6_become_49 : decode cX6_become 49 = .ok (.getfield 9, 3) := by decide +kernel
theorem dX6_become_52 : decode cX6_become 52 = .ok (.iconst 0, 1) := by decide +kernel
theorem dX6_become_53 : decode cX6_become 53 = .ok (.aload_n 0, 1) := by decide +kernel
theorem dX6_become_54 : decode cX6_become 54 = .ok (.getfield 9, 3) := by decide +kernel
theorem dX6_become_57 : decode cX6_become 57 = .ok (.iconst 0, 1) := by decide +kernel
theorem dX6_become_58 : decode cX6_become 58 = .ok (.iconst 5, 1) := by decide +kernel
theorem dX6_become_59 : decode cX6_become 59 = .ok (.invokestatic 47, 3) := by decide +kernel
theorem dX6_become_62 : decode cX6_become 62 = .ok (.aload_n 1, 1) := by decide +kernel
theorem dX6_become_63 : decode cX6_become 63 = .ok (.getfield 15, 3) := by decide +kernel
theorem dX6_become_66 : decode cX6_become 66 = .ok (.iconst 0, 1) := by decide +kernel
theorem dX6_become_67 : decode cX6_become 67 = .ok (.aload_n 0, 1) := by decide +kernel
theorem dX6_become_68 : decode cX6_become 68 = .ok (.getfield 15, 3) := by decide +kernel
theorem dX6_become_71 : decode cX6_become 71 = .ok (.iconst 0, 1) := by decide +kernel
theorem dX6_become_72 : decode cX6_become 72 = .ok (.bipush 12, 2) := by decide +kernel
theorem dX6_become_74 : decode cX6_become 74 = .ok (.invokestatic 47, 3) := by decide +kernel
theorem dX6_become_77 : decode cX6_become 77 = .ok (.aload_n 1, 1) := by decide +kernel
theorem dX6_become_78 : decode cX6_become 78 = .ok (.getfield 18, 3) := by decide +kernel
theorem dX6_become_81 : decode cX6_become 81 = .ok (.iconst 0, 1) := by decide +kernel
theorem dX6_become_82 : decode cX6_become 82 = .ok (.aload_n 0, 1) := by decide +kernel
theorem dX6_become_83 : decode cX6_become 83 = .ok (.getfield 18, 3) := by decide +kernel
theorem dX6_become_86 : decode cX6_become 86 = .ok (.iconst 0, 1) := by decide +kernel
theorem dX6_become_87 : decode cX6_become 87 = .ok (.bipush 12, 2) := by decide +kernel
theorem dX6_become_89 : decode cX6_become 89 = .ok (.invokestatic 47, 3) := by decide +kernel
theorem dX6_become_92 : decode cX6_become 92 = .ok (.aload_n 1, 1) := by decide +kernel
theorem dX6_become_93 : decode cX6_become 93 = .ok (.getfield 21, 3) := by decide +kernel
theorem dX6_become_96 : decode cX6_become 96 = .ok (.iconst 0, 1) := by decide +kernel
theorem dX6_become_97 : decode cX6_become 97 = .ok (.aload_n 0, 1) := by decide +kernel
theorem dX6_become_98 : decode cX6_become 98 = .ok (.getfield 21, 3) := by decide +kernel
theorem dX6_become_101 : decode cX6_become 101 = .ok (.iconst 0, 1) := by decide +kernel
theorem dX6_become_102 : decode cX6_become 102 = .ok (.bipush 12, 2) := by decide +kernel
theorem dX6_become_104 : decode cX6_become 104 = .ok (.invokestatic 47, 3) := by decide +kernel
theorem dX6_become_107 : decode cX6_become 107 = .ok (.aload_n 1, 1) := by decide +kernel
theorem dX6_become_108 : decode cX6_become 108 = .ok (.getfield 24, 3) := by decide +kernel
theorem dX6_become_111 : decode cX6_become 111 = .ok (.iconst 0, 1) := by decide +kernel
theorem dX6_become_112 : decode cX6_become 112 = .ok (.aload_n 0, 1) := by decide +kernel
theorem dX6_become_113 : decode cX6_become 113 = .ok (.getfield 24, 3) := by decide +kernel
theorem dX6_become_116 : decode cX6_become 116 = .ok (.iconst 0, 1) := by decide +kernel
theorem dX6_become_117 : decode cX6_become 117 = .ok (.bipush 12, 2) := by decide +kernel
theorem dX6_become_119 : decode cX6_become 119 = .ok (.invokestatic 47, 3) := by decide +kernel
theorem dX6_become_122 : decode cX6_become 122 = .ok (.return_, 1) := by decide +kernel
theorem dX7_init_0 : decode cX7_init 0 = .ok (.aload_n 0, 1) := by decide +kernel
theorem dX7_init_1 : decode cX7_init 1 = .ok (.invokespecial 3, 3) := by decide +kernel
theorem dX7_init_4 : decode cX7_init 4 = .ok (.aload_n 0, 1) := by decide +kernel
theorem dX7_init_5 : decode cX7_init 5 = .ok (.bipush 80, 2) := by decide +kernel
theorem dX7_init_7 : decode cX7_init 7 = .ok (.newarray .int, 2) := by decide +kernel
theorem dX7_init_9 : decode cX7_init 9 = .ok (.putfield 11, 3) := by decide +kernel
theorem dX7_init_12 : decode cX7_init 12 = .ok (.return_, 1) := by decide +kernel
theorem dX7_add_0 : decode cX7_add 0 = .ok (.iload_n 3, 1) := by decide +kernel
theorem dX7_add_1 : decode cX7_add 1 = .ok (.iconst 1, 1) := by decide +kernel
theorem dX7_add_2 : decode cX7_add 2 = .ok (.if_icmp .lt 9, 3) := by decide +kernel
theorem dX7_add_5 : decode cX7_add 5 = .ok (.iload_n 3, 1) := by decide +kernel
theorem dX7_add_6 : decode cX7_add 6 = .ok (.bipush 8, 2) := by decide +kernel
theorem dX7_add_8 : decode cX7_add 8 = .ok (.if_icmp .le 5, 3) := by decide +kernel
theorem dX7_add_11 : decode cX7_add 11 = .ok (.iconst (-1), 1) := by decide +kernel
theorem dX7_add_12 : decode cX7_add 12 = .ok (.ireturn, 1) := by decide +kernel
theorem dX7_add_13 : decode cX7_add 13 = .ok (.iconst 0, 1) := by decide +kernel
theorem dX7_add_14 : decode cX7_add 14 = .ok (.istore 4, 2) := by decide +kernel
theorem dX7_add_16 : decode cX7_add 16 = .ok (.iload 4, 2) := by decide +kernel
theorem dX7_add_18 : decode cX7_add 18 = .ok (.iload_n 3, 1) := by decide +kernel
theorem dX7_add_19 : decode cX7_add 19 = .ok (.if_icmp .ge 33, 3) := by decide +kernel
theorem dX7_add_22 : decode cX7_add 22 = .ok (.lload_n 1, 1) := by decide +kernel
theorem dX7_add_23 : decode cX7_add 23 = .ok (.iload 4, 2) := by decide +kernel
theorem dX7_add_25 : decode cX7_add 25 = .ok (.invokestatic 15, 3) := by decide +kernel
theorem dX7_add_28 : decode cX7_add 28 = .ok (.istore 5, 2) := by decide +kernel
theorem dX7_add_30 : decode cX7_add 30 = .ok (.iload 5, 2) := by decide +kernel
theorem dX7_add_32 : decode cX7_add 32 = .ok (.bipush 32, 2) := by decide +kernel
theorem dX7_add_34 : decode cX7_add 34 = .ok (.if_icmp .lt 10, 3) := by decide +kernel
theorem dX7_add_37 : decode cX7_add 37 = .ok (.iload 5, 2) := by decide +kernel
theorem dX7_add_39 : decode cX7_add 39 = .ok (.bipush 126, 2) := by decide +kernel
theorem dX7_add_41 : decode cX7_add 41 = .ok (.if_icmp .le 5, 3) := by decide +kernel
theorem dX7_add_44 : decode cX7_add 44 = .ok (.iconst (-1), 1) := by decide +kernel
theorem dX7_add_45 : decode cX7_add 45 = .ok (.ireturn, 1) := by decide +kernel
theorem dX7_add_46 : decode cX7_add 46 = .ok (.iinc 4 1, 3) := by decide +kernel
theorem dX7_add_49 : decode cX7_add 49 = .ok (.goto (-33), 3) := by decide +kernel
theorem dX7_add_52 : decode cX7_add 52 = .ok (.aload_n 0, 1) := by decide +kernel
theorem dX7_add_53 : decode cX7_add 53 = .ok (.getfield 19, 3) := by decide +kernel
theorem dX7_add_56 : decode cX7_add 56 = .ok (.iload_n 3, 1) := by decide +kernel
theorem dX7_add_57 : decode cX7_add 57 = .ok (.iadd, 1) := by decide +kernel
theorem dX7_add_58 : decode cX7_add 58 = .ok (.bipush 80, 2) := by decide +kernel
theorem dX7_add_60 : decode cX7_add 60 = .ok (.if_icmp .le 6, 3) := by decide +kernel
theorem dX7_add_63 : decode cX7_add 63 = .ok (.bipush (-3), 2) := by decide +kernel
theorem dX7_add_65 : decode cX7_add 65 = .ok (.ireturn, 1) := by decide +kernel
theorem dX7_add_66 : decode cX7_add 66 = .ok (.iload_n 3, 1) := by decide +kernel
theorem dX7_add_67 : decode cX7_add 67 = .ok (.iconst 1, 1) := by decide +kernel
theorem dX7_add_68 : decode cX7_add 68 = .ok (.isub, 1) := by decide +kernel
theorem dX7_add_69 : decode cX7_add 69 = .ok (.istore 4, 2) := by decide +kernel
theorem dX7_add_71 : decode cX7_add 71 = .ok (.iload 4, 2) := by decide +kernel
theorem dX7_add_73 : decode cX7_add 73 = .ok (.ifCond .lt 34, 3) := by decide +kernel
theorem dX7_add_76 : decode cX7_add 76 = .ok (.aload_n 0, 1) := by decide +kernel
theorem dX7_add_77 : decode cX7_add 77 = .ok (.getfield 11, 3) := by decide +kernel
theorem dX7_add_80 : decode cX7_add 80 = .ok (.aload_n 0, 1) := by decide +kernel
theorem dX7_add_81 : decode cX7_add 81 = .ok (.getfield 19, 3) := by decide +kernel
theorem dX7_add_84 : decode cX7_add 84 = .ok (.lload_n 1, 1) := by decide +kernel
theorem dX7_add_85 : decode cX7_add 85 = .ok (.iload 4, 2) := by decide +kernel
theorem dX7_add_87 : decode cX7_add 87 = .ok (.invokestatic 15, 3) := by decide +kernel
theorem dX7_add_90 : decode cX7_add 90 = .ok (.iastore, 1) := by decide +kernel
theorem dX7_add_91 : decode cX7_add 91 = .ok (.aload_n 0, 1) := by decide +kernel
theorem dX7_add_92 : decode cX7_add 92 = .ok (.dup, 1) := by decide +kernel
theorem dX7_add_93 : decode cX7_add 93 = .ok (.getfield 19, 3) := by decide +kernel
theorem dX7_add_96 : decode cX7_add 96 = .ok (.iconst 1, 1) := by decide +kernel
theorem dX7_add_97 : decode cX7_add 97 = .ok (.iadd, 1) := by decide +kernel
theorem dX7_add_98 : decode cX7_add 98 = .ok (.putfield 19, 3) := by decide +kernel
theorem dX7_add_101 : decode cX7_add 101 = .ok (.iinc 4 (-1), 3) := by decide +kernel
theorem dX7_add_104 : decode cX7_add 104 = .ok (.goto (-33), 3) := by decide +kernel
theorem dX7_add_107 : decode cX7_add 107 = .ok (.aload_n 0, 1) := by decide +kernel
theorem dX7_add_108 : decode cX7_add 108 = .ok (.getfield 19, 3) := by decide +kernel
theorem dX7_add_111 : decode cX7_add 111 = .ok (.ireturn, 1) := by decide +kernel
theorem dX7_byteOf_0 : decode cX7_byteOf 0 = .ok (.lload_n 0, 1) := by decide +kernel
theorem dX7_byteOf_1 : decode cX7_byteOf 1 = .ok (.bipush 8, 2) := by decide +kernel
theorem dX7_byteOf_3 : decode cX7_byteOf 3 = .ok (.iload_n 2, 1) := by decide +kernel
theorem dX7_byteOf_4 : decode cX7_byteOf 4 = .ok (.imul, 1) := by decide +kernel
theorem dX7_byteOf_5 : decode cX7_byteOf 5 = .ok (.lshr, 1) := by decide +kernel
theorem dX7_byteOf_6 : decode cX7_byteOf 6 = .ok (.l2i, 1) := by decide +kernel
theorem dX7_byteOf_7 : decode cX7_byteOf 7 = .ok (.sipush 255, 3) := by decide +kernel
theorem dX7_byteOf_10 : decode cX7_byteOf 10 = .ok (.iand, 1) := by decide +kernel
theorem dX7_byteOf_11 : decode cX7_byteOf 11 = .ok (.ireturn, 1) := by decide +kernel
theorem dX7_clear_0 : decode cX7_clear 0 = .ok (.aload_n 0, 1) := by decide +kernel
theorem dX7_clear_1 : decode cX7_clear 1 = .ok (.iconst 0, 1) := by decide +kernel
theorem dX7_clear_2 : decode cX7_clear 2 = .ok (.putfield 19, 3) := by decide +kernel
theorem dX7_clear_5 : decode cX7_clear 5 = .ok (.return_, 1) := by decide +kernel
theorem dX7_readWalk_0 : decode cX7_readWalk 0 = .ok (.aload_n 0, 1) := by decide +kernel
theorem dX7_readWalk_1 : decode cX7_readWalk 1 = .ok (.iconst 0, 1) := by decide +kernel
theorem dX7_readWalk_2 : decode cX7_readWalk 2 = .ok (.putfield 23, 3) := by decide +kernel
theorem dX7_readWalk_5 : decode cX7_readWalk 5 = .ok (.iconst (-1), 1) := by decide +kernel
theorem dX7_readWalk_6 : decode cX7_readWalk 6 = .ok (.istore_n 3, 1) := by decide +kernel
theorem dX7_readWalk_7 : decode cX7_readWalk 7 = .ok (.iconst 0, 1) := by decide +kernel
theorem dX7_readWalk_8 : decode cX7_readWalk 8 = .ok (.istore 4, 2) := by decide +kernel
theorem dX7_readWalk_10 : decode cX7_readWalk 10 = .ok (.iconst 0, 1) := by decide +kernel
theorem dX7_readWalk_11 : decode cX7_readWalk 11 = .ok (.istore 5, 2) := by decide +kernel
theorem dX7_readWalk_13 : decode cX7_readWalk 13 = .ok (.iload 5, 2) := by decide +kernel
theorem dX7_readWalk_15 : decode cX7_readWalk 15 = .ok (.bipush 8, 2) := by decide +kernel
theorem dX7_readWalk_17 : decode cX7_readWalk 17 = .ok (.if_icmp .ge 94, 3) := by decide +kernel
theorem dX7_readWalk_20 : decode cX7_readWalk 20 = .ok (.aload_n 0, 1) := by decide +kernel
theorem dX7_readWalk_21 : decode cX7_readWalk 21 = .ok (.aload_n 1, 1) := by decide +kernel
theorem dX7_readWalk_22 : decode cX7_readWalk 22 = .ok (.getfield 26, 3) := by decide +kernel
theorem dX7_readWalk_25 : decode cX7_readWalk 25 = .ok (.invokevirtual 31, 3) := by decide +kernel
theorem dX7_readWalk_28 : decode cX7_readWalk 28 = .ok (.istore 6, 2) := by decide +kernel
theorem dX7_readWalk_30 : decode cX7_readWalk 30 = .ok (.iload 6, 2) := by decide +kernel
theorem dX7_readWalk_32 : decode cX7_readWalk 32 = .ok (.ifCond .lt 17, 3) := by decide +kernel
theorem dX7_readWalk_35 : decode cX7_readWalk 35 = .ok (.iload_n 3, 1) := by decide +kernel
theorem dX7_readWalk_36 : decode cX7_readWalk 36 = .ok (.ifCond .lt 18, 3) := by decide +kernel
theorem dX7_readWalk_39 : decode cX7_readWalk 39 = .ok (.aload_n 1, 1) := by decide +kernel
theorem dX7_readWalk_40 : decode cX7_readWalk 40 = .ok (.iload_n 3, 1) := by decide +kernel
theorem dX7_readWalk_41 : decode cX7_readWalk 41 = .ok (.iload 6, 2) := by decide +kernel
theorem dX7_readWalk_43 : decode cX7_readWalk 43 = .ok (.invokevirtual 35, 3) := by decide +kernel
theorem dX7_readWalk_46 : decode cX7_readWalk 46 = .ok (.ifCond .eq 8, 3) := by decide +kernel
theorem dX7_readWalk_49 : decode cX7_readWalk 49 = .ok (.aload_n 0, 1) := by decide +kernel
theorem dX7_readWalk_50 : decode cX7_readWalk 50 = .ok (.invokevirtual 39, 3) := by decide +kernel
theorem dX7_readWalk_53 : decode cX7_readWalk 53 = .ok (.ireturn, 1) := by decide +kernel
theorem dX7_readWalk_54 : decode cX7_readWalk 54 = .ok (.aload_n 0, 1) := by decide +kernel
theorem dX7_readWalk_55 : decode cX7_readWalk 55 = .ok (.iconst 1, 1) := by decide +kernel
theorem dX7_readWalk_56 : decode cX7_readWalk 56 = .ok (.bipush 24, 2) := by decide +kernel
theorem dX7_readWalk_58 : decode cX7_readWalk 58 = .ok (.iload 4, 2) := by decide +kernel
theorem dX7_readWalk_60 : decode cX7_readWalk 60 = .ok (.isub, 1) := by decide +kernel
theorem dX7_readWalk_61 : decode cX7_readWalk 61 = .ok (.invokevirtual 43, 3) := by decide +kernel
theorem dX7_readWalk_64 : decode cX7_readWalk 64 = .ok (.istore 7, 2) := by decide +kernel
theorem dX7_readWalk_66 : decode cX7_readWalk 66 = .ok (.iload 7, 2) := by decide +kernel
theorem dX7_readWalk_68 : decode cX7_readWalk 68 = .ok (.ifCond .ge 8, 3) := by decide +kernel
theorem dX7_readWalk_71 : decode cX7_readWalk 71 = .ok (.aload_n 0, 1) := by decide +kernel
theorem dX7_readWalk_72 : decode cX7_readWalk 72 = .ok (.invokevirtual 39, 3) := by decide +kernel
theorem dX7_readWalk_75 : decode cX7_readWalk 75 = .ok (.ireturn, 1) := by decide +kernel
theorem dX7_readWalk_76 : decode cX7_readWalk 76 = .ok (.aload_n 2, 1) := by decide +kernel
theorem dX7_readWalk_77 : decode cX7_readWalk 77 = .ok (.iload 4, 2) := by decide +kernel
theorem dX7_readWalk_79 : decode cX7_readWalk 79 = .ok (.bipush 24, 2) := by decide +kernel
theorem dX7_readWalk_81 : decode cX7_readWalk 81 = .ok (.iload 6, 2) := by decide +kernel
theorem dX7_readWalk_83 : decode cX7_readWalk 83 = .ok (.invokestatic 46, 3) := by decide +kernel
theorem dX7_readWalk_86 : decode cX7_readWalk 86 = .ok (.iload 4, 2) := by decide +kernel
theorem dX7_readWalk_88 : decode cX7_readWalk 88 = .ok (.iload 7, 2) := by decide +kernel
theorem dX7_readWalk_90 : decode cX7_readWalk 90 = .ok (.iadd, 1) := by decide +kernel
theorem dX7_readWalk_91 : decode cX7_readWalk 91 = .ok (.istore 4, 2) := by decide +kernel
theorem dX7_readWalk_93 : decode cX7_readWalk 93 = .ok (.iload 6, 2) := by decide +kernel
theorem dX7_readWalk_95 : decode cX7_readWalk 95 = .ok (.istore_n 3, 1) := by decide +kernel
theorem dX7_readWalk_96 : decode cX7_readWalk 96 = .ok (.aload_n 0, 1) := by decide +kernel
theorem dX7_readWalk_97 : decode cX7_readWalk 97 = .ok (.invokevirtual 52, 3) := by decide +kernel
theorem dX7_readWalk_100 : decode cX7_readWalk 100 = .ok (.ifCond .ge 5, 3) := by decide +kernel
theorem dX7_readWalk_103 : decode cX7_readWalk 103 = .ok (.iconst 0, 1) := by decide +kernel
theorem dX7_readWalk_104 : decode cX7_readWalk 104 = .ok (.ireturn, 1) := by decide +kernel
theorem dX7_readWalk_105 : decode cX7_readWalk 105 = .ok (.iinc 5 1, 3) := by decide +kernel
theorem dX7_readWalk_108 : decode cX7_readWalk 108 = .ok (.goto (-95), 3) := by decide +kernel
theorem dX7_readWalk_111 : decode cX7_readWalk 111 = .ok (.aload_n 0, 1) := by decide +kernel
theorem dX7_readWalk_112 : decode cX7_readWalk 112 = .ok (.invokevirtual 39, 3) := by decide +kernel
theorem dX7_readWalk_115 : decode cX7_readWalk 115 = .ok (.ireturn, 1) := by decide +kernel
theorem dX7_fault_0 : decode cX7_fault 0 = .ok (.bipush (-20), 2) := by decide +kernel
theorem dX7_fault_2 : decode cX7_fault 2 = .ok (.aload_n 0, 1) := by decide +kernel
theorem dX7_fault_3 : decode cX7_fault 3 = .ok (.getfield 55, 3) := by decide +kernel
theorem dX7_fault_6 : decode cX7_fault 6 = .ok (.isub, 1) := by decide +kernel
theorem dX7_fault_7 : decode cX7_fault 7 = .ok (.ireturn, 1) := by decide +kernel
theorem dX7_peek_0 : decode cX7_peek 0 = .ok (.aload_n 0, 1) := by decide +kernel
theorem dX7_peek_1 : decode cX7_peek 1 = .ok (.getfield 23, 3) := by decide +kernel
theorem dX7_peek_4 : decode cX7_peek 4 = .ok (.aload_n 0, 1) := by decide +kernel
theorem dX7_peek_5 : decode cX7_peek 5 = .ok (.getfield 19, 3) := by decide +kernel
theorem dX7_peek_8 : decode cX7_peek 8 = .ok (.if_icmp .ge 30, 3) := by decide +kernel
theorem dX7_peek_11 : decode cX7_peek 11 = .ok (.aload_n 0, 1) := by decide +kernel
theorem dX7_peek_12 : decode cX7_peek 12 = .ok (.getfield 11, 3) := by decide +kernel
theorem dX7_peek_15 : decode cX7_peek 15 = .ok (.aload_n 0, 1) := by decide +kernel
theorem dX7_peek_16 : decode cX7_peek 16 = .ok (.getfield 23, 3) := by decide +kernel
theorem dX7_peek_19 : decode cX7_peek 19 = .ok (.iaload, 1) := by decide +kernel
theorem dX7_peek_20 : decode cX7_peek 20 = .ok (.bipush 32, 2) := by decide +kernel
theorem dX7_peek_22 : decode cX7_peek 22 = .ok (.if_icmp .ne 16, 3) := by decide +kernel
theorem dX7_peek_25 : decode cX7_peek 25 = .ok (.aload_n 0, 1) := by decide +kernel
theorem dX7_peek_26 : decode cX7_peek 26 = .ok (.dup, 1) := by decide +kernel
theorem dX7_peek_27 : decode cX7_peek 27 = .ok (.getfield 23, 3) := by decide +kernel
theorem dX7_peek_30 : decode cX7_peek 30 = .ok (.iconst 1, 1) := by decide +kernel
theorem dX7_peek_31 : decode cX7_peek 31 = .ok (.iadd, 1) := by decide +kernel
theorem dX7_peek_32 : decode cX7_peek 32 = .ok (.putfield 23, 3) := by decide +kernel
theorem dX7_peek_35 : decode cX7_peek 35 = .ok (.goto (-35), 3) := by decide +kernel
theorem dX7_peek_38 : decode cX7_peek 38 = .ok (.aload_n 0, 1) := by decide +kernel
theorem dX7_peek_39 : decode cX7_peek 39 = .ok (.aload_n 0, 1) := by decide +kernel
theorem dX7_peek_40 : decode cX7_peek 40 = .ok (.getfield 23, 3) := by decide +kernel
theorem dX7_peek_43 : decode cX7_peek 43 = .ok (.putfield 55, 3) := by decide +kernel
theorem dX7_peek_46 : decode cX7_peek 46 = .ok (.aload_n 0, 1) := by decide +kernel
theorem dX7_peek_47 : decode cX7_peek 47 = .ok (.getfield 23, 3) := by decide +kernel
theorem dX7_peek_50 : decode cX7_peek 50 = .ok (.aload_n 0, 1) := by decide +kernel
theorem dX7_peek_51 : decode cX7_peek 51 = .ok (.getfield 19, 3) := by decide +kernel
theorem dX7_peek_54 : decode cX7_peek 54 = .ok (.if_icmp .ge 15, 3) := by decide +kernel
theorem dX7_peek_57 : decode cX7_peek 57 = .ok (.aload_n 0, 1) := by decide +kernel
theorem dX7_peek_58 : decode cX7_peek 58 = .ok (.getfield 11, 3) := by decide +kernel
theorem dX7_peek_61 : decode cX7_peek 61 = .ok (.aload_n 0, 1) := by decide +kernel
theorem dX7_peek_62 : decode cX7_peek 62 = .ok (.getfield 23, 3) := by decide +kernel
theorem dX7_peek_65 : decode cX7_peek 65 = .ok (.iaload, 1) := by decide +kernel
theorem dX7_peek_66 : decode cX7_peek 66 = .ok (.goto 4, 3) := by decide +kernel
theorem dX7_peek_69 : decode cX7_peek 69 = .ok (.iconst (-1), 1) := by decide +kernel
theorem dX7_peek_70 : decode cX7_peek 70 = .ok (.ireturn, 1) := by decide +kernel
theorem dX7_letter_0 : decode cX7_letter 0 = .ok (.aload_n 0, 1) := by decide +kernel
theorem dX7_letter_1 : decode cX7_letter 1 = .ok (.invokevirtual 52, 3) := by decide +kernel
theorem dX7_letter_4 : decode cX7_letter 4 = .ok (.bipush 97, 2) := by decide +kernel
theorem dX7_letter_6 : decode cX7_letter 6 = .ok (.isub, 1) := by decide +kernel
theorem dX7_letter_7 : decode cX7_letter 7 = .ok (.istore_n 2, 1) := by decide +kernel
theorem dX7_letter_8 : decode cX7_letter 8 = .ok (.iload_n 2, 1) := by decide +kernel
theorem dX7_letter_9 : decode cX7_letter 9 = .ok (.ifCond .lt 8, 3) := by decide +kernel
theorem dX7_letter_12 : decode cX7_letter 12 = .ok (.iload_n 2, 1) := by decide +kernel
theorem dX7_letter_13 : decode cX7_letter 13 = .ok (.iload_n 1, 1) := by decide +kernel
theorem dX7_letter_14 : decode cX7_letter 14 = .ok (.if_icmp .lt 5, 3) := by decide +kernel
theorem dX7_letter_17 : decode cX7_letter 17 = .ok (.iconst (-1), 1) := by decide +kernel
theorem dX7_letter_18 : decode cX7_letter 18 = .ok (.ireturn, 1) := by decide +kernel
theorem dX7_letter_19 : decode cX7_letter 19 = .ok (.aload_n 0, 1) := by decide +kernel
theorem dX7_letter_20 : decode cX7_letter 20 = .ok (.dup, 1) := by decide +kernel
theorem dX7_letter_21 : decode cX7_letter 21 = .ok (.getfield 23, 3) := by decide +kernel
theorem dX7_letter_24 : decode cX7_letter 24 = .ok (.iconst 1, 1) := by decide +kernel
theorem dX7_letter_25 : decode cX7_letter 25 = .ok (.iadd, 1) := by decide +kernel
theorem dX7_letter_26 : decode cX7_letter 26 = .ok (.putfield 23, 3) := by decide +kernel
theorem dX7_letter_29 : decode cX7_letter 29 = .ok (.iload_n 2, 1) := by decide +kernel
theorem dX7_letter_30 : decode cX7_letter 30 = .ok (.ireturn, 1) := by decide +kernel
theorem dX7_number_0 : decode cX7_number 0 = .ok (.aload_n 0, 1) := by decide +kernel
theorem dX7_number_1 : decode cX7_number 1 = .ok (.invokevirtual 52, 3) := by decide +kernel
theorem dX7_number_4 : decode cX7_number 4 = .ok (.pop, 1) := by decide +kernel
theorem dX7_number_5 : decode cX7_number 5 = .ok (.iconst (-1), 1) := by decide +kernel
theorem dX7_number_6 : decode cX7_number 6 = .ok (.istore_n 3, 1) := by decide +kernel
theorem dX7_number_7 : decode cX7_number 7 = .ok (.aload_n 0, 1) := by decide +kernel
theorem dX7_number_8 : decode cX7_number 8 = .ok (.getfield 23, 3) := by decide +kernel
theorem dX7_number_11 : decode cX7_number 11 = .ok (.aload_n 0, 1) := by decide +kernel
theorem dX7_number_12 : decode cX7_number 12 = .ok (.getfield 19, 3) := by decide +kernel
theorem dX7_number_15 : decode cX7_number 15 = .ok (.if_icmp .ge 72, 3) := by decide +kernel
theorem dX7_number_18 : decode cX7_number 18 = .ok (.aload_n 0, 1) := by decide +kernel
theorem dX7_number_19 : decode cX7_number 19 = .ok (.getfield 11, 3) := by decide +kernel
theorem dX7_number_22 : decode cX7_number 22 = .ok (.aload_n 0, 1) := by decide +kernel
theorem dX7_number_23 : decode cX7_number 23 = .ok (.getfield 23, 3) := by decide +kernel
theorem dX7_number_26 : decode cX7_number 26 = .ok (.iaload, 1) := by decide +kernel
theorem dX7_number_27 : decode cX7_number 27 = .ok (.bipush 48, 2) := by decide +kernel
theorem dX7_number_29 : decode cX7_number 29 = .ok (.if_icmp .lt 58, 3) := by decide +kernel
theorem dX7_number_32 : decode cX7_number 32 = .ok (.aload_n 0, 1) := by decide +kernel
theorem dX7_number_33 : decode cX7_number 33 = .ok (.getfield 11, 3) := by decide +kernel
theorem dX7_number_36 : decode cX7_number 36 = .ok (.aload_n 0, 1) := by decide +kernel
theorem dX7_number_37 : decode cX7_number 37 = .ok (.getfield 23, 3) := by decide +kernel
theorem dX7_number_40 : decode cX7_number 40 = .ok (.iaload, 1) := by decide +kernel
theorem dX7_number_41 : decode cX7_number 41 = .ok (.bipush 57, 2) := by decide +kernel
theorem dX7_number_43 : decode cX7_number 43 = .ok (.if_icmp .gt 44, 3) := by decide +kernel
theorem dX7_number_46 : decode cX7_number 46 = .ok (.sipush 1000, 3) := by decide +kernel
theorem dX7_number_49 : decode cX7_number 49 = .ok (.iload_n 3, 1) := by decide +kernel
theorem dX7_number_50 : decode cX7_number 50 = .ok (.iconst 0, 1) := by decide +kernel
theorem dX7_number_51 : decode cX7_number 51 = .ok (.invokestatic 58, 3) := by decide +kernel
theorem dX7_number_54 : decode cX7_number 54 = .ok (.bipush 10, 2) := by decide +kernel
theorem dX7_number_56 : decode cX7_number 56 = .ok (.imul, 1) := by decide +kernel
theorem dX7_number_57 : decode cX7_number 57 = .ok (.aload_n 0, 1) := by decide +kernel
theorem dX7_number_58 : decode cX7_number 58 = .ok (.getfield 11, 3) := by decide +kernel
theorem dX7_number_61 : decode cX7_number 61 = .ok (.aload_n 0, 1) := by decide +kernel
theorem dX7_number_62 : decode cX7_number 62 = .ok (.getfield 23, 3) := by decide +kernel
theorem dX7_number_65 : decode cX7_number 65 = .ok (.iaload, 1) := by decide +kernel
theorem dX7_number_66 : decode cX7_number 66 = .ok (.iadd, 1) := by decide +kernel
theorem dX7_number_67 : decode cX7_number 67 = .ok (.bipush 48, 2) := by decide +kernel
theorem dX7_number_69 : decode cX7_number 69 = .ok (.isub, 1) := by decide +kernel
theorem dX7_number_70 : decode cX7_number 70 = .ok (.invokestatic 63, 3) := by decide +kernel
theorem dX7_number_73 : decode cX7_number 73 = .ok (.istore_n 3, 1) := by decide +kernel
theorem dX7_number_74 : decode cX7_number 74 = .ok (.aload_n 0, 1) := by decide +kernel
theorem dX7_number_75 : decode cX7_number 75 = .ok (.dup, 1) := by decide +kernel
theorem dX7_number_76 : decode cX7_number 76 = .ok (.getfield 23, 3) := by decide +kernel
theorem dX7_number_79 : decode cX7_number 79 = .ok (.iconst 1, 1) := by decide +kernel
theorem dX7_number_80 : decode cX7_number 80 = .ok (.iadd, 1) := by decide +kernel
theorem dX7_number_81 : decode cX7_number 81 = .ok (.putfield 23, 3) := by decide +kernel
theorem dX7_number_84 : decode cX7_number 84 = .ok (.goto (-77), 3) := by decide +kernel
theorem dX7_number_87 : decode cX7_number 87 = .ok (.iload_n 3, 1) := by decide +kernel
theorem dX7_number_88 : decode cX7_number 88 = .ok (.iload_n 1, 1) := by decide +kernel
theorem dX7_number_89 : decode cX7_number 89 = .ok (.if_icmp .lt 8, 3) := by decide +kernel
theorem dX7_number_92 : decode cX7_number 92 = .ok (.iload_n 3, 1) := by decide +kernel
theorem dX7_number_93 : decode cX7_number 93 = .ok (.iload_n 2, 1) := by decide +kernel
theorem dX7_number_94 : decode cX7_number 94 = .ok (.if_icmp .le 7, 3) := by decide +kernel
theorem dX7_number_97 : decode cX7_number 97 = .ok (.iconst (-1), 1) := by decide +kernel
theorem dX7_number_98 : decode cX7_number 98 = .ok (.goto 4, 3) := by decide +kernel
theorem dX7_number_101 : decode cX7_number 101 = .ok (.iload_n 3, 1) := by decide +kernel
theorem dX7_number_102 : decode cX7_number 102 = .ok (.ireturn, 1) := by decide +kernel
theorem dX8_init_0 : decode cX8_init 0 = .ok (.aload_n 0, 1) := by decide +kernel
theorem dX8_init_1 : decode cX8_init 1 = .ok (.invokespecial 3, 3) := by decide +kernel
theorem dX8_init_4 : decode cX8_init 4 = .ok (.aload_n 0, 1) := by decide +kernel
theorem dX8_init_5 : decode cX8_init 5 = .ok (.bipush 24, 2) := by decide +kernel
theorem dX8_init_7 : decode cX8_init 7 = .ok (.newarray .int, 2) := by decide +kernel
theorem dX8_init_9 : decode cX8_init 9 = .ok (.putfield 9, 3) := by decide +kernel
theorem dX8_init_12 : decode cX8_init 12 = .ok (.aload_n 0, 1) := by decide +kernel
theorem dX8_init_13 : decode cX8_init 13 = .ok (.bipush 24, 2) := by decide +kernel
theorem dX8_init_15 : decode cX8_init 15 = .ok (.bipush 10, 2) := by decide +kernel
theorem dX8_init_17 : decode cX8_init 17 = .ok (.multianewarray 15 2, 4) := by decide +kernel
theorem dX8_init_21 : decode cX8_init 21 = .ok (.putfield 17, 3) := by decide +kernel
theorem dX8_init_24 : decode cX8_init 24 = .ok (.aload_n 0, 1) := by decide +kernel
theorem dX8_init_25 : decode cX8_init 25 = .ok (.bipush 24, 2) := by decide +kernel
theorem dX8_init_27 : decode cX8_init 27 = .ok (.newarray .int, 2) := by decide +kernel
theorem dX8_init_29 : decode cX8_init 29 = .ok (.putfield 20, 3) := by decide +kernel
theorem dX8_init_32 : decode cX8_init 32 = .ok (.aload_n 0, 1) := by decide +kernel
theorem dX8_init_33 : decode cX8_init 33 = .ok (.bipush 24, 2) := by decide +kernel
theorem dX8_init_35 : decode cX8_init 35 = .ok (.newarray .int, 2) := by decide +kernel
theorem dX8_init_37 : decode cX8_init 37 = .ok (.putfield 23, 3) := by decide +kernel
theorem dX8_init_40 : decode cX8_init 40 = .ok (.aload_n 0, 1) := by decide +kernel
theorem dX8_init_41 : decode cX8_init 41 = .ok (.aload_n 1, 1) := by decide +kernel
theorem dX8_init_42 : decode cX8_init 42 = .ok (.putfield 26, 3) := by decide +kernel
theorem dX8_init_45 : decode cX8_init 45 = .ok (.return_, 1) := by decide +kernel
theorem dX8_prepare_0 : decode cX8_prepare 0 = .ok (.aload_n 0, 1) := by decide +kernel
theorem dX8_prepare_1 : decode cX8_prepare 1 = .ok (.getfield 30, 3) := by decide +kernel
theorem dX8_prepare_4 : decode cX8_prepare 4 = .ok (.ifCond .eq 4, 3) := by decide +kernel
theorem dX8_prepare_7 : decode cX8_prepare 7 = .ok (.return_, 1) := by decide +kernel
theorem dX8_prepare_8 : decode cX8_prepare 8 = .ok (.aload_n 0, 1) := by decide +kernel
theorem dX8_prepare_9 : decode cX8_prepare 9 = .ok (.getfield 9, 3) := by decide +kernel
theorem dX8_prepare_12 : decode cX8_prepare 12 = .ok (.iconst 0, 1) := by decide +kernel
theorem dX8_prepare_13 : decode cX8_prepare 13 = .ok (.invokestatic 34, 3) := by decide +kernel
theorem dX8_prepare_16 : decode cX8_prepare 16 = .ok (.iconst 0, 1) := by decide +kernel
theorem dX8_prepare_17 : decode cX8_prepare 17 = .ok (.istore_n 1, 1) := by decide +kernel
theorem dX8_prepare_18 : decode cX8_prepare 18 = .ok (.iload_n 1, 1) := by decide +kernel
theorem dX8_prepare_19 : decode cX8_prepare 19 = .ok (.aload_n 0, 1) := by decide +kernel
theorem dX8_prepare_20 : decode cX8_prepare 20 = .ok (.getfield 26, 3) := by decide +kernel
theorem dX8_prepare_23 : decode cX8_prepare 23 = .ok (.getfield 40, 3) := by decide +kernel
theorem dX8_prepare_26 : decode cX8_prepare 26 = .ok (.if_icmp .ge 45, 3) := by decide +kernel
theorem dX8_prepare_29 : decode cX8_prepare 29 = .ok (.iconst 0, 1) := by decide +kernel
theorem dX8_prepare_30 : decode cX8_prepare 30 = .ok (.istore_n 2, 1) := by decide +kernel
theorem dX8_prepare_31 : decode cX8_prepare 31 = .ok (.iload_n 2, 1) := by decide +kernel
theorem dX8_prepare_32 : decode cX8_prepare 32 = .ok (.bipush 24, 2) := by decide +kernel
theorem dX8_prepare_34 : decode cX8_prepare 34 = .ok (.if_icmp .ge 31, 3) := by decide +kernel
theorem dX8_prepare_37 : decode cX8_prepare 37 = .ok (.aload_n 0, 1) := by decide +kernel
theorem dX8_prepare_38 : decode cX8_prepare 38 = .ok (.getfield 9, 3) := by decide +kernel
theorem dX8_prepare_41 : decode cX8_prepare 41 = .ok (.iload_n 2, 1) := by decide +kernel
theorem dX8_prepare_42 : decode cX8_prepare 42 = .ok (.dup2, 1) := by decide +kernel
theorem dX8_prepare_43 : decode cX8_prepare 43 = .ok (.iaload, 1) := by decide +kernel
theorem dX8_prepare_44 : decode cX8_prepare 44 = .ok (.iconst 1, 1) := by decide +kernel
theorem dX8_prepare_45 : decode cX8_prepare 45 = .ok (.aload_n 0, 1) := by decide +kernel
theorem dX8_prepare_46 : decode cX8_prepare 46 = .ok (.getfield 26, 3) := by decide +kernel
theorem dX8_prepare_49 : decode cX8_prepare 49 = .ok (.getfield 46, 3) := by decide +kernel
theorem dX8_prepare_52 : decode cX8_prepare 52 = .ok (.iload_n 1, 1) := by decide +kernel
theorem dX8_prepare_53 : decode cX8_prepare 53 = .ok (.aaload, 1) := by decide +kernel
theorem dX8_prepare_54 : decode cX8_prepare 54 = .ok (.iload_n 2, 1) := by decide +kernel
theorem dX8_prepare_55 : decode cX8_prepare 55 = .ok (.iaload, 1) := by decide +kernel
theorem dX8_prepare_56 : decode cX8_prepare 56 = .ok (.ishl, 1) := by decide +kernel
theorem dX8_prepare_57 : decode cX8_prepare 57 = .ok (.ior, 1) := by decide +kernel
theorem dX8_prepare_58 : decode cX8_prepare 58 = .ok (.iastore, 1) := by decide +kernel
theorem dX8_prepare_59 : decode cX8_prepare 59 = .ok (.iinc 2 1, 3) := by decide +kernel
theorem dX8_prepare_62 : decode cX8_prepare 62 = .ok (.goto (-31), 3) := by decide +kernel
theorem dX8_prepare_65 : decode cX8_prepare 65 = .ok (.iinc 1 1, 3) := by decide +kernel
theorem dX8_prepare_68 : decode cX8_prepare 68 = .ok (.goto (-50), 3) := by decide +kernel
theorem dX8_prepare_71 : decode cX8_prepare 71 = .ok (.iconst 0, 1) := by decide +kernel
theorem dX8_prepare_72 : decode cX8_prepare 72 = .ok (.istore_n 1, 1) := by decide +kernel
theorem dX8_prepare_73 : decode cX8_prepare 73 = .ok (.iload_n 1, 1) := by decide +kernel
theorem dX8_prepare_74 : decode cX8_prepare 74 = .ok (.bipush 23, 2) := by decide +kernel
theorem dX8_prepare_76 : decode cX8_prepare 76 = .ok (.if_icmp .ge 65, 3) := by decide +kernel
theorem dX8_prepare_79 : decode cX8_prepare 79 = .ok (.iconst 0, 1) := by decide +kernel
theorem dX8_prepare_80 : decode cX8_prepare 80 = .ok (.istore_n 2, 1) := by decide +kernel
theorem dX8_prepare_81 : decode cX8_prepare 81 = .ok (.iload_n 2, 1) := by decide +kernel
theorem dX8_prepare_82 : decode cX8_prepare 82 = .ok (.aload_n 0, 1) := by decide +kernel
theorem dX8_prepare_83 : decode cX8_prepare 83 = .ok (.getfield 26, 3) := by decide +kernel
theorem dX8_prepare_86 : decode cX8_prepare 86 = .ok (.getfield 49, 3) := by decide +kernel
theorem dX8_prepare_89 : decode cX8_prepare 89 = .ok (.if_icmp .ge 46, 3) := by decide +kernel
theorem dX8_prepare_92 : decode cX8_prepare 92 = .ok (.aload_n 0, 1) := by decide +kernel
theorem dX8_prepare_93 : decode cX8_prepare 93 = .ok (.getfield 17, 3) := by decide +kernel
theorem dX8_prepare_96 : decode cX8_prepare 96 = .ok (.iload_n 1, 1) := by decide +kernel
theorem dX8_prepare_97 : decode cX8_prepare 97 = .ok (.aaload, 1) := by decide +kernel
theorem dX8_prepare_98 : decode cX8_prepare 98 = .ok (.iload_n 2, 1) := by decide +kernel
theorem dX8_prepare_99 : decode cX8_prepare 99 = .ok (.aload_n 0, 1) := by decide +kernel
theorem dX8_prepare_100 : decode cX8_prepare 100 = .ok (.getfield 26, 3) := by decide +kernel
theorem dX8_prepare_103 : decode cX8_prepare 103 = .ok (.iload_n 2, 1) := by decide +kernel
theorem dX8_prepare_104 : decode cX8_prepare 104 = .ok (.iconst 1, 1) := by decide +kernel
theorem dX8_prepare_105 : decode cX8_prepare 105 = .ok (.invokevirtual 52, 3) := by decide +kernel
theorem dX8_prepare_108 : decode cX8_prepare 108 = .ok (.aload_n 0, 1) := by decide +kernel
theorem dX8_prepare_109 : decode cX8_prepare 109 = .ok (.getfield 9, 3) := by decide +kernel
theorem dX8_prepare_112 : decode cX8_prepare 112 = .ok (.iload_n 1, 1) := by decide +kernel
theorem dX8_prepare_113 : decode cX8_prepare 113 = .ok (.iconst 1, 1) := by decide +kernel
theorem dX8_prepare_114 : decode cX8_prepare 114 = .ok (.iadd, 1) := by decide +kernel
theorem dX8_prepare_115 : decode cX8_prepare 115 = .ok (.iaload, 1) := by decide +kernel
theorem dX8_prepare_116 : decode cX8_prepare 116 = .ok (.iconst (-1), 1) := by decide +kernel
theorem dX8_prepare_117 : decode cX8_prepare 117 = .ok (.ixor, 1) := by decide +kernel
theorem dX8_prepare_118 : decode cX8_prepare 118 = .ok (.iand, 1) := by decide +kernel
theorem dX8_prepare_119 : decode cX8_prepare 119 = .ok (.aload_n 0, 1) := by decide +kernel
theorem dX8_prepare_120 : decode cX8_prepare 120 = .ok (.iload_n 2, 1) := by decide +kernel
theorem dX8_prepare_121 : decode cX8_prepare 121 = .ok (.iload_n 1, 1) := by decide +kernel
theorem dX8_prepare_122 : decode cX8_prepare 122 = .ok (.invokevirtual 56, 3) := by decide +kernel
theorem dX8_prepare_125 : decode cX8_prepare 125 = .ok (.iconst (-1), 1) := by decide +kernel
theorem dX8_prepare_126 : decode cX8_prepare 126 = .ok (.ixor, 1) := by decide +kernel
theorem dX8_prepare_127 : decode cX8_prepare 127 = .ok (.iand, 1) := by decide +kernel
theorem dX8_prepare_128 : decode cX8_prepare 128 = .ok (.iastore, 1) := by decide +kernel
theorem dX8_prepare_129 : decode cX8_prepare 129 = .ok (.iinc 2 1, 3) := by decide +kernel
theorem dX8_prepare_132 : decode cX8_prepare 132 = .ok (.goto (-51), 3) := by decide +kernel
theorem dX8_prepare_135 : decode cX8_prepare 135 = .ok (.iinc 1 1, 3) := by decide +kernel
theorem dX8_prepare_138 : decode cX8_prepare 138 = .ok (.goto (-65), 3) := by decide +kernel
theorem dX8_prepare_141 : decode cX8_prepare 141 = .ok (.aload_n 0, 1) := by decide +kernel
theorem dX8_prepare_142 : decode cX8_prepare 142 = .ok (.iconst 1, 1) := by decide +kernel
theorem dX8_prepare_143 : decode cX8_prepare 143 = .ok (.putfield 30, 3) := by decide +kernel
theorem dX8_prepare_146 : decode cX8_prepare 146 = .ok (.return_, 1) := by decide +kernel
theorem dX8_comersInto_0 : decode cX8_comersInto 0 = .ok (.iconst 0, 1) := by decide +kernel
theorem dX8_comersInto_1 : decode cX8_comersInto 1 = .ok (.istore_n 3, 1) := by decide +kernel
theorem dX8_comersInto_2 : decode cX8_comersInto 2 = .ok (.iconst 0, 1) := by decide +kernel
theorem dX8_comersInto_3 : decode cX8_comersInto 3 = .ok (.istore 4, 2) := by decide +kernel
theorem dX8_comersInto_5 : decode cX8_comersInto 5 = .ok (.iload 4, 2) := by decide +kernel
theorem dX8_comersInto_7 : decode cX8_comersInto 7 = .ok (.aload_n 0, 1) := by decide +kernel
theorem dX8_comersInto_8 : decode cX8_comersInto 8 = .ok (.getfield 26, 3) := by decide +kernel
theorem dX8_comersInto_11 : decode cX8_comersInto 11 = .ok (.getfield 40, 3) := by decide +kernel
theorem dX8_comersInto_14 : decode cX8_comersInto 14 = .ok (.if_icmp .ge 44, 3) := by decide +kernel
theorem dX8_comersInto_17 : decode cX8_comersInto 17 = .ok (.aload_n 0, 1) := by decide +kernel
theorem dX8_comersInto_18 : decode cX8_comersInto 18 = .ok (.getfield 26, 3) := by decide +kernel
theorem dX8_comersInto_21 : decode cX8_comersInto 21 = .ok (.getfield 46, 3) := by decide +kernel
theorem dX8_comersInto_24 : decode cX8_comersInto 24 = .ok (.iload 4, 2) := by decide +kernel
theorem dX8_comersInto_26 : decode cX8_comersInto 26 = .ok (.aaload, 1) := by decide +kernel
theorem dX8_comersInto_27 : decode cX8_comersInto 27 = .ok (.iload_n 2, 1) := by decide +kernel
theorem dX8_comersInto_28 : decode cX8_comersInto 28 = .ok (.iconst 1, 1) := by decide +kernel
theorem dX8_comersInto_29 : decode cX8_comersInto 29 = .ok (.iadd, 1) := by decide +kernel
theorem dX8_comersInto_30 : decode cX8_comersInto 30 = .ok (.iaload, 1) := by decide +kernel
theorem dX8_comersInto_31 : decode cX8_comersInto 31 = .ok (.iload_n 1, 1) := by decide +kernel
theorem dX8_comersInto_32 : decode cX8_comersInto 32 = .ok (.if_icmp .ne 20, 3) := by decide +kernel
theorem dX8_comersInto_35 : decode cX8_comersInto 35 = .ok (.iload_n 3, 1) := by decide +kernel
theorem dX8_comersInto_36 : decode cX8_comersInto 36 = .ok (.iconst 1, 1) := by decide +kernel
theorem dX8_comersInto_37 : decode cX8_comersInto 37 = .ok (.aload_n 0, 1) := by decide +kernel
theorem dX8_comersInto_38 : decode cX8_comersInto 38 = .ok (.getfield 26, 3) := by decide +kernel
theorem dX8_comersInto_41 : decode cX8_comersInto 41 = .ok (.getfield 46, 3) := by decide +kernel
theorem dX8_comersInto_44 : decode cX8_comersInto 44 = .ok (.iload 4, 2) := by decide +kernel
theorem dX8_comersInto_46 : decode cX8_comersInto 46 = .ok (.aaload, 1) := by decide +kernel
theorem dX8_comersInto_47 : decode cX8_comersInto 47 = .ok (.iload_n 2, 1) := by decide +kernel
theorem dX8_comersInto_48 : decode cX8_comersInto 48 = .ok (.iaload, 1) := by decide +kernel
theorem dX8_comersInto_49 : decode cX8_comersInto 49 = .ok (.ishl, 1) := by decide +kernel
theorem dX8_comersInto_50 : decode cX8_comersInto 50 = .ok (.ior, 1) := by decide +kernel
theorem dX8_comersInto_51 : decode cX8_comersInto 51 = .ok (.istore_n 3, 1) := by decide +kernel
theorem dX8_comersInto_52 : decode cX8_comersInto 52 = .ok (.iinc 4 1, 3) := by decide +kernel
theorem dX8_comersInto_55 : decode cX8_comersInto 55 = .ok (.goto (-50), 3) := by decide +kernel
theorem dX8_comersInto_58 : decode cX8_comersInto 58 = .ok (.iload_n 3, 1) := by decide +kernel
theorem dX8_comersInto_59 : decode cX8_comersInto 59 = .ok (.ireturn, 1) := by decide +kernel
theorem dX8_mayBegin_0 : decode cX8_mayBegin 0 = .ok (.iload_n 3, 1) := by decide +kernel
theorem dX8_mayBegin_1 : decode cX8_mayBegin 1 = .ok (.ifCond .eq 16, 3) := by decide +kernel
theorem dX8_mayBegin_4 : decode cX8_mayBegin 4 = .ok (.aload_n 0, 1) := by decide +kernel
theorem dX8_mayBegin_5 : decode cX8_mayBegin 5 = .ok (.getfield 9, 3) := by decide +kernel
theorem dX8_mayBegin_8 : decode cX8_mayBegin 8 = .ok (.iload_n 2, 1) := by decide +kernel
theorem dX8_mayBegin_9 : decode cX8_mayBegin 9 = .ok (.iaload, 1) := by decide +kernel
theorem dX8_mayBegin_10 : decode cX8_mayBegin 10 = .ok (.iload_n 1, 1) := by decide +kernel
theorem dX8_mayBegin_11 : decode cX8_mayBegin 11 = .ok (.ishr, 1) := by decide +kernel
theorem dX8_mayBegin_12 : decode cX8_mayBegin 12 = .ok (.iconst 1, 1) := by decide +kernel
theorem dX8_mayBegin_13 : decode cX8_mayBegin 13 = .ok (.iand, 1) := by decide +kernel
theorem dX8_mayBegin_14 : decode cX8_mayBegin 14 = .ok (.ifCond .ne 7, 3) := by decide +kernel
theorem dX8_mayBegin_17 : decode cX8_mayBegin 17 = .ok (.iconst 1, 1) := by decide +kernel
theorem dX8_mayBegin_18 : decode cX8_mayBegin 18 = .ok (.goto 4, 3) := by decide +kernel
theorem dX8_mayBegin_21 : decode cX8_mayBegin 21 = .ok (.iconst 0, 1) := by decide +kernel
theorem dX8_mayBegin_22 : decode cX8_mayBegin 22 = .ok (.ireturn, 1) := by decide +kernel
theorem dX8_step_0 : decode cX8_step 0 = .ok (.iload_n 3, 1) := by decide +kernel
theorem dX8_step_1 : decode cX8_step 1 = .ok (.ifCond .eq 14, 3) := by decide +kernel
theorem dX8_step_4 : decode cX8_step 4 = .ok (.aload_n 0, 1) := by decide +kernel
theorem dX8_step_5 : decode cX8_step 5 = .ok (.getfield 17, 3) := by decide +kernel
theorem dX8_step_8 : decode cX8_step 8 = .ok (.iload_n 2, 1) := by decide +kernel
theorem dX8_step_9 : decode cX8_step 9 = .ok (.aaload, 1) := by decide +kernel
theorem dX8_step_10 : decode cX8_step 10 = .ok (.iload_n 1, 1) := by decide +kernel
theorem dX8_step_11 : decode cX8_step 11 = .ok (.iaload, 1) := by decide +kernel
theorem dX8_step_12 : decode cX8_step 12 = .ok (.goto 12, 3) := by decide +kernel
theorem dX8_step_15 : decode cX8_step 15 = .ok (.aload_n 0, 1) := by decide +kernel
theorem dX8_step_16 : decode cX8_step 16 = .ok (.getfield 26, 3) := by decide +kernel
theorem dX8_step_19 : decode cX8_step 19 = .ok (.iload_n 1, 1) := by decide +kernel
theorem dX8_step_20 : decode cX8_step 20 = .ok (.iconst 1, 1) := by decide +kernel
theorem dX8_step_21 : decode cX8_step 21 = .ok (.invokevirtual 52, 3) := by decide +kernel
theorem dX8_step_24 : decode cX8_step 24 = .ok (.ireturn, 1) := by decide +kernel
theorem dX8_onward_0 : decode cX8_onward 0 = .ok (.iconst 0, 1) := by decide +kernel
theorem dX8_onward_1 : decode cX8_onward 1 = .ok (.istore 4, 2) := by decide +kernel
theorem dX8_onward_3 : decode cX8_onward 3 = .ok (.iconst 0, 1) := by decide +kernel
theorem dX8_onward_4 : decode cX8_onward 4 = .ok (.istore 5, 2) := by decide +kernel
theorem dX8_onward_6 : decode cX8_onward 6 = .ok (.iload 5, 2) := by decide +kernel
theorem dX8_onward_8 : decode cX8_onward 8 = .ok (.aload_n 0, 1) := by decide +kernel
theorem dX8_onward_9 : decode cX8_onward 9 = .ok (.getfield 26, 3) := by decide +kernel
theorem dX8_onward_12 : decode cX8_onward 12 = .ok (.getfield 49, 3) := by decide +kernel
theorem dX8_onward_15 : decode cX8_onward 15 = .ok (.if_icmp .ge 31, 3) := by decide +kernel
theorem dX8_onward_18 : decode cX8_onward 18 = .ok (.iload_n 1, 1) := by decide +kernel
theorem dX8_onward_19 : decode cX8_onward 19 = .ok (.iload 5, 2) := by decide +kernel
theorem dX8_onward_21 : decode cX8_onward 21 = .ok (.ishr, 1) := by decide +kernel
theorem dX8_onward_22 : decode cX8_onward 22 = .ok (.iconst 1, 1) := by decide +kernel
theorem dX8_onward_23 : decode cX8_onward 23 = .ok (.iand, 1) := by decide +kernel
theorem dX8_onward_24 : decode cX8_onward 24 = .ok (.ifCond .eq 16, 3) := by decide +kernel
theorem dX8_onward_27 : decode cX8_onward 27 = .ok (.iload 4, 2) := by decide +kernel
theorem dX8_onward_29 : decode cX8_onward 29 = .ok (.aload_n 0, 1) := by decide +kernel
theorem dX8_onward_30 : decode cX8_onward 30 = .ok (.iload 5, 2) := by decide +kernel
theorem dX8_onward_32 : decode cX8_onward 32 = .ok (.iload_n 2, 1) := by decide +kernel
theorem dX8_onward_33 : decode cX8_onward 33 = .ok (.iload_n 3, 1) := by decide +kernel
theorem dX8_onward_34 : decode cX8_onward 34 = .ok (.invokevirtual 60, 3) := by decide +kernel
theorem dX8_onward_37 : decode cX8_onward 37 = .ok (.ior, 1) := by decide +kernel
theorem dX8_onward_38 : decode cX8_onward 38 = .ok (.istore 4, 2) := by decide +kernel
theorem dX8_onward_40 : decode cX8_onward 40 = .ok (.iinc 5 1, 3) := by decide +kernel
theorem dX8_onward_43 : decode cX8_onward 43 = .ok (.goto (-37), 3) := by decide +kernel
theorem dX8_onward_46 : decode cX8_onward 46 = .ok (.iload 4, 2) := by decide +kernel
theorem dX8_onward_48 : decode cX8_onward 48 = .ok (.ireturn, 1) := by decide +kernel
theorem dX8_soonest_0 : decode cX8_soonest 0 = .ok (.aload_n 0, 1) := by decide +kernel
theorem dX8_soonest_1 : decode cX8_soonest 1 = .ok (.invokevirtual 64, 3) := by decide +kernel
theorem dX8_soonest_4 : decode cX8_soonest 4 = .ok (.aload_n 0, 1) := by decide +kernel
theorem dX8_soonest_5 : decode cX8_soonest 5 = .ok (.iload_n 1, 1) := by decide +kernel
theorem dX8_soonest_6 : decode cX8_soonest 6 = .ok (.iload_n 2, 1) := by decide +kernel
theorem dX8_soonest_7 : decode cX8_soonest 7 = .ok (.iload 4, 2) := by decide +kernel
theorem dX8_soonest_9 : decode cX8_soonest 9 = .ok (.invokevirtual 67, 3) := by decide +kernel
theorem dX8_soonest_12 : decode cX8_soonest 12 = .ok (.ifCond .ne 6, 3) := by decide +kernel
theorem dX8_soonest_15 : decode cX8_soonest 15 = .ok (.bipush 24, 2) := by decide +kernel
theorem dX8_soonest_17 : decode cX8_soonest 17 = .ok (.ireturn, 1) := by decide +kernel
theorem dX8_soonest_18 : decode cX8_soonest 18 = .ok (.aload_n 0, 1) := by decide +kernel
theorem dX8_soonest_19 : decode cX8_soonest 19 = .ok (.getfield 20, 3) := by decide +kernel
theorem dX8_soonest_22 : decode cX8_soonest 22 = .ok (.iload_n 2, 1) := by decide +kernel
theorem dX8_soonest_23 : decode cX8_soonest 23 = .ok (.iconst 1, 1) := by decide +kernel
theorem dX8_soonest_24 : decode cX8_soonest 24 = .ok (.iload_n 1, 1) := by decide +kernel
theorem dX8_soonest_25 : decode cX8_soonest 25 = .ok (.ishl, 1) := by decide +kernel
theorem dX8_soonest_26 : decode cX8_soonest 26 = .ok (.iastore, 1) := by decide +kernel
theorem dX8_soonest_27 : decode cX8_soonest 27 = .ok (.iload_n 2, 1) := by decide +kernel
theorem dX8_soonest_28 : decode cX8_soonest 28 = .ok (.istore 5, 2) := by decide +kernel
theorem dX8_soonest_30 : decode cX8_soonest 30 = .ok (.iload 5, 2) := by decide +kernel
theorem dX8_soonest_32 : decode cX8_soonest 32 = .ok (.bipush 24, 2) := by decide +kernel
theorem dX8_soonest_34 : decode cX8_soonest 34 = .ok (.if_icmp .ge 67, 3) := by decide +kernel
theorem dX8_soonest_37 : decode cX8_soonest 37 = .ok (.aload_n 0, 1) := by decide +kernel
theorem dX8_soonest_38 : decode cX8_soonest 38 = .ok (.getfield 20, 3) := by decide +kernel
theorem dX8_soonest_41 : decode cX8_soonest 41 = .ok (.iload 5, 2) := by decide +kernel
theorem dX8_soonest_43 : decode cX8_soonest 43 = .ok (.iaload, 1) := by decide +kernel
theorem dX8_soonest_44 : decode cX8_soonest 44 = .ok (.iload_n 3, 1) := by decide +kernel
theorem dX8_soonest_45 : decode cX8_soonest 45 = .ok (.ishr, 1) := by decide +kernel
theorem dX8_soonest_46 : decode cX8_soonest 46 = .ok (.iconst 1, 1) := by decide +kernel
theorem dX8_soonest_47 : decode cX8_soonest 47 = .ok (.iand, 1) := by decide +kernel
theorem dX8_soonest_48 : decode cX8_soonest 48 = .ok (.ifCond .eq 16, 3) := by decide +kernel
theorem dX8_soonest_51 : decode cX8_soonest 51 = .ok (.aload_n 0, 1) := by decide +kernel
theorem dX8_soonest_52 : decode cX8_soonest 52 = .ok (.getfield 23, 3) := by decide +kernel
theorem dX8_soonest_55 : decode cX8_soonest 55 = .ok (.iload 5, 2) := by decide +kernel
theorem dX8_soonest_57 : decode cX8_soonest 57 = .ok (.iconst 1, 1) := by decide +kernel
theorem dX8_soonest_58 : decode cX8_soonest 58 = .ok (.iload_n 3, 1) := by decide +kernel
theorem dX8_soonest_59 : decode cX8_soonest 59 = .ok (.ishl, 1) := by decide +kernel
theorem dX8_soonest_60 : decode cX8_soonest 60 = .ok (.iastore, 1) := by decide +kernel
theorem dX8_soonest_61 : decode cX8_soonest 61 = .ok (.iload 5, 2) := by decide +kernel
theorem dX8_soonest_63 : decode cX8_soonest 63 = .ok (.ireturn, 1) := by decide +kernel
theorem dX8_soonest_64 : decode cX8_soonest 64 = .ok (.iload 5, 2) := by decide +kernel
theorem dX8_soonest_66 : decode cX8_soonest 66 = .ok (.bipush 23, 2) := by decide +kernel
theorem dX8_soonest_68 : decode cX8_soonest 68 = .ok (.if_icmp .ge 27, 3) := by decide +kernel
theorem dX8_soonest_71 : decode cX8_soonest 71 = .ok (.aload_n 0, 1) := by decide +kernel
theorem dX8_soonest_72 : decode cX8_soonest 72 = .ok (.getfield 20, 3) := by decide +kernel
theorem dX8_soonest_75 : decode cX8_soonest 75 = .ok (.iload 5, 2) := by decide +kernel
theorem dX8_soonest_77 : decode cX8_soonest 77 = .ok (.iconst 1, 1) := by decide +kernel
theorem dX8_soonest_78 : decode cX8_soonest 78 = .ok (.iadd, 1) := by decide +kernel
theorem dX8_soonest_79 : decode cX8_soonest 79 = .ok (.aload_n 0, 1) := by decide +kernel
theorem dX8_soonest_80 : decode cX8_soonest 80 = .ok (.aload_n 0, 1) := by decide +kernel
theorem dX8_soonest_81 : decode cX8_soonest 81 = .ok (.getfield 20, 3) := by decide +kernel
theorem dX8_soonest_84 : decode cX8_soonest 84 = .ok (.iload 5, 2) := by decide +kernel
theorem dX8_soonest_86 : decode cX8_soonest 86 = .ok (.iaload, 1) := by decide +kernel
theorem dX8_soonest_87 : decode cX8_soonest 87 = .ok (.iload 5, 2) := by decide +kernel
theorem dX8_soonest_89 : decode cX8_soonest 89 = .ok (.iload 4, 2) := by decide +kernel
theorem dX8_soonest_91 : decode cX8_soonest 91 = .ok (.invokevirtual 71, 3) := by decide +kernel
theorem dX8_soonest_94 : decode cX8_soonest 94 = .ok (.iastore, 1) := by decide +kernel
theorem dX8_soonest_95 : decode cX8_soonest 95 = .ok (.iinc 5 1, 3) := by decide +kernel
theorem dX8_soonest_98 : decode cX8_soonest 98 = .ok (.goto (-68), 3) := by decide +kernel
theorem dX8_soonest_101 : decode cX8_soonest 101 = .ok (.bipush 24, 2) := by decide +kernel
theorem dX8_soonest_103 : decode cX8_soonest 103 = .ok (.ireturn, 1) := by decide +kernel
theorem dX8_roomOnTrip_0 : decode cX8_roomOnTrip 0 = .ok (.iload_n 3, 1) := by decide +kernel
theorem dX8_roomOnTrip_1 : decode cX8_roomOnTrip 1 = .ok (.iconst 1, 1) := by decide +kernel
theorem dX8_roomOnTrip_2 : decode cX8_roomOnTrip 2 = .ok (.isub, 1) := by decide +kernel
theorem dX8_roomOnTrip_3 : decode cX8_roomOnTrip 3 = .ok (.istore 6, 2) := by decide +kernel
theorem dX8_roomOnTrip_5 : decode cX8_roomOnTrip 5 = .ok (.iload 6, 2) := by decide +kernel
theorem dX8_roomOnTrip_7 : decode cX8_roomOnTrip 7 = .ok (.iload_n 2, 1) := by decide +kernel
theorem dX8_roomOnTrip_8 : decode cX8_roomOnTrip 8 = .ok (.if_icmp .lt 90, 3) := by decide +kernel
theorem dX8_roomOnTrip_11 : decode cX8_roomOnTrip 11 = .ok (.aload_n 0, 1) := by decide +kernel
theorem dX8_roomOnTrip_12 : decode cX8_roomOnTrip 12 = .ok (.getfield 23, 3) := by decide +kernel
theorem dX8_roomOnTrip_15 : decode cX8_roomOnTrip 15 = .ok (.iload 6, 2) := by decide +kernel
theorem dX8_roomOnTrip_17 : decode cX8_roomOnTrip 17 = .ok (.iconst 0, 1) := by decide +kernel
theorem dX8_roomOnTrip_18 : decode cX8_roomOnTrip 18 = .ok (.iastore, 1) := by decide +kernel
theorem dX8_roomOnTrip_19 : decode cX8_roomOnTrip 19 = .ok (.iconst 0, 1) := by decide +kernel
theorem dX8_roomOnTrip_20 : decode cX8_roomOnTrip 20 = .ok (.istore 7, 2) := by decide +kernel
theorem dX8_roomOnTrip_22 : decode cX8_roomOnTrip 22 = .ok (.iload 7, 2) := by decide +kernel
theorem dX8_roomOnTrip_24 : decode cX8_roomOnTrip 24 = .ok (.aload_n 0, 1) := by decide +kernel
theorem dX8_roomOnTrip_25 : decode cX8_roomOnTrip 25 = .ok (.getfield 26, 3) := by decide +kernel
theorem dX8_roomOnTrip_28 : decode cX8_roomOnTrip 28 = .ok (.getfield 49, 3) := by decide +kernel
theorem dX8_roomOnTrip_31 : decode cX8_roomOnTrip 31 = .ok (.if_icmp .ge 61, 3) := by decide +kernel
theorem dX8_roomOnTrip_34 : decode cX8_roomOnTrip 34 = .ok (.aload_n 0, 1) := by decide +kernel
theorem dX8_roomOnTrip_35 : decode cX8_roomOnTrip 35 = .ok (.getfield 20, 3) := by decide +kernel
theorem dX8_roomOnTrip_38 : decode cX8_roomOnTrip 38 = .ok (.iload 6, 2) := by decide +kernel
theorem dX8_roomOnTrip_40 : decode cX8_roomOnTrip 40 = .ok (.iaload, 1) := by decide +kernel
theorem dX8_roomOnTrip_41 : decode cX8_roomOnTrip 41 = .ok (.iload 7, 2) := by decide +kernel
theorem dX8_roomOnTrip_43 : decode cX8_roomOnTrip 43 = .ok (.ishr, 1) := by decide +kernel
theorem dX8_roomOnTrip_44 : decode cX8_roomOnTrip 44 = .ok (.iconst 1, 1) := by decide +kernel
theorem dX8_roomOnTrip_45 : decode cX8_roomOnTrip 45 = .ok (.iand, 1) := by decide +kernel
theorem dX8_roomOnTrip_46 : decode cX8_roomOnTrip 46 = .ok (.ifCond .eq 40, 3) := by decide +kernel
theorem dX8_roomOnTrip_49 : decode cX8_roomOnTrip 49 = .ok (.aload_n 0, 1) := by decide +kernel
theorem dX8_roomOnTrip_50 : decode cX8_roomOnTrip 50 = .ok (.iload 7, 2) := by decide +kernel
theorem dX8_roomOnTrip_52 : decode cX8_roomOnTrip 52 = .ok (.iload 6, 2) := by decide +kernel
theorem dX8_roomOnTrip_54 : decode cX8_roomOnTrip 54 = .ok (.iload 4, 2) := by decide +kernel
theorem dX8_roomOnTrip_56 : decode cX8_roomOnTrip 56 = .ok (.invokevirtual 60, 3) := by decide +kernel
theorem dX8_roomOnTrip_59 : decode cX8_roomOnTrip 59 = .ok (.aload_n 0, 1) := by decide +kernel
theorem dX8_roomOnTrip_60 : decode cX8_roomOnTrip 60 = .ok (.getfield 23, 3) := by decide +kernel
theorem dX8_roomOnTrip_63 : decode cX8_roomOnTrip 63 = .ok (.iload 6, 2) := by decide +kernel
theorem dX8_roomOnTrip_65 : decode cX8_roomOnTrip 65 = .ok (.iconst 1, 1) := by decide +kernel
theorem dX8_roomOnTrip_66 : decode cX8_roomOnTrip 66 = .ok (.iadd, 1) := by decide +kernel
theorem dX8_roomOnTrip_67 : decode cX8_roomOnTrip 67 = .ok (.iaload, 1) := by decide +kernel
theorem dX8_roomOnTrip_68 : decode cX8_roomOnTrip 68 = .ok (.iand, 1) := by decide +kernel
theorem dX8_roomOnTrip_69 : decode cX8_roomOnTrip 69 = .ok (.ifCond .eq 17, 3) := by decide +kernel
theorem dX8_roomOnTrip_72 : decode cX8_roomOnTrip 72 = .ok (.aload_n 0, 1) := by decide +kernel
theorem dX8_roomOnTrip_73 : decode cX8_roomOnTrip 73 = .ok (.getfield 23, 3) := by decide +kernel
theorem dX8_roomOnTrip_76 : decode cX8_roomOnTrip 76 = .ok (.iload 6, 2) := by decide +kernel
theorem dX8_roomOnTrip_78 : decode cX8_roomOnTrip 78 = .ok (.dup2, 1) := by decide +kernel
theorem dX8_roomOnTrip_79 : decode cX8_roomOnTrip 79 = .ok (.iaload, 1) := by decide +kernel
theorem dX8_roomOnTrip_80 : decode cX8_roomOnTrip 80 = .ok (.iconst 1, 1) := by decide +kernel
theorem dX8_roomOnTrip_81 : decode cX8_roomOnTrip 81 = .ok (.iload 7, 2) := by decide +kernel
theorem dX8_roomOnTrip_83 : decode cX8_roomOnTrip 83 = .ok (.ishl, 1) := by decide +kernel
theorem dX8_roomOnTrip_84 : decode cX8_roomOnTrip 84 = .ok (.ior, 1) := by decide +kernel
theorem dX8_roomOnTrip_85 : decode cX8_roomOnTrip 85 = .ok (.iastore, 1) := by decide +kernel
theorem dX8_roomOnTrip_86 : decode cX8_roomOnTrip 86 = .ok (.iinc 7 1, 3) := by decide +kernel
theorem dX8_roomOnTrip_89 : decode cX8_roomOnTrip 89 = .ok (.goto (-67), 3) := by decide +kernel
theorem dX8_roomOnTrip_92 : decode cX8_roomOnTrip 92 = .ok (.iinc 6 (-1), 3) := by decide +kernel
theorem dX8_roomOnTrip_95 : decode cX8_roomOnTrip 95 = .ok (.goto (-90), 3) := by decide +kernel
theorem dX8_roomOnTrip_98 : decode cX8_roomOnTrip 98 = .ok (.iload_n 1, 1) := by decide +kernel
theorem dX8_roomOnTrip_99 : decode cX8_roomOnTrip 99 = .ok (.istore 6, 2) := by decide +kernel
theorem dX8_roomOnTrip_101 : decode cX8_roomOnTrip 101 = .ok (.iload_n 2, 1) := by decide +kernel
theorem dX8_roomOnTrip_102 : decode cX8_roomOnTrip 102 = .ok (.istore 7, 2) := by decide +kernel
theorem dX8_roomOnTrip_104 : decode cX8_roomOnTrip 104 = .ok (.iload 7, 2) := by decide +kernel
theorem dX8_roomOnTrip_106 : decode cX8_roomOnTrip 106 = .ok (.iload 5, 2) := by decide +kernel
theorem dX8_roomOnTrip_108 : decode cX8_roomOnTrip 108 = .ok (.if_icmp .ge 35, 3) := by decide +kernel
theorem dX8_roomOnTrip_111 : decode cX8_roomOnTrip 111 = .ok (.aload_n 0, 1) := by decide +kernel
theorem dX8_roomOnTrip_112 : decode cX8_roomOnTrip 112 = .ok (.aload_n 0, 1) := by decide +kernel
theorem dX8_roomOnTrip_113 : decode cX8_roomOnTrip 113 = .ok (.iload 6, 2) := by decide +kernel
theorem dX8_roomOnTrip_115 : decode cX8_roomOnTrip 115 = .ok (.iload 7, 2) := by decide +kernel
theorem dX8_roomOnTrip_117 : decode cX8_roomOnTrip 117 = .ok (.iload 4, 2) := by decide +kernel
theorem dX8_roomOnTrip_119 : decode cX8_roomOnTrip 119 = .ok (.invokevirtual 60, 3) := by decide +kernel
theorem dX8_roomOnTrip_122 : decode cX8_roomOnTrip 122 = .ok (.aload_n 0, 1) := by decide +kernel
theorem dX8_roomOnTrip_123 : decode cX8_roomOnTrip 123 = .ok (.getfield 23, 3) := by decide +kernel
theorem dX8_roomOnTrip_126 : decode cX8_roomOnTrip 126 = .ok (.iload 7, 2) := by decide +kernel
theorem dX8_roomOnTrip_128 : decode cX8_roomOnTrip 128 = .ok (.iconst 1, 1) := by decide +kernel
theorem dX8_roomOnTrip_129 : decode cX8_roomOnTrip 129 = .ok (.iadd, 1) := by decide +kernel
theorem dX8_roomOnTrip_130 : decode cX8_roomOnTrip 130 = .ok (.iaload, 1) := by decide +kernel
theorem dX8_roomOnTrip_131 : decode cX8_roomOnTrip 131 = .ok (.iand, 1) := by decide +kernel
theorem dX8_roomOnTrip_132 : decode cX8_roomOnTrip 132 = .ok (.invokevirtual 74, 3) := by decide +kernel
theorem dX8_roomOnTrip_135 : decode cX8_roomOnTrip 135 = .ok (.istore 6, 2) := by decide +kernel
theorem dX8_roomOnTrip_137 : decode cX8_roomOnTrip 137 = .ok (.iinc 7 1, 3) := by decide +kernel
theorem dX8_roomOnTrip_140 : decode cX8_roomOnTrip 140 = .ok (.goto (-36), 3) := by decide +kernel
theorem dX8_roomOnTrip_143 : decode cX8_roomOnTrip 143 = .ok (.iload 6, 2) := by decide +kernel
theorem dX8_roomOnTrip_145 : decode cX8_roomOnTrip 145 = .ok (.ireturn, 1) := by decide +kernel
theorem dX8_lowest_0 : decode cX8_lowest 0 = .ok (.iconst 0, 1) := by decide +kernel
theorem dX8_lowest_1 : decode cX8_lowest 1 = .ok (.istore_n 2, 1) := by decide +kernel
theorem dX8_lowest_2 : decode cX8_lowest 2 = .ok (.iload_n 2, 1) := by decide +kernel
theorem dX8_lowest_3 : decode cX8_lowest 3 = .ok (.bipush 10, 2) := by decide +kernel
theorem dX8_lowest_5 : decode cX8_lowest 5 = .ok (.if_icmp .ge 19, 3) := by decide +kernel
theorem dX8_lowest_8 : decode cX8_lowest 8 = .ok (.iload_n 1, 1) := by decide +kernel
theorem dX8_lowest_9 : decode cX8_lowest 9 = .ok (.iload_n 2, 1) := by decide +kernel
theorem dX8_lowest_10 : decode cX8_lowest 10 = .ok (.ishr, 1) := by decide +kernel
theorem dX8_lowest_11 : decode cX8_lowest 11 = .ok (.iconst 1, 1) := by decide +kernel
theorem dX8_lowest_12 : decode cX8_lowest 12 = .ok (.iand, 1) := by decide +kernel
theorem dX8_lowest_13 : decode cX8_lowest 13 = .ok (.ifCond .eq 5, 3) := by decide +kernel
theorem dX8_lowest_16 : decode cX8_lowest 16 = .ok (.iload_n 2, 1) := by decide +kernel
theorem dX8_lowest_17 : decode cX8_lowest 17 = .ok (.ireturn, 1) := by decide +kernel
theorem dX8_lowest_18 : decode cX8_lowest 18 = .ok (.iinc 2 1, 3) := by decide +kernel
theorem dX8_lowest_21 : decode cX8_lowest 21 = .ok (.goto (-19), 3) := by decide +kernel
theorem dX8_lowest_24 : decode cX8_lowest 24 = .ok (.iconst 0, 1) := by decide +kernel
theorem dX8_lowest_25 : decode cX8_lowest 25 = .ok (.ireturn, 1) := by decide +kernel
theorem dJ6_bitCount_0f7a4_0 : decode cJ6_bitCount_0f7a4 0 = .ok (.iload_n 0, 1) := by decide +kernel
theorem dJ6_bitCount_0f7a4_1 : decode cJ6_bitCount_0f7a4 1 = .ok (.iload_n 0, 1) := by decide +kernel
theorem dJ6_bitCount_0f7a4_2 : decode cJ6_bitCount_0f7a4 2 = .ok (.iconst 1, 1) := by decide +kernel
theorem dJ6_bitCount_0f7a4_3 : decode cJ6_bitCount_0f7a4 3 = .ok (.iushr, 1) := by decide +kernel
theorem dJ6_bitCount_0f7a4_4 : decode cJ6_bitCount_0f7a4 4 = .ok (.ldc_w 265, 3) := by decide +kernel
theorem dJ6_bitCount_0f7a4_7 : decode cJ6_bitCount_0f7a4 7 = .ok (.iand, 1) := by decide +kernel
theorem dJ6_bitCount_0f7a4_8 : decode cJ6_bitCount_0f7a4 8 = .ok (.isub, 1) := by decide +kernel
theorem dJ6_bitCount_0f7a4_9 : decode cJ6_bitCount_0f7a4 9 = .ok (.istore_n 0, 1) := by decide +kernel
theorem dJ6_bitCount_0f7a4_10 : decode cJ6_bitCount_0f7a4 10 = .ok (.iload_n 0, 1) := by decide +kernel
theorem dJ6_bitCount_0f7a4_11 : decode cJ6_bitCount_0f7a4 11 = .ok (.ldc_w 266, 3) := by decide +kernel
theorem dJ6_bitCount_0f7a4_14 : decode cJ6_bitCount_0f7a4 14 = .ok (.iand, 1) := by decide +kernel
theorem dJ6_bitCount_0f7a4_15 : decode cJ6_bitCount_0f7a4 15 = .ok (.iload_n 0, 1) := by decide +kernel
theorem dJ6_bitCount_0f7a4_16 : decode cJ6_bitCount_0f7a4 16 = .ok (.iconst 2, 1) := by decide +kernel
theorem dJ6_bitCount_0f7a4_17 : decode cJ6_bitCount_0f7a4 17 = .ok (.iushr, 1) := by decide +kernel
theorem dJ6_bitCount_0f7a4_18 : decode cJ6_bitCount_0f7a4 18 = .ok (.ldc_w 266, 3) := by decide +kernel
theorem dJ6_bitCount_0f7a4_21 : decode cJ6_bitCount_0f7a4 21 = .ok (.iand, 1) := by decide +kernel
theorem dJ6_bitCount_0f7a4_22 : decode cJ6_bitCount_0f7a4 22 = .ok (.iadd, 1) := by decide +kernel
theorem dJ6_bitCount_0f7a4_23 : decode cJ6_bitCount_0f7a4 23 = .ok (.istore_n 0, 1) := by decide +kernel
theorem dJ6_bitCount_0f7a4_24 : decode cJ6_bitCount_0f7a4 24 = .ok (.iload_n 0, 1) := by decide +kernel
theorem dJ6_bitCount_0f7a4_25 : decode cJ6_bitCount_0f7a4 25 = .ok (.iload_n 0, 1) := by decide +kernel
theorem dJ6_bitCount_0f7a4_26 : decode cJ6_bitCount_0f7a4 26 = .ok (.iconst 4, 1) := by decide +kernel
theorem dJ6_bitCount_0f7a4_27 : decode cJ6_bitCount_0f7a4 27 = .ok (.iushr, 1) := by decide +kernel
theorem dJ6_bitCount_0f7a4_28 : decode cJ6_bitCount_0f7a4 28 = .ok (.iadd, 1) := by decide +kernel
theorem dJ6_bitCount_0f7a4_29 : decode cJ6_bitCount_0f7a4 29 = .ok (.ldc_w 267, 3) := by decide +kernel
theorem dJ6_bitCount_0f7a4_32 : decode cJ6_bitCount_0f7a4 32 = .ok (.iand, 1) := by decide +kernel
theorem dJ6_bitCount_0f7a4_33 : decode cJ6_bitCount_0f7a4 33 = .ok (.istore_n 0, 1) := by decide +kernel
theorem dJ6_bitCount_0f7a4_34 : decode cJ6_bitCount_0f7a4 34 = .ok (.iload_n 0, 1) := by decide +kernel
theorem dJ6_bitCount_0f7a4_35 : decode cJ6_bitCount_0f7a4 35 = .ok (.iload_n 0, 1) := by decide +kernel
theorem dJ6_bitCount_0f7a4_36 : decode cJ6_bitCount_0f7a4 36 = .ok (.bipush 8, 2) := by decide +kernel
theorem dJ6_bitCount_0f7a4_38 : decode cJ6_bitCount_0f7a4 38 = .ok (.iushr, 1) := by decide +kernel
theorem dJ6_bitCount_0f7a4_39 : decode cJ6_bitCount_0f7a4 39 = .ok (.iadd, 1) := by decide +kernel
theorem dJ6_bitCount_0f7a4_40 : decode cJ6_bitCount_0f7a4 40 = .ok (.istore_n 0, 1) := by decide +kernel
theorem dJ6_bitCount_0f7a4_41 : decode cJ6_bitCount_0f7a4 41 = .ok (.iload_n 0, 1) := by decide +kernel
theorem dJ6_bitCount_0f7a4_42 : decode cJ6_bitCount_0f7a4 42 = .ok (.iload_n 0, 1) := by decide +kernel
theorem dJ6_bitCount_0f7a4_43 : decode cJ6_bitCount_0f7a4 43 = .ok (.bipush 16, 2) := by decide +kernel
theorem dJ6_bitCount_0f7a4_45 : decode cJ6_bitCount_0f7a4 45 = .ok (.iushr, 1) := by decide +kernel
theorem dJ6_bitCount_0f7a4_46 : decode cJ6_bitCount_0f7a4 46 = .ok (.iadd, 1) := by decide +kernel
theorem dJ6_bitCount_0f7a4_47 : decode cJ6_bitCount_0f7a4 47 = .ok (.istore_n 0, 1) := by decide +kernel
theorem dJ6_bitCount_0f7a4_48 : decode cJ6_bitCount_0f7a4 48 = .ok (.iload_n 0, 1) := by decide +kernel
theorem dJ6_bitCount_0f7a4_49 : decode cJ6_bitCount_0f7a4 49 = .ok (.bipush 63, 2) := by decide +kernel
theorem dJ6_bitCount_0f7a4_51 : decode cJ6_bitCount_0f7a4 51 = .ok (.iand, 1) := by decide +kernel
theorem dJ6_bitCount_0f7a4_52 : decode cJ6_bitCount_0f7a4 52 = .ok (.ireturn, 1) := by decide +kernel
theorem dJ9_max_7cf53_0 : decode cJ9_max_7cf53 0 = .ok (.iload_n 0, 1) := by decide +kernel
theorem dJ9_max_7cf53_1 : decode cJ9_max_7cf53 1 = .ok (.iload_n 1, 1) := by decide +kernel
theorem dJ9_max_7cf53_2 : decode cJ9_max_7cf53 2 = .ok (.if_icmp .lt 7, 3) := by decide +kernel
theorem dJ9_max_7cf53_5 : decode cJ9_max_7cf53 5 = .ok (.iload_n 0, 1) := by decide +kernel
theorem dJ9_max_7cf53_6 : decode cJ9_max_7cf53 6 = .ok (.goto 4, 3) := by decide +kernel
theorem dJ9_max_7cf53_9 : decode cJ9_max_7cf53 9 = .ok (.iload_n 1, 1) := by decide +kernel
theorem dJ9_max_7cf53_10 : decode cJ9_max_7cf53 10 = .ok (.ireturn, 1) := by decide +kernel
theorem dJ9_min_7cf53_0 : decode cJ9_min_7cf53 0 = .ok (.iload_n 0, 1) := by decide +kernel
theorem dJ9_min_7cf53_1 : decode cJ9_min_7cf53 1 = .ok (.iload_n 1, 1) := by decide +kernel
theorem dJ9_min_7cf53_2 : decode cJ9_min_7cf53 2 = .ok (.if_icmp .gt 7, 3) := by decide +kernel
theorem dJ9_min_7cf53_5 : decode cJ9_min_7cf53 5 = .ok (.iload_n 0, 1) := by decide +kernel
theorem dJ9_min_7cf53_6 : decode cJ9_min_7cf53 6 = .ok (.goto 4, 3) := by decide +kernel
theorem dJ9_min_7cf53_9 : decode cJ9_min_7cf53 9 = .ok (.iload_n 1, 1) := by decide +kernel
theorem dJ9_min_7cf53_10 : decode cJ9_min_7cf53 10 = .ok (.ireturn, 1) := by decide +kernel
theorem dJ7_rangeCheck_23922_0 : decode cJ7_rangeCheck_23922 0 = .ok (.iload_n 1, 1) := by decide +kernel
theorem dJ7_rangeCheck_23922_1 : decode cJ7_rangeCheck_23922 1 = .ok (.iload_n 2, 1) := by decide +kernel
theorem dJ7_rangeCheck_23922_2 : decode cJ7_rangeCheck_23922 2 = .ok (.if_icmp .le 44, 3) := by decide +kernel
theorem dJ7_rangeCheck_23922_5 : decode cJ7_rangeCheck_23922 5 = .ok (.new 43, 3) := by decide +kernel
theorem dJ7_rangeCheck_23922_8 : decode cJ7_rangeCheck_23922 8 = .ok (.dup, 1) := by decide +kernel
theorem dJ7_rangeCheck_23922_9 : decode cJ7_rangeCheck_23922 9 = .ok (.new 45, 3) := by decide +kernel
theorem dJ7_rangeCheck_23922_12 : decode cJ7_rangeCheck_23922 12 = .ok (.dup, 1) := by decide +kernel
theorem dJ7_rangeCheck_23922_13 : decode cJ7_rangeCheck_23922 13 = .ok (.invokespecial 47, 3) := by decide +kernel
theorem dJ7_rangeCheck_23922_16 : decode cJ7_rangeCheck_23922 16 = .ok (.ldc 48, 2) := by decide +kernel
theorem dJ7_rangeCheck_23922_18 : decode cJ7_rangeCheck_23922 18 = .ok (.invokevirtual 50, 3) := by decide +kernel
theorem dJ7_rangeCheck_23922_21 : decode cJ7_rangeCheck_23922 21 = .ok (.iload_n 1, 1) := by decide +kernel
theorem dJ7_rangeCheck_23922_22 : decode cJ7_rangeCheck_23922 22 = .ok (.invokevirtual 54, 3) := by decide +kernel
theorem dJ7_rangeCheck_23922_25 : decode cJ7_rangeCheck_23922 25 = .ok (.ldc 57, 2) := by decide +kernel
theorem dJ7_rangeCheck_23922_27 : decode cJ7_rangeCheck_23922 27 = .ok (.invokevirtual 50, 3) := by decide +kernel
theorem dJ7_rangeCheck_23922_30 : decode cJ7_rangeCheck_23922 30 = .ok (.iload_n 2, 1) := by decide +kernel
theorem dJ7_rangeCheck_23922_31 : decode cJ7_rangeCheck_23922 31 = .ok (.invokevirtual 54, 3) := by decide +kernel
theorem dJ7_rangeCheck_23922_34 : decode cJ7_rangeCheck_23922 34 = .ok (.ldc 59, 2) := by decide +kernel
theorem dJ7_rangeCheck_23922_36 : decode cJ7_rangeCheck_23922 36 = .ok (.invokevirtual 50, 3) := by decide +kernel
theorem dJ7_rangeCheck_23922_39 : decode cJ7_rangeCheck_23922 39 = .ok (.invokevirtual 61, 3) := by decide +kernel
theorem dJ7_rangeCheck_23922_42 : decode cJ7_rangeCheck_23922 42 = .ok (.invokespecial 65, 3) := by decide +kernel
theorem dJ7_rangeCheck_23922_45 : decode cJ7_rangeCheck_23922 45 = .ok (.athrow, 1) := by decide +kernel
theorem dJ7_rangeCheck_23922_46 : decode cJ7_rangeCheck_23922 46 = .ok (.iload_n 1, 1) := by decide +kernel
theorem dJ7_rangeCheck_23922_47 : decode cJ7_rangeCheck_23922 47 = .ok (.ifCond .ge 12, 3) := by decide +kernel
theorem dJ7_rangeCheck_23922_50 : decode cJ7_rangeCheck_23922 50 = .ok (.new 68, 3) := by decide +kernel
theorem dJ7_rangeCheck_23922_53 : decode cJ7_rangeCheck_23922 53 = .ok (.dup, 1) := by decide +kernel
theorem dJ7_rangeCheck_23922_54 : decode cJ7_rangeCheck_23922 54 = .ok (.iload_n 1, 1) := by decide +kernel
theorem dJ7_rangeCheck_23922_55 : decode cJ7_rangeCheck_23922 55 = .ok (.invokespecial 70, 3) := by decide +kernel
theorem dJ7_rangeCheck_23922_58 : decode cJ7_rangeCheck_23922 58 = .ok (.athrow, 1) := by decide +kernel
theorem dJ7_rangeCheck_23922_59 : decode cJ7_rangeCheck_23922 59 = .ok (.iload_n 2, 1) := by decide +kernel
theorem dJ7_rangeCheck_23922_60 : decode cJ7_rangeCheck_23922 60 = .ok (.iload_n 0, 1) := by decide +kernel
theorem dJ7_rangeCheck_23922_61 : decode cJ7_rangeCheck_23922 61 = .ok (.if_icmp .le 12, 3) := by decide +kernel
theorem dJ7_rangeCheck_23922_64 : decode cJ7_rangeCheck_23922 64 = .ok (.new 68, 3) := by decide +kernel
theorem dJ7_rangeCheck_23922_67 : decode cJ7_rangeCheck_23922 67 = .ok (.dup, 1) := by decide +kernel
theorem dJ7_rangeCheck_23922_68 : decode cJ7_rangeCheck_23922 68 = .ok (.iload_n 2, 1) := by decide +kernel
theorem dJ7_rangeCheck_23922_69 : decode cJ7_rangeCheck_23922 69 = .ok (.invokespecial 70, 3) := by decide +kernel
theorem dJ7_rangeCheck_23922_72 : decode cJ7_rangeCheck_23922 72 = .ok (.athrow, 1) := by decide +kernel
theorem dJ7_rangeCheck_23922_73 : decode cJ7_rangeCheck_23922 73 = .ok (.return_, 1) := by decide +kernel
theorem dJ7_fill_53178_0 : decode cJ7_fill_53178 0 = .ok (.iconst 0, 1) := by decide +kernel
theorem dJ7_fill_53178_1 : decode cJ7_fill_53178 1 = .ok (.istore_n 2, 1) := by decide +kernel
theorem dJ7_fill_53178_2 : decode cJ7_fill_53178 2 = .ok (.aload_n 0, 1) := by decide +kernel
theorem dJ7_fill_53178_3 : decode cJ7_fill_53178 3 = .ok (.arraylength, 1) := by decide +kernel
theorem dJ7_fill_53178_4 : decode cJ7_fill_53178 4 = .ok (.istore_n 3, 1) := by decide +kernel
theorem dJ7_fill_53178_5 : decode cJ7_fill_53178 5 = .ok (.iload_n 2, 1) := by decide +kernel
theorem dJ7_fill_53178_6 : decode cJ7_fill_53178 6 = .ok (.iload_n 3, 1) := by decide +kernel
theorem dJ7_fill_53178_7 : decode cJ7_fill_53178 7 = .ok (.if_icmp .ge 13, 3) := by decide +kernel
theorem dJ7_fill_53178_10 : decode cJ7_fill_53178 10 = .ok (.aload_n 0, 1) := by decide +kernel
theorem dJ7_fill_53178_11 : decode cJ7_fill_53178 11 = .ok (.iload_n 2, 1) := by decide +kernel
theorem dJ7_fill_53178_12 : decode cJ7_fill_53178 12 = .ok (.iload_n 1, 1) := by decide +kernel
theorem dJ7_fill_53178_13 : decode cJ7_fill_53178 13 = .ok (.iastore, 1) := by decide +kernel
theorem dJ7_fill_53178_14 : decode cJ7_fill_53178 14 = .ok (.iinc 2 1, 3) := by decide +kernel
theorem dJ7_fill_53178_17 : decode cJ7_fill_53178 17 = .ok (.goto (-12), 3) := by decide +kernel
theorem dJ7_fill_53178_20 : decode cJ7_fill_53178 20 = .ok (.return_, 1) := by decide +kernel
theorem dJ7_fill_fda19_0 : decode cJ7_fill_fda19 0 = .ok (.aload_n 0, 1) := by decide +kernel
theorem dJ7_fill_fda19_1 : decode cJ7_fill_fda19 1 = .ok (.arraylength, 1) := by decide +kernel
theorem dJ7_fill_fda19_2 : decode cJ7_fill_fda19 2 = .ok (.iload_n 1, 1) := by decide +kernel
theorem dJ7_fill_fda19_3 : decode cJ7_fill_fda19 3 = .ok (.iload_n 2, 1) := by decide +kernel
theorem dJ7_fill_fda19_4 : decode cJ7_fill_fda19 4 = .ok (.invokestatic 13, 3) := by decide +kernel
theorem dJ7_fill_fda19_7 : decode cJ7_fill_fda19 7 = .ok (.iload_n 1, 1) := by decide +kernel
theorem dJ7_fill_fda19_8 : decode cJ7_fill_fda19 8 = .ok (.istore 4, 2) := by decide +kernel
theorem dJ7_fill_fda19_10 : decode cJ7_fill_fda19 10 = .ok (.iload 4, 2) := by decide +kernel
theorem dJ7_fill_fda19_12 : decode cJ7_fill_fda19 12 = .ok (.iload_n 2, 1) := by decide +kernel
theorem dJ7_fill_fda19_13 : decode cJ7_fill_fda19 13 = .ok (.if_icmp .ge 14, 3) := by decide +kernel
theorem dJ7_fill_fda19_16 : decode cJ7_fill_fda19 16 = .ok (.aload_n 0, 1) := by decide +kernel
theorem dJ7_fill_fda19_17 : decode cJ7_fill_fda19 17 = .ok (.iload 4, 2) := by decide +kernel
theorem dJ7_fill_fda19_19 : decode cJ7_fill_fda19 19 = .ok (.iload_n 3, 1) := by decide +kernel
theorem dJ7_fill_fda19_20 : decode cJ7_fill_fda19 20 = .ok (.iastore, 1) := by decide +kernel
theorem dJ7_fill_fda19_21 : decode cJ7_fill_fda19 21 = .ok (.iinc 4 1, 3) := by decide +kernel
theorem dJ7_fill_fda19_24 : decode cJ7_fill_fda19 24 = .ok (.goto (-14), 3) := by decide +kernel
theorem dJ7_fill_fda19_27 : decode cJ7_fill_fda19 27 = .ok (.return_, 1) := by decide +kernel
