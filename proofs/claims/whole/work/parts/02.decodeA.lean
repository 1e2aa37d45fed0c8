theorem dX0_init_0 : decode cX0_init 0 = .ok (.aload_n 0, 1) := by decide +kernel
theorem dX0_init_1 : decode cX0_init 1 = .ok (.invokespecial 3, 3) := by decide +kernel
theorem dX0_init_4 : decode cX0_init 4 = .ok (.aload_n 0, 1) := by decide +kernel
theorem dX0_init_5 : decode cX0_init 5 = .ok (.bipush 8, 2) := by decide +kernel
theorem dX0_init_7 : decode cX0_init 7 = .ok (.anewarray 9, 3) := by decide +kernel
theorem dX0_init_10 : decode cX0_init 10 = .ok (.putfield 11, 3) := by decide +kernel
theorem dX0_init_13 : decode cX0_init 13 = .ok (.iconst 0, 1) := by decide +kernel
theorem dX0_init_14 : decode cX0_init 14 = .ok (.istore_n 1, 1) := by decide +kernel
theorem dX0_init_15 : decode cX0_init 15 = .ok (.iload_n 1, 1) := by decide +kernel
theorem dX0_init_16 : decode cX0_init 16 = .ok (.bipush 8, 2) := by decide +kernel
theorem dX0_init_18 : decode cX0_init 18 = .ok (.if_icmp .ge 22, 3) := by decide +kernel
theorem dX0_init_21 : decode cX0_init 21 = .ok (.aload_n 0, 1) := by decide +kernel
theorem dX0_init_22 : decode cX0_init 22 = .ok (.getfield 11, 3) := by decide +kernel
theorem dX0_init_25 : decode cX0_init 25 = .ok (.iload_n 1, 1) := by decide +kernel
theorem dX0_init_26 : decode cX0_init 26 = .ok (.new 9, 3) := by decide +kernel
theorem dX0_init_29 : decode cX0_init 29 = .ok (.dup, 1) := by decide +kernel
theorem dX0_init_30 : decode cX0_init 30 = .ok (.invokespecial 17, 3) := by decide +kernel
theorem dX0_init_33 : decode cX0_init 33 = .ok (.aastore, 1) := by decide +kernel
theorem dX0_init_34 : decode cX0_init 34 = .ok (.iinc 1 1, 3) := by decide +kernel
theorem dX0_init_37 : decode cX0_init 37 = .ok (.goto (-22), 3) := by decide +kernel
theorem dX0_init_40 : decode cX0_init 40 = .ok (.return_, 1) := by decide +kernel
theorem dX0_copyFrom_0 : decode cX0_copyFrom 0 = .ok (.aload_n 0, 1) := by decide +kernel
theorem dX0_copyFrom_1 : decode cX0_copyFrom 1 = .ok (.aload_n 1, 1) := by decide +kernel
theorem dX0_copyFrom_2 : decode cX0_copyFrom 2 = .ok (.getfield 18, 3) := by decide +kernel
theorem dX0_copyFrom_5 : decode cX0_copyFrom 5 = .ok (.putfield 18, 3) := by decide +kernel
theorem dX0_copyFrom_8 : decode cX0_copyFrom 8 = .ok (.aload_n 0, 1) := by decide +kernel
theorem dX0_copyFrom_9 : decode cX0_copyFrom 9 = .ok (.aload_n 1, 1) := by decide +kernel
theorem dX0_copyFrom_10 : decode cX0_copyFrom 10 = .ok (.getfield 22, 3) := by decide +kernel
theorem dX0_copyFrom_13 : decode cX0_copyFrom 13 = .ok (.putfield 22, 3) := by decide +kernel
theorem dX0_copyFrom_16 : decode cX0_copyFrom 16 = .ok (.aload_n 0, 1) := by decide +kernel
theorem dX0_copyFrom_17 : decode cX0_copyFrom 17 = .ok (.aload_n 1, 1) := by decide +kernel
theorem dX0_copyFrom_18 : decode cX0_copyFrom 18 = .ok (.getfield 25, 3) := by decide +kernel
theorem dX0_copyFrom_21 : decode cX0_copyFrom 21 = .ok (.putfield 25, 3) := by decide +kernel
theorem dX0_copyFrom_24 : decode cX0_copyFrom 24 = .ok (.iconst 0, 1) := by decide +kernel
theorem dX0_copyFrom_25 : decode cX0_copyFrom 25 = .ok (.istore_n 2, 1) := by decide +kernel
theorem dX0_copyFrom_26 : decode cX0_copyFrom 26 = .ok (.iload_n 2, 1) := by decide +kernel
theorem dX0_copyFrom_27 : decode cX0_copyFrom 27 = .ok (.aload_n 0, 1) := by decide +kernel
theorem dX0_copyFrom_28 : decode cX0_copyFrom 28 = .ok (.getfield 18, 3) := by decide +kernel
theorem dX0_copyFrom_31 : decode cX0_copyFrom 31 = .ok (.if_icmp .ge 24, 3) := by decide +kernel
theorem dX0_copyFrom_34 : decode cX0_copyFrom 34 = .ok (.aload_n 0, 1) := by decide +kernel
theorem dX0_copyFrom_35 : decode cX0_copyFrom 35 = .ok (.getfield 11, 3) := by decide +kernel
theorem dX0_copyFrom_38 : decode cX0_copyFrom 38 = .ok (.iload_n 2, 1) := by decide +kernel
theorem dX0_copyFrom_39 : decode cX0_copyFrom 39 = .ok (.aaload, 1) := by decide +kernel
theorem dX0_copyFrom_40 : decode cX0_copyFrom 40 = .ok (.aload_n 1, 1) := by decide +kernel
theorem dX0_copyFrom_41 : decode cX0_copyFrom 41 = .ok (.getfield 11, 3) := by decide +kernel
theorem dX0_copyFrom_44 : decode cX0_copyFrom 44 = .ok (.iload_n 2, 1) := by decide +kernel
theorem dX0_copyFrom_45 : decode cX0_copyFrom 45 = .ok (.aaload, 1) := by decide +kernel
theorem dX0_copyFrom_46 : decode cX0_copyFrom 46 = .ok (.invokevirtual 28, 3) := by decide +kernel
theorem dX0_copyFrom_49 : decode cX0_copyFrom 49 = .ok (.iinc 2 1, 3) := by decide +kernel
theorem dX0_copyFrom_52 : decode cX0_copyFrom 52 = .ok (.goto (-26), 3) := by decide +kernel
theorem dX0_copyFrom_55 : decode cX0_copyFrom 55 = .ok (.return_, 1) := by decide +kernel
theorem dX0_goOn_0 : decode cX0_goOn 0 = .ok (.iconst 0, 1) := by decide +kernel
theorem dX0_goOn_1 : decode cX0_goOn 1 = .ok (.istore_n 2, 1) := by decide +kernel
theorem dX0_goOn_2 : decode cX0_goOn 2 = .ok (.iload_n 2, 1) := by decide +kernel
theorem dX0_goOn_3 : decode cX0_goOn 3 = .ok (.aload_n 0, 1) := by decide +kernel
theorem dX0_goOn_4 : decode cX0_goOn 4 = .ok (.getfield 18, 3) := by decide +kernel
theorem dX0_goOn_7 : decode cX0_goOn 7 = .ok (.if_icmp .ge 104, 3) := by decide +kernel
theorem dX0_goOn_10 : decode cX0_goOn 10 = .ok (.aload_n 0, 1) := by decide +kernel
theorem dX0_goOn_11 : decode cX0_goOn 11 = .ok (.getfield 11, 3) := by decide +kernel
theorem dX0_goOn_14 : decode cX0_goOn 14 = .ok (.iload_n 2, 1) := by decide +kernel
theorem dX0_goOn_15 : decode cX0_goOn 15 = .ok (.aaload, 1) := by decide +kernel
theorem dX0_goOn_16 : decode cX0_goOn 16 = .ok (.astore_n 3, 1) := by decide +kernel
theorem dX0_goOn_17 : decode cX0_goOn 17 = .ok (.aload_n 3, 1) := by decide +kernel
theorem dX0_goOn_18 : decode cX0_goOn 18 = .ok (.getfield 32, 3) := by decide +kernel
theorem dX0_goOn_21 : decode cX0_goOn 21 = .ok (.istore 4, 2) := by decide +kernel
theorem dX0_goOn_23 : decode cX0_goOn 23 = .ok (.aload_n 3, 1) := by decide +kernel
theorem dX0_goOn_24 : decode cX0_goOn 24 = .ok (.aload_n 1, 1) := by decide +kernel
theorem dX0_goOn_25 : decode cX0_goOn 25 = .ok (.aload_n 3, 1) := by decide +kernel
theorem dX0_goOn_26 : decode cX0_goOn 26 = .ok (.invokevirtual 35, 3) := by decide +kernel
theorem dX0_goOn_29 : decode cX0_goOn 29 = .ok (.invokevirtual 41, 3) := by decide +kernel
theorem dX0_goOn_32 : decode cX0_goOn 32 = .ok (.pop, 1) := by decide +kernel
theorem dX0_goOn_33 : decode cX0_goOn 33 = .ok (.aload_n 3, 1) := by decide +kernel
theorem dX0_goOn_34 : decode cX0_goOn 34 = .ok (.getfield 32, 3) := by decide +kernel
theorem dX0_goOn_37 : decode cX0_goOn 37 = .ok (.iload 4, 2) := by decide +kernel
theorem dX0_goOn_39 : decode cX0_goOn 39 = .ok (.if_icmp .eq 66, 3) := by decide +kernel
theorem dX0_goOn_42 : decode cX0_goOn 42 = .ok (.aload_n 3, 1) := by decide +kernel
theorem dX0_goOn_43 : decode cX0_goOn 43 = .ok (.getfield 32, 3) := by decide +kernel
theorem dX0_goOn_46 : decode cX0_goOn 46 = .ok (.ifCond .eq 12, 3) := by decide +kernel
theorem dX0_goOn_49 : decode cX0_goOn 49 = .ok (.aload_n 3, 1) := by decide +kernel
theorem dX0_goOn_50 : decode cX0_goOn 50 = .ok (.getfield 32, 3) := by decide +kernel
theorem dX0_goOn_53 : decode cX0_goOn 53 = .ok (.bipush 40, 2) := by decide +kernel
theorem dX0_goOn_55 : decode cX0_goOn 55 = .ok (.if_icmp .ne 50, 3) := by decide +kernel
theorem dX0_goOn_58 : decode cX0_goOn 58 = .ok (.aload_n 1, 1) := by decide +kernel
theorem dX0_goOn_59 : decode cX0_goOn 59 = .ok (.getfield 45, 3) := by decide +kernel
theorem dX0_goOn_62 : decode cX0_goOn 62 = .ok (.aload_n 3, 1) := by decide +kernel
theorem dX0_goOn_63 : decode cX0_goOn 63 = .ok (.getfield 32, 3) := by decide +kernel
theorem dX0_goOn_66 : decode cX0_goOn 66 = .ok (.ifCond .ne 7, 3) := by decide +kernel
theorem dX0_goOn_69 : decode cX0_goOn 69 = .ok (.iconst 0, 1) := by decide +kernel
theorem dX0_goOn_70 : decode cX0_goOn 70 = .ok (.goto 4, 3) := by decide +kernel
theorem dX0_goOn_73 : decode cX0_goOn 73 = .ok (.iconst 1, 1) := by decide +kernel
theorem dX0_goOn_74 : decode cX0_goOn 74 = .ok (.aload_n 3, 1) := by decide +kernel
theorem dX0_goOn_75 : decode cX0_goOn 75 = .ok (.invokevirtual 49, 3) := by decide +kernel
theorem dX0_goOn_78 : decode cX0_goOn 78 = .ok (.aload_n 0, 1) := by decide +kernel
theorem dX0_goOn_79 : decode cX0_goOn 79 = .ok (.getfield 22, 3) := by decide +kernel
theorem dX0_goOn_82 : decode cX0_goOn 82 = .ok (.invokevirtual 53, 3) := by decide +kernel
theorem dX0_goOn_85 : decode cX0_goOn 85 = .ok (.istore 5, 2) := by decide +kernel
theorem dX0_goOn_87 : decode cX0_goOn 87 = .ok (.aload_n 0, 1) := by decide +kernel
theorem dX0_goOn_88 : decode cX0_goOn 88 = .ok (.aload_n 0, 1) := by decide +kernel
theorem dX0_goOn_89 : decode cX0_goOn 89 = .ok (.getfield 25, 3) := by decide +kernel
theorem dX0_goOn_92 : decode cX0_goOn 92 = .ok (.iload 5, 2) := by decide +kernel
theorem dX0_goOn_94 : decode cX0_goOn 94 = .ok (.iadd, 1) := by decide +kernel
theorem dX0_goOn_95 : decode cX0_goOn 95 = .ok (.ldc 59, 2) := by decide +kernel
theorem dX0_goOn_97 : decode cX0_goOn 97 = .ok (.ldc 60, 2) := by decide +kernel
theorem dX0_goOn_99 : decode cX0_goOn 99 = .ok (.invokestatic 61, 3) := by decide +kernel
theorem dX0_goOn_102 : decode cX0_goOn 102 = .ok (.putfield 25, 3) := by decide +kernel
theorem dX0_goOn_105 : decode cX0_goOn 105 = .ok (.iinc 2 1, 3) := by decide +kernel
theorem dX0_goOn_108 : decode cX0_goOn 108 = .ok (.goto (-106), 3) := by decide +kernel
theorem dX0_goOn_111 : decode cX0_goOn 111 = .ok (.aload_n 0, 1) := by decide +kernel
theorem dX0_goOn_112 : decode cX0_goOn 112 = .ok (.dup, 1) := by decide +kernel
theorem dX0_goOn_113 : decode cX0_goOn 113 = .ok (.getfield 22, 3) := by decide +kernel
theorem dX0_goOn_116 : decode cX0_goOn 116 = .ok (.iconst 1, 1) := by decide +kernel
theorem dX0_goOn_117 : decode cX0_goOn 117 = .ok (.iadd, 1) := by decide +kernel
theorem dX0_goOn_118 : decode cX0_goOn 118 = .ok (.putfield 22, 3) := by decide +kernel
theorem dX0_goOn_121 : decode cX0_goOn 121 = .ok (.return_, 1) := by decide +kernel
theorem dX0_quake_0 : decode cX0_quake 0 = .ok (.iconst 0, 1) := by decide +kernel
theorem dX0_quake_1 : decode cX0_quake 1 = .ok (.istore_n 2, 1) := by decide +kernel
theorem dX0_quake_2 : decode cX0_quake 2 = .ok (.iload_n 2, 1) := by decide +kernel
theorem dX0_quake_3 : decode cX0_quake 3 = .ok (.aload_n 0, 1) := by decide +kernel
theorem dX0_quake_4 : decode cX0_quake 4 = .ok (.getfield 18, 3) := by decide +kernel
theorem dX0_quake_7 : decode cX0_quake 7 = .ok (.if_icmp .ge 26, 3) := by decide +kernel
theorem dX0_quake_10 : decode cX0_quake 10 = .ok (.aload_n 0, 1) := by decide +kernel
theorem dX0_quake_11 : decode cX0_quake 11 = .ok (.getfield 11, 3) := by decide +kernel
theorem dX0_quake_14 : decode cX0_quake 14 = .ok (.iload_n 2, 1) := by decide +kernel
theorem dX0_quake_15 : decode cX0_quake 15 = .ok (.aaload, 1) := by decide +kernel
theorem dX0_quake_16 : decode cX0_quake 16 = .ok (.aload_n 1, 1) := by decide +kernel
theorem dX0_quake_17 : decode cX0_quake 17 = .ok (.invokevirtual 64, 3) := by decide +kernel
theorem dX0_quake_20 : decode cX0_quake 20 = .ok (.iconst 3, 1) := by decide +kernel
theorem dX0_quake_21 : decode cX0_quake 21 = .ok (.irem, 1) := by decide +kernel
theorem dX0_quake_22 : decode cX0_quake 22 = .ok (.iconst 1, 1) := by decide +kernel
theorem dX0_quake_23 : decode cX0_quake 23 = .ok (.isub, 1) := by decide +kernel
theorem dX0_quake_24 : decode cX0_quake 24 = .ok (.invokevirtual 67, 3) := by decide +kernel
theorem dX0_quake_27 : decode cX0_quake 27 = .ok (.iinc 2 1, 3) := by decide +kernel
theorem dX0_quake_30 : decode cX0_quake 30 = .ok (.goto (-28), 3) := by decide +kernel
theorem dX0_quake_33 : decode cX0_quake 33 = .ok (.return_, 1) := by decide +kernel
theorem dX0_floorsTogether_0 : decode cX0_floorsTogether 0 = .ok (.iconst 0, 1) := by decide +kernel
theorem dX0_floorsTogether_1 : decode cX0_floorsTogether 1 = .ok (.istore_n 1, 1) := by decide +kernel
theorem dX0_floorsTogether_2 : decode cX0_floorsTogether 2 = .ok (.iconst 0, 1) := by decide +kernel
theorem dX0_floorsTogether_3 : decode cX0_floorsTogether 3 = .ok (.istore_n 2, 1) := by decide +kernel
theorem dX0_floorsTogether_4 : decode cX0_floorsTogether 4 = .ok (.iload_n 2, 1) := by decide +kernel
theorem dX0_floorsTogether_5 : decode cX0_floorsTogether 5 = .ok (.aload_n 0, 1) := by decide +kernel
theorem dX0_floorsTogether_6 : decode cX0_floorsTogether 6 = .ok (.getfield 18, 3) := by decide +kernel
theorem dX0_floorsTogether_9 : decode cX0_floorsTogether 9 = .ok (.if_icmp .ge 21, 3) := by decide +kernel
theorem dX0_floorsTogether_12 : decode cX0_floorsTogether 12 = .ok (.iload_n 1, 1) := by decide +kernel
theorem dX0_floorsTogether_13 : decode cX0_floorsTogether 13 = .ok (.aload_n 0, 1) := by decide +kernel
theorem dX0_floorsTogether_14 : decode cX0_floorsTogether 14 = .ok (.getfield 11, 3) := by decide +kernel
theorem dX0_floorsTogether_17 : decode cX0_floorsTogether 17 = .ok (.iload_n 2, 1) := by decide +kernel
theorem dX0_floorsTogether_18 : decode cX0_floorsTogether 18 = .ok (.aaload, 1) := by decide +kernel
theorem dX0_floorsTogether_19 : decode cX0_floorsTogether 19 = .ok (.getfield 32, 3) := by decide +kernel
theorem dX0_floorsTogether_22 : decode cX0_floorsTogether 22 = .ok (.iadd, 1) := by decide +kernel
theorem dX0_floorsTogether_23 : decode cX0_floorsTogether 23 = .ok (.istore_n 1, 1) := by decide +kernel
theorem dX0_floorsTogether_24 : decode cX0_floorsTogether 24 = .ok (.iinc 2 1, 3) := by decide +kernel
theorem dX0_floorsTogether_27 : decode cX0_floorsTogether 27 = .ok (.goto (-23), 3) := by decide +kernel
theorem dX0_floorsTogether_30 : decode cX0_floorsTogether 30 = .ok (.iload_n 1, 1) := by decide +kernel
theorem dX0_floorsTogether_31 : decode cX0_floorsTogether 31 = .ok (.ireturn, 1) := by decide +kernel
theorem dX0_howManyWithin_0 : decode cX0_howManyWithin 0 = .ok (.iconst 0, 1) := by decide +kernel
theorem dX0_howManyWithin_1 : decode cX0_howManyWithin 1 = .ok (.istore_n 3, 1) := by decide +kernel
theorem dX0_howManyWithin_2 : decode cX0_howManyWithin 2 = .ok (.iconst 0, 1) := by decide +kernel
theorem dX0_howManyWithin_3 : decode cX0_howManyWithin 3 = .ok (.istore 4, 2) := by decide +kernel
theorem dX0_howManyWithin_5 : decode cX0_howManyWithin 5 = .ok (.iload 4, 2) := by decide +kernel
theorem dX0_howManyWithin_7 : decode cX0_howManyWithin 7 = .ok (.aload_n 0, 1) := by decide +kernel
theorem dX0_howManyWithin_8 : decode cX0_howManyWithin 8 = .ok (.getfield 18, 3) := by decide +kernel
theorem dX0_howManyWithin_11 : decode cX0_howManyWithin 11 = .ok (.if_icmp .ge 35, 3) := by decide +kernel
theorem dX0_howManyWithin_14 : decode cX0_howManyWithin 14 = .ok (.iload_n 3, 1) := by decide +kernel
theorem dX0_howManyWithin_15 : decode cX0_howManyWithin 15 = .ok (.aload_n 0, 1) := by decide +kernel
theorem dX0_howManyWithin_16 : decode cX0_howManyWithin 16 = .ok (.getfield 11, 3) := by decide +kernel
theorem dX0_howManyWithin_19 : decode cX0_howManyWithin 19 = .ok (.iload 4, 2) := by decide +kernel
theorem dX0_howManyWithin_21 : decode cX0_howManyWithin 21 = .ok (.aaload, 1) := by decide +kernel
theorem dX0_howManyWithin_22 : decode cX0_howManyWithin 22 = .ok (.getfield 32, 3) := by decide +kernel
theorem dX0_howManyWithin_25 : decode cX0_howManyWithin 25 = .ok (.iload_n 1, 1) := by decide +kernel
theorem dX0_howManyWithin_26 : decode cX0_howManyWithin 26 = .ok (.iload_n 2, 1) := by decide +kernel
theorem dX0_howManyWithin_27 : decode cX0_howManyWithin 27 = .ok (.invokestatic 71, 3) := by decide +kernel
theorem dX0_howManyWithin_30 : decode cX0_howManyWithin 30 = .ok (.ifCond .eq 7, 3) := by decide +kernel
theorem dX0_howManyWithin_33 : decode cX0_howManyWithin 33 = .ok (.iconst 1, 1) := by decide +kernel
theorem dX0_howManyWithin_34 : decode cX0_howManyWithin 34 = .ok (.goto 4, 3) := by decide +kernel
theorem dX0_howManyWithin_37 : decode cX0_howManyWithin 37 = .ok (.iconst 0, 1) := by decide +kernel
theorem dX0_howManyWithin_38 : decode cX0_howManyWithin 38 = .ok (.iadd, 1) := by decide +kernel
theorem dX0_howManyWithin_39 : decode cX0_howManyWithin 39 = .ok (.istore_n 3, 1) := by decide +kernel
theorem dX0_howManyWithin_40 : decode cX0_howManyWithin 40 = .ok (.iinc 4 1, 3) := by decide +kernel
theorem dX0_howManyWithin_43 : decode cX0_howManyWithin 43 = .ok (.goto (-38), 3) := by decide +kernel
theorem dX0_howManyWithin_46 : decode cX0_howManyWithin 46 = .ok (.iload_n 3, 1) := by decide +kernel
theorem dX0_howManyWithin_47 : decode cX0_howManyWithin 47 = .ok (.ireturn, 1) := by decide +kernel
theorem dX1_init_0 : decode cX1_init 0 = .ok (.aload_n 0, 1) := by decide +kernel
theorem dX1_init_1 : decode cX1_init 1 = .ok (.invokespecial 3, 3) := by decide +kernel
theorem dX1_init_4 : decode cX1_init 4 = .ok (.return_, 1) := by decide +kernel
theorem dX1_copyFrom_0 : decode cX1_copyFrom 0 = .ok (.aload_n 0, 1) := by decide +kernel
theorem dX1_copyFrom_1 : decode cX1_copyFrom 1 = .ok (.aload_n 1, 1) := by decide +kernel
theorem dX1_copyFrom_2 : decode cX1_copyFrom 2 = .ok (.getfield 9, 3) := by decide +kernel
theorem dX1_copyFrom_5 : decode cX1_copyFrom 5 = .ok (.putfield 9, 3) := by decide +kernel
theorem dX1_copyFrom_8 : decode cX1_copyFrom 8 = .ok (.aload_n 0, 1) := by decide +kernel
theorem dX1_copyFrom_9 : decode cX1_copyFrom 9 = .ok (.aload_n 1, 1) := by decide +kernel
theorem dX1_copyFrom_10 : decode cX1_copyFrom 10 = .ok (.getfield 15, 3) := by decide +kernel
theorem dX1_copyFrom_13 : decode cX1_copyFrom 13 = .ok (.putfield 15, 3) := by decide +kernel
theorem dX1_copyFrom_16 : decode cX1_copyFrom 16 = .ok (.aload_n 0, 1) := by decide +kernel
theorem dX1_copyFrom_17 : decode cX1_copyFrom 17 = .ok (.aload_n 1, 1) := by decide +kernel
theorem dX1_copyFrom_18 : decode cX1_copyFrom 18 = .ok (.getfield 18, 3) := by decide +kernel
theorem dX1_copyFrom_21 : decode cX1_copyFrom 21 = .ok (.putfield 18, 3) := by decide +kernel
theorem dX1_copyFrom_24 : decode cX1_copyFrom 24 = .ok (.aload_n 0, 1) := by decide +kernel
theorem dX1_copyFrom_25 : decode cX1_copyFrom 25 = .ok (.aload_n 1, 1) := by decide +kernel
theorem dX1_copyFrom_26 : decode cX1_copyFrom 26 = .ok (.getfield 21, 3) := by decide +kernel
theorem dX1_copyFrom_29 : decode cX1_copyFrom 29 = .ok (.putfield 21, 3) := by decide +kernel
theorem dX1_copyFrom_32 : decode cX1_copyFrom 32 = .ok (.aload_n 0, 1) := by decide +kernel
theorem dX1_copyFrom_33 : decode cX1_copyFrom 33 = .ok (.aload_n 1, 1) := by decide +kernel
theorem dX1_copyFrom_34 : decode cX1_copyFrom 34 = .ok (.getfield 24, 3) := by decide +kernel
theorem dX1_copyFrom_37 : decode cX1_copyFrom 37 = .ok (.putfield 24, 3) := by decide +kernel
theorem dX1_copyFrom_40 : decode cX1_copyFrom 40 = .ok (.return_, 1) := by decide +kernel
theorem dX1_turnInto_0 : decode cX1_turnInto 0 = .ok (.aload_n 0, 1) := by decide +kernel
theorem dX1_turnInto_1 : decode cX1_turnInto 1 = .ok (.iload_n 1, 1) := by decide +kernel
theorem dX1_turnInto_2 : decode cX1_turnInto 2 = .ok (.bipush 10, 2) := by decide +kernel
theorem dX1_turnInto_4 : decode cX1_turnInto 4 = .ok (.idiv, 1) := by decide +kernel
theorem dX1_turnInto_5 : decode cX1_turnInto 5 = .ok (.putfield 9, 3) := by decide +kernel
theorem dX1_turnInto_8 : decode cX1_turnInto 8 = .ok (.aload_n 0, 1) := by decide +kernel
theorem dX1_turnInto_9 : decode cX1_turnInto 9 = .ok (.iload_n 1, 1) := by decide +kernel
theorem dX1_turnInto_10 : decode cX1_turnInto 10 = .ok (.bipush 10, 2) := by decide +kernel
theorem dX1_turnInto_12 : decode cX1_turnInto 12 = .ok (.irem, 1) := by decide +kernel
theorem dX1_turnInto_13 : decode cX1_turnInto 13 = .ok (.putfield 15, 3) := by decide +kernel
theorem dX1_turnInto_16 : decode cX1_turnInto 16 = .ok (.return_, 1) := by decide +kernel
theorem dX1_standAt_0 : decode cX1_standAt 0 = .ok (.aload_n 0, 1) := by decide +kernel
theorem dX1_standAt_1 : decode cX1_standAt 1 = .ok (.iload_n 1, 1) := by decide +kernel
theorem dX1_standAt_2 : decode cX1_standAt 2 = .ok (.putfield 18, 3) := by decide +kernel
theorem dX1_standAt_5 : decode cX1_standAt 5 = .ok (.aload_n 0, 1) := by decide +kernel
theorem dX1_standAt_6 : decode cX1_standAt 6 = .ok (.iload_n 1, 1) := by decide +kernel
theorem dX1_standAt_7 : decode cX1_standAt 7 = .ok (.putfield 24, 3) := by decide +kernel
theorem dX1_standAt_10 : decode cX1_standAt 10 = .ok (.aload_n 0, 1) := by decide +kernel
theorem dX1_standAt_11 : decode cX1_standAt 11 = .ok (.iconst 0, 1) := by decide +kernel
theorem dX1_standAt_12 : decode cX1_standAt 12 = .ok (.putfield 21, 3) := by decide +kernel
theorem dX1_standAt_15 : decode cX1_standAt 15 = .ok (.return_, 1) := by decide +kernel
theorem dX1_shove_0 : decode cX1_shove 0 = .ok (.aload_n 0, 1) := by decide +kernel
theorem dX1_shove_1 : decode cX1_shove 1 = .ok (.aload_n 0, 1) := by decide +kernel
theorem dX1_shove_2 : decode cX1_shove 2 = .ok (.getfield 21, 3) := by decide +kernel
theorem dX1_shove_5 : decode cX1_shove 5 = .ok (.iload_n 1, 1) := by decide +kernel
theorem dX1_shove_6 : decode cX1_shove 6 = .ok (.iadd, 1) := by decide +kernel
theorem dX1_shove_7 : decode cX1_shove 7 = .ok (.bipush (-9), 2) := by decide +kernel
theorem dX1_shove_9 : decode cX1_shove 9 = .ok (.bipush 9, 2) := by decide +kernel
theorem dX1_shove_11 : decode cX1_shove 11 = .ok (.invokestatic 27, 3) := by decide +kernel
theorem dX1_shove_14 : decode cX1_shove 14 = .ok (.putfield 21, 3) := by decide +kernel
theorem dX1_shove_17 : decode cX1_shove 17 = .ok (.return_, 1) := by decide +kernel
theorem dX1_load_0 : decode cX1_load 0 = .ok (.aload_n 0, 1) := by decide +kernel
theorem dX1_load_1 : decode cX1_load 1 = .ok (.getfield 9, 3) := by decide +kernel
theorem dX1_load_4 : decode cX1_load 4 = .ok (.tableswitch 77 1 6 #[40, 77, 70, 61, 72, 49], 40) := by decide +kernel
theorem dX1_load_44 : decode cX1_load 44 = .ok (.iconst 3, 1) := by decide +kernel
theorem dX1_load_45 : decode cX1_load 45 = .ok (.aload_n 0, 1) := by decide +kernel
theorem dX1_load_46 : decode cX1_load 46 = .ok (.getfield 15, 3) := by decide +kernel
theorem dX1_load_49 : decode cX1_load 49 = .ok (.iconst 1, 1) := by decide +kernel
theorem dX1_load_50 : decode cX1_load 50 = .ok (.iadd, 1) := by decide +kernel
theorem dX1_load_51 : decode cX1_load 51 = .ok (.imul, 1) := by decide +kernel
theorem dX1_load_52 : decode cX1_load 52 = .ok (.ireturn, 1) := by decide +kernel
theorem dX1_load_53 : decode cX1_load 53 = .ok (.iconst 3, 1) := by decide +kernel
theorem dX1_load_54 : decode cX1_load 54 = .ok (.aload_n 0, 1) := by decide +kernel
theorem dX1_load_55 : decode cX1_load 55 = .ok (.getfield 15, 3) := by decide +kernel
theorem dX1_load_58 : decode cX1_load 58 = .ok (.iconst 1, 1) := by decide +kernel
theorem dX1_load_59 : decode cX1_load 59 = .ok (.iadd, 1) := by decide +kernel
theorem dX1_load_60 : decode cX1_load 60 = .ok (.imul, 1) := by decide +kernel
theorem dX1_load_61 : decode cX1_load 61 = .ok (.bipush 20, 2) := by decide +kernel
theorem dX1_load_63 : decode cX1_load 63 = .ok (.iadd, 1) := by decide +kernel
theorem dX1_load_64 : decode cX1_load 64 = .ok (.ireturn, 1) := by decide +kernel
theorem dX1_load_65 : decode cX1_load 65 = .ok (.aload_n 0, 1) := by decide +kernel
theorem dX1_load_66 : decode cX1_load 66 = .ok (.getfield 15, 3) := by decide +kernel
theorem dX1_load_69 : decode cX1_load 69 = .ok (.iconst 1, 1) := by decide +kernel
theorem dX1_load_70 : decode cX1_load 70 = .ok (.iadd, 1) := by decide +kernel
theorem dX1_load_71 : decode cX1_load 71 = .ok (.iconst 5, 1) := by decide +kernel
theorem dX1_load_72 : decode cX1_load 72 = .ok (.iadd, 1) := by decide +kernel
theorem dX1_load_73 : decode cX1_load 73 = .ok (.ireturn, 1) := by decide +kernel
theorem dX1_load_74 : decode cX1_load 74 = .ok (.iconst 0, 1) := by decide +kernel
theorem dX1_load_75 : decode cX1_load 75 = .ok (.ireturn, 1) := by decide +kernel
theorem dX1_load_76 : decode cX1_load 76 = .ok (.aload_n 0, 1) := by decide +kernel
theorem dX1_load_77 : decode cX1_load 77 = .ok (.getfield 15, 3) := by decide +kernel
theorem dX1_load_80 : decode cX1_load 80 = .ok (.ireturn, 1) := by decide +kernel
theorem dX1_load_81 : decode cX1_load 81 = .ok (.aload_n 0, 1) := by decide +kernel
theorem dX1_load_82 : decode cX1_load 82 = .ok (.getfield 15, 3) := by decide +kernel
theorem dX1_load_85 : decode cX1_load 85 = .ok (.iconst 1, 1) := by decide +kernel
theorem dX1_load_86 : decode cX1_load 86 = .ok (.iadd, 1) := by decide +kernel
theorem dX1_load_87 : decode cX1_load 87 = .ok (.ireturn, 1) := by decide +kernel
theorem dX1_pulled_0 : decode cX1_pulled 0 = .ok (.aload_n 0, 1) := by decide +kernel
theorem dX1_pulled_1 : decode cX1_pulled 1 = .ok (.getfield 9, 3) := by decide +kernel
theorem dX1_pulled_4 : decode cX1_pulled 4 = .ok (.tableswitch 42 3 6 #[32, 42, 32, 38], 32) := by decide +kernel
theorem dX1_pulled_36 : decode cX1_pulled 36 = .ok (.iconst 0, 1) := by decide +kernel
theorem dX1_pulled_37 : decode cX1_pulled 37 = .ok (.iload_n 1, 1) := by decide +kernel
theorem dX1_pulled_38 : decode cX1_pulled 38 = .ok (.iconst 2, 1) := by decide +kernel
theorem dX1_pulled_39 : decode cX1_pulled 39 = .ok (.idiv, 1) := by decide +kernel
theorem dX1_pulled_40 : decode cX1_pulled 40 = .ok (.isub, 1) := by decide +kernel
theorem dX1_pulled_41 : decode cX1_pulled 41 = .ok (.ireturn, 1) := by decide +kernel
theorem dX1_pulled_42 : decode cX1_pulled 42 = .ok (.iconst 2, 1) := by decide +kernel
theorem dX1_pulled_43 : decode cX1_pulled 43 = .ok (.iload_n 1, 1) := by decide +kernel
theorem dX1_pulled_44 : decode cX1_pulled 44 = .ok (.imul, 1) := by decide +kernel
theorem dX1_pulled_45 : decode cX1_pulled 45 = .ok (.ireturn, 1) := by decide +kernel
theorem dX1_pulled_46 : decode cX1_pulled 46 = .ok (.iload_n 1, 1) := by decide +kernel
theorem dX1_pulled_47 : decode cX1_pulled 47 = .ok (.ireturn, 1) := by decide +kernel
theorem dX1_drag_0 : decode cX1_drag 0 = .ok (.aload_n 0, 1) := by decide +kernel
theorem dX1_drag_1 : decode cX1_drag 1 = .ok (.getfield 9, 3) := by decide +kernel
theorem dX1_drag_4 : decode cX1_drag 4 = .ok (.tableswitch 46 1 6 #[40, 46, 42, 46, 44, 40], 40) := by decide +kernel
theorem dX1_drag_44 : decode cX1_drag 44 = .ok (.iconst 0, 1) := by decide +kernel
theorem dX1_drag_45 : decode cX1_drag 45 = .ok (.ireturn, 1) := by decide +kernel
theorem dX1_drag_46 : decode cX1_drag 46 = .ok (.iconst 2, 1) := by decide +kernel
theorem dX1_drag_47 : decode cX1_drag 47 = .ok (.ireturn, 1) := by decide +kernel
theorem dX1_drag_48 : decode cX1_drag 48 = .ok (.iconst 1, 1) := by decide +kernel
theorem dX1_drag_49 : decode cX1_drag 49 = .ok (.ireturn, 1) := by decide +kernel
theorem dX1_drag_50 : decode cX1_drag 50 = .ok (.aload_n 0, 1) := by decide +kernel
theorem dX1_drag_51 : decode cX1_drag 51 = .ok (.getfield 15, 3) := by decide +kernel
theorem dX1_drag_54 : decode cX1_drag 54 = .ok (.iconst 2, 1) := by decide +kernel
theorem dX1_drag_55 : decode cX1_drag 55 = .ok (.irem, 1) := by decide +kernel
theorem dX1_drag_56 : decode cX1_drag 56 = .ok (.ireturn, 1) := by decide +kernel
theorem dX1_reach_0 : decode cX1_reach 0 = .ok (.aload_n 0, 1) := by decide +kernel
theorem dX1_reach_1 : decode cX1_reach 1 = .ok (.getfield 9, 3) := by decide +kernel
theorem dX1_reach_4 : decode cX1_reach 4 = .ok (.lookupswitch 44 #[(2, 28), (4, 35)], 28) := by decide +kernel
theorem dX1_reach_32 : decode cX1_reach 32 = .ok (.aload_n 0, 1) := by decide +kernel
theorem dX1_reach_33 : decode cX1_reach 33 = .ok (.getfield 15, 3) := by decide +kernel
theorem dX1_reach_36 : decode cX1_reach 36 = .ok (.iconst 2, 1) := by decide +kernel
theorem dX1_reach_37 : decode cX1_reach 37 = .ok (.iadd, 1) := by decide +kernel
theorem dX1_reach_38 : decode cX1_reach 38 = .ok (.ireturn, 1) := by decide +kernel
theorem dX1_reach_39 : decode cX1_reach 39 = .ok (.aload_n 0, 1) := by decide +kernel
theorem dX1_reach_40 : decode cX1_reach 40 = .ok (.getfield 15, 3) := by decide +kernel
theorem dX1_reach_43 : decode cX1_reach 43 = .ok (.iconst 2, 1) := by decide +kernel
theorem dX1_reach_44 : decode cX1_reach 44 = .ok (.iadd, 1) := by decide +kernel
theorem dX1_reach_45 : decode cX1_reach 45 = .ok (.iconst 2, 1) := by decide +kernel
theorem dX1_reach_46 : decode cX1_reach 46 = .ok (.idiv, 1) := by decide +kernel
theorem dX1_reach_47 : decode cX1_reach 47 = .ok (.ireturn, 1) := by decide +kernel
theorem dX1_reach_48 : decode cX1_reach 48 = .ok (.bipush 40, 2) := by decide +kernel
theorem dX1_reach_50 : decode cX1_reach 50 = .ok (.ireturn, 1) := by decide +kernel
theorem dX1_stride_0 : decode cX1_stride 0 = .ok (.aload_n 0, 1) := by decide +kernel
theorem dX1_stride_1 : decode cX1_stride 1 = .ok (.getfield 18, 3) := by decide +kernel
theorem dX1_stride_4 : decode cX1_stride 4 = .ok (.istore_n 2, 1) := by decide +kernel
theorem dX1_stride_5 : decode cX1_stride 5 = .ok (.aload_n 0, 1) := by decide +kernel
theorem dX1_stride_6 : decode cX1_stride 6 = .ok (.getfield 21, 3) := by decide +kernel
theorem dX1_stride_9 : decode cX1_stride 9 = .ok (.istore_n 3, 1) := by decide +kernel
theorem dX1_stride_10 : decode cX1_stride 10 = .ok (.aload_n 0, 1) := by decide +kernel
theorem dX1_stride_11 : decode cX1_stride 11 = .ok (.getfield 21, 3) := by decide +kernel
theorem dX1_stride_14 : decode cX1_stride 14 = .ok (.aload_n 0, 1) := by decide +kernel
theorem dX1_stride_15 : decode cX1_stride 15 = .ok (.iload_n 1, 1) := by decide +kernel
theorem dX1_stride_16 : decode cX1_stride 16 = .ok (.invokevirtual 31, 3) := by decide +kernel
theorem dX1_stride_19 : decode cX1_stride 19 = .ok (.iadd, 1) := by decide +kernel
theorem dX1_stride_20 : decode cX1_stride 20 = .ok (.istore 4, 2) := by decide +kernel
theorem dX1_stride_22 : decode cX1_stride 22 = .ok (.iload 4, 2) := by decide +kernel
theorem dX1_stride_24 : decode cX1_stride 24 = .ok (.ifCond .le 17, 3) := by decide +kernel
theorem dX1_stride_27 : decode cX1_stride 27 = .ok (.iconst 0, 1) := by decide +kernel
theorem dX1_stride_28 : decode cX1_stride 28 = .ok (.iload 4, 2) := by decide +kernel
theorem dX1_stride_30 : decode cX1_stride 30 = .ok (.aload_n 0, 1) := by decide +kernel
theorem dX1_stride_31 : decode cX1_stride 31 = .ok (.invokevirtual 35, 3) := by decide +kernel
theorem dX1_stride_34 : decode cX1_stride 34 = .ok (.isub, 1) := by decide +kernel
theorem dX1_stride_35 : decode cX1_stride 35 = .ok (.invokestatic 39, 3) := by decide +kernel
theorem dX1_stride_38 : decode cX1_stride 38 = .ok (.goto 14, 3) := by decide +kernel
theorem dX1_stride_41 : decode cX1_stride 41 = .ok (.iconst 0, 1) := by decide +kernel
theorem dX1_stride_42 : decode cX1_stride 42 = .ok (.iload 4, 2) := by decide +kernel
theorem dX1_stride_44 : decode cX1_stride 44 = .ok (.aload_n 0, 1) := by decide +kernel
theorem dX1_stride_45 : decode cX1_stride 45 = .ok (.invokevirtual 35, 3) := by decide +kernel
theorem dX1_stride_48 : decode cX1_stride 48 = .ok (.iadd, 1) := by decide +kernel
theorem dX1_stride_49 : decode cX1_stride 49 = .ok (.invokestatic 45, 3) := by decide +kernel
theorem dX1_stride_52 : decode cX1_stride 52 = .ok (.istore 5, 2) := by decide +kernel
theorem dX1_stride_54 : decode cX1_stride 54 = .ok (.aload_n 0, 1) := by decide +kernel
theorem dX1_stride_55 : decode cX1_stride 55 = .ok (.iload 5, 2) := by decide +kernel
theorem dX1_stride_57 : decode cX1_stride 57 = .ok (.bipush (-9), 2) := by decide +kernel
theorem dX1_stride_59 : decode cX1_stride 59 = .ok (.bipush 9, 2) := by decide +kernel
theorem dX1_stride_61 : decode cX1_stride 61 = .ok (.invokestatic 27, 3) := by decide +kernel
theorem dX1_stride_64 : decode cX1_stride 64 = .ok (.putfield 21, 3) := by decide +kernel
theorem dX1_stride_67 : decode cX1_stride 67 = .ok (.aload_n 0, 1) := by decide +kernel
theorem dX1_stride_68 : decode cX1_stride 68 = .ok (.getfield 18, 3) := by decide +kernel
theorem dX1_stride_71 : decode cX1_stride 71 = .ok (.aload_n 0, 1) := by decide +kernel
theorem dX1_stride_72 : decode cX1_stride 72 = .ok (.getfield 21, 3) := by decide +kernel
theorem dX1_stride_75 : decode cX1_stride 75 = .ok (.iadd, 1) := by decide +kernel
theorem dX1_stride_76 : decode cX1_stride 76 = .ok (.istore 6, 2) := by decide +kernel
theorem dX1_stride_78 : decode cX1_stride 78 = .ok (.aload_n 0, 1) := by decide +kernel
theorem dX1_stride_79 : decode cX1_stride 79 = .ok (.iload 6, 2) := by decide +kernel
theorem dX1_stride_81 : decode cX1_stride 81 = .ok (.iconst 0, 1) := by decide +kernel
theorem dX1_stride_82 : decode cX1_stride 82 = .ok (.aload_n 0, 1) := by decide +kernel
theorem dX1_stride_83 : decode cX1_stride 83 = .ok (.getfield 24, 3) := by decide +kernel
theorem dX1_stride_86 : decode cX1_stride 86 = .ok (.aload_n 0, 1) := by decide +kernel
theorem dX1_stride_87 : decode cX1_stride 87 = .ok (.invokevirtual 48, 3) := by decide +kernel
theorem dX1_stride_90 : decode cX1_stride 90 = .ok (.isub, 1) := by decide +kernel
theorem dX1_stride_91 : decode cX1_stride 91 = .ok (.invokestatic 39, 3) := by decide +kernel
theorem dX1_stride_94 : decode cX1_stride 94 = .ok (.bipush 40, 2) := by decide +kernel
theorem dX1_stride_96 : decode cX1_stride 96 = .ok (.aload_n 0, 1) := by decide +kernel
theorem dX1_stride_97 : decode cX1_stride 97 = .ok (.getfield 24, 3) := by decide +kernel
theorem dX1_stride_100 : decode cX1_stride 100 = .ok (.aload_n 0, 1) := by decide +kernel
theorem dX1_stride_101 : decode cX1_stride 101 = .ok (.invokevirtual 48, 3) := by decide +kernel
theorem dX1_stride_104 : decode cX1_stride 104 = .ok (.iadd, 1) := by decide +kernel
theorem dX1_stride_105 : decode cX1_stride 105 = .ok (.invokestatic 45, 3) := by decide +kernel
theorem dX1_stride_108 : decode cX1_stride 108 = .ok (.invokestatic 27, 3) := by decide +kernel
theorem dX1_stride_111 : decode cX1_stride 111 = .ok (.putfield 18, 3) := by decide +kernel
theorem dX1_stride_114 : decode cX1_stride 114 = .ok (.aload_n 0, 1) := by decide +kernel
theorem dX1_stride_115 : decode cX1_stride 115 = .ok (.getfield 18, 3) := by decide +kernel
theorem dX1_stride_118 : decode cX1_stride 118 = .ok (.iload 6, 2) := by decide +kernel
theorem dX1_stride_120 : decode cX1_stride 120 = .ok (.if_icmp .eq 8, 3) := by decide +kernel
theorem dX1_stride_123 : decode cX1_stride 123 = .ok (.aload_n 0, 1) := by decide +kernel
theorem dX1_stride_124 : decode cX1_stride 124 = .ok (.iconst 0, 1) := by decide +kernel
theorem dX1_stride_125 : decode cX1_stride 125 = .ok (.putfield 21, 3) := by decide +kernel
theorem dX1_stride_128 : decode cX1_stride 128 = .ok (.aload_n 0, 1) := by decide +kernel
theorem dX1_stride_129 : decode cX1_stride 129 = .ok (.getfield 18, 3) := by decide +kernel
theorem dX1_stride_132 : decode cX1_stride 132 = .ok (.iload_n 2, 1) := by decide +kernel
theorem dX1_stride_133 : decode cX1_stride 133 = .ok (.if_icmp .ne 11, 3) := by decide +kernel
theorem dX1_stride_136 : decode cX1_stride 136 = .ok (.aload_n 0, 1) := by decide +kernel
theorem dX1_stride_137 : decode cX1_stride 137 = .ok (.getfield 21, 3) := by decide +kernel
theorem dX1_stride_140 : decode cX1_stride 140 = .ok (.iload_n 3, 1) := by decide +kernel
theorem dX1_stride_141 : decode cX1_stride 141 = .ok (.if_icmp .eq 7, 3) := by decide +kernel
theorem dX1_stride_144 : decode cX1_stride 144 = .ok (.iconst 1, 1) := by decide +kernel
theorem dX1_stride_145 : decode cX1_stride 145 = .ok (.goto 4, 3) := by decide +kernel
theorem dX1_stride_148 : decode cX1_stride 148 = .ok (.iconst 0, 1) := by decide +kernel
theorem dX1_stride_149 : decode cX1_stride 149 = .ok (.ireturn, 1) := by decide +kernel
theorem dX2_init_0 : decode cX2_init 0 = .ok (.aload_n 0, 1) := by decide +kernel
theorem dX2_init_1 : decode cX2_init 1 = .ok (.invokespecial 3, 3) := by decide +kernel
theorem dX2_init_4 : decode cX2_init 4 = .ok (.aload_n 0, 1) := by decide +kernel
theorem dX2_init_5 : decode cX2_init 5 = .ok (.bipush 50, 2) := by decide +kernel
theorem dX2_init_7 : decode cX2_init 7 = .ok (.newarray .int, 2) := by decide +kernel
theorem dX2_init_9 : decode cX2_init 9 = .ok (.putfield 9, 3) := by decide +kernel
theorem dX2_init_12 : decode cX2_init 12 = .ok (.aload_n 0, 1) := by decide +kernel
theorem dX2_init_13 : decode cX2_init 13 = .ok (.bipush 50, 2) := by decide +kernel
theorem dX2_init_15 : decode cX2_init 15 = .ok (.newarray .int, 2) := by decide +kernel
theorem dX2_init_17 : decode cX2_init 17 = .ok (.putfield 15, 3) := by decide +kernel
theorem dX2_init_20 : decode cX2_init 20 = .ok (.aload_n 0, 1) := by decide +kernel
theorem dX2_init_21 : decode cX2_init 21 = .ok (.iload_n 1, 1) := by decide +kernel
theorem dX2_init_22 : decode cX2_init 22 = .ok (.putfield 18, 3) := by decide +kernel
theorem dX2_init_25 : decode cX2_init 25 = .ok (.return_, 1) := by decide +kernel
theorem dX2_hold_0 : decode cX2_hold 0 = .ok (.aload_n 0, 1) := by decide +kernel
theorem dX2_hold_1 : decode cX2_hold 1 = .ok (.iload_n 2, 1) := by decide +kernel
theorem dX2_hold_2 : decode cX2_hold 2 = .ok (.iconst 0, 1) := by decide +kernel
theorem dX2_hold_3 : decode cX2_hold 3 = .ok (.bipush 50, 2) := by decide +kernel
theorem dX2_hold_5 : decode cX2_hold 5 = .ok (.invokestatic 22, 3) := by decide +kernel
theorem dX2_hold_8 : decode cX2_hold 8 = .ok (.putfield 26, 3) := by decide +kernel
theorem dX2_hold_11 : decode cX2_hold 11 = .ok (.aload_n 1, 1) := by decide +kernel
theorem dX2_hold_12 : decode cX2_hold 12 = .ok (.iconst 0, 1) := by decide +kernel
theorem dX2_hold_13 : decode cX2_hold 13 = .ok (.aload_n 0, 1) := by decide +kernel
theorem dX2_hold_14 : decode cX2_hold 14 = .ok (.getfield 9, 3) := by decide +kernel
theorem dX2_hold_17 : decode cX2_hold 17 = .ok (.iconst 0, 1) := by decide +kernel
theorem dX2_hold_18 : decode cX2_hold 18 = .ok (.aload_n 0, 1) := by decide +kernel
theorem dX2_hold_19 : decode cX2_hold 19 = .ok (.getfield 26, 3) := by decide +kernel
theorem dX2_hold_22 : decode cX2_hold 22 = .ok (.invokestatic 29, 3) := by decide +kernel
theorem dX2_hold_25 : decode cX2_hold 25 = .ok (.return_, 1) := by decide +kernel
theorem dX2_give_0 : decode cX2_give 0 = .ok (.aload_n 0, 1) := by decide +kernel
theorem dX2_give_1 : decode cX2_give 1 = .ok (.getfield 18, 3) := by decide +kernel
theorem dX2_give_4 : decode cX2_give 4 = .ok (.ifCond .ne 34, 3) := by decide +kernel
theorem dX2_give_7 : decode cX2_give 7 = .ok (.aload_n 0, 1) := by decide +kernel
theorem dX2_give_8 : decode cX2_give 8 = .ok (.getfield 26, 3) := by decide +kernel
theorem dX2_give_11 : decode cX2_give 11 = .ok (.ifCond .ne 12, 3) := by decide +kernel
theorem dX2_give_14 : decode cX2_give 14 = .ok (.iload_n 1, 1) := by decide +kernel
theorem dX2_give_15 : decode cX2_give 15 = .ok (.bipush 20, 2) := by decide +kernel
theorem dX2_give_17 : decode cX2_give 17 = .ok (.isub, 1) := by decide +kernel
theorem dX2_give_18 : decode cX2_give 18 = .ok (.iconst 5, 1) := by decide +kernel
theorem dX2_give_19 : decode cX2_give 19 = .ok (.idiv, 1) := by decide +kernel
theorem dX2_give_20 : decode cX2_give 20 = .ok (.goto 10, 3) := by decide +kernel
theorem dX2_give_23 : decode cX2_give 23 = .ok (.aload_n 0, 1) := by decide +kernel
theorem dX2_give_24 : decode cX2_give 24 = .ok (.iload_n 1, 1) := by decide +kernel
theorem dX2_give_25 : decode cX2_give 25 = .ok (.iload_n 2, 1) := by decide +kernel
theorem dX2_give_26 : decode cX2_give 26 = .ok (.iload_n 3, 1) := by decide +kernel
theorem dX2_give_27 : decode cX2_give 27 = .ok (.invokevirtual 35, 3) := by decide +kernel
theorem dX2_give_30 : decode cX2_give 30 = .ok (.bipush (-9), 2) := by decide +kernel
theorem dX2_give_32 : decode cX2_give 32 = .ok (.bipush 9, 2) := by decide +kernel
theorem dX2_give_34 : decode cX2_give 34 = .ok (.invokestatic 22, 3) := by decide +kernel
theorem dX2_give_37 : decode cX2_give 37 = .ok (.ireturn, 1) := by decide +kernel
theorem dX2_give_38 : decode cX2_give 38 = .ok (.aload_n 0, 1) := by decide +kernel
theorem dX2_give_39 : decode cX2_give 39 = .ok (.getfield 26, 3) := by decide +kernel
theorem dX2_give_42 : decode cX2_give 42 = .ok (.ifCond .ne 11, 3) := by decide +kernel
theorem dX2_give_45 : decode cX2_give 45 = .ok (.iload_n 2, 1) := by decide +kernel
theorem dX2_give_46 : decode cX2_give 46 = .ok (.iload_n 1, 1) := by decide +kernel
theorem dX2_give_47 : decode cX2_give 47 = .ok (.iconst 1, 1) := by decide +kernel
theorem dX2_give_48 : decode cX2_give 48 = .ok (.iadd, 1) := by decide +kernel
theorem dX2_give_49 : decode cX2_give 49 = .ok (.imul, 1) := by decide +kernel
theorem dX2_give_50 : decode cX2_give 50 = .ok (.goto 10, 3) := by decide +kernel
theorem dX2_give_53 : decode cX2_give 53 = .ok (.aload_n 0, 1) := by decide +kernel
theorem dX2_give_54 : decode cX2_give 54 = .ok (.iload_n 1, 1) := by decide +kernel
theorem dX2_give_55 : decode cX2_give 55 = .ok (.iload_n 2, 1) := by decide +kernel
theorem dX2_give_56 : decode cX2_give 56 = .ok (.iload_n 3, 1) := by decide +kernel
theorem dX2_give_57 : decode cX2_give 57 = .ok (.invokevirtual 35, 3) := by decide +kernel
theorem dX2_give_60 : decode cX2_give 60 = .ok (.bipush (-99), 2) := by decide +kernel
theorem dX2_give_62 : decode cX2_give 62 = .ok (.bipush 99, 2) := by decide +kernel
theorem dX2_give_64 : decode cX2_give 64 = .ok (.invokestatic 22, 3) := by decide +kernel
theorem dX2_give_67 : decode cX2_give 67 = .ok (.ireturn, 1) := by decide +kernel
theorem dX2_worked_0 : decode cX2_worked 0 = .ok (.iconst 0, 1) := by decide +kernel
theorem dX2_worked_1 : decode cX2_worked 1 = .ok (.istore 4, 2) := by decide +kernel
theorem dX2_worked_3 : decode cX2_worked 3 = .ok (.iconst 0, 1) := by decide +kernel
theorem dX2_worked_4 : decode cX2_worked 4 = .ok (.istore 5, 2) := by decide +kernel
theorem dX2_worked_6 : decode cX2_worked 6 = .ok (.iload 5, 2) := by decide +kernel
theorem dX2_worked_8 : decode cX2_worked 8 = .ok (.aload_n 0, 1) := by decide +kernel
theorem dX2_worked_9 : decode cX2_worked 9 = .ok (.getfield 26, 3) := by decide +kernel
theorem dX2_worked_12 : decode cX2_worked 12 = .ok (.if_icmp .ge 139, 3) := by decide +kernel
theorem dX2_worked_15 : decode cX2_worked 15 = .ok (.aload_n 0, 1) := by decide +kernel
theorem dX2_worked_16 : decode cX2_worked 16 = .ok (.getfield 9, 3) := by decide +kernel
theorem dX2_worked_19 : decode cX2_worked 19 = .ok (.iload 5, 2) := by decide +kernel
theorem dX2_worked_21 : decode cX2_worked 21 = .ok (.iaload, 1) := by decide +kernel
theorem dX2_worked_22 : decode cX2_worked 22 = .ok (.istore 6, 2) := by decide +kernel
theorem dX2_worked_24 : decode cX2_worked 24 = .ok (.iload 6, 2) := by decide +kernel
theorem dX2_worked_26 : decode cX2_worked 26 = .ok (.sipush 20000, 3) := by decide +kernel
theorem dX2_worked_29 : decode cX2_worked 29 = .ok (.if_icmp .ge 31, 3) := by decide +kernel
theorem dX2_worked_32 : decode cX2_worked 32 = .ok (.iload 4, 2) := by decide +kernel
theorem dX2_worked_34 : decode cX2_worked 34 = .ok (.bipush 50, 2) := by decide +kernel
theorem dX2_worked_36 : decode cX2_worked 36 = .ok (.if_icmp .ge 24, 3) := by decide +kernel
theorem dX2_worked_39 : decode cX2_worked 39 = .ok (.aload_n 0, 1) := by decide +kernel
theorem dX2_worked_40 : decode cX2_worked 40 = .ok (.getfield 15, 3) := by decide +kernel
theorem dX2_worked_43 : decode cX2_worked 43 = .ok (.iload 4, 2) := by decide +kernel
theorem dX2_worked_45 : decode cX2_worked 45 = .ok (.iload 6, 2) := by decide +kernel
theorem dX2_worked_47 : decode cX2_worked 47 = .ok (.iload_n 1, 1) := by decide +kernel
theorem dX2_worked_48 : decode cX2_worked 48 = .ok (.iload_n 2, 1) := by decide +kernel
theorem dX2_worked_49 : decode cX2_worked 49 = .ok (.iload_n 3, 1) := by decide +kernel
theorem dX2_worked_50 : decode cX2_worked 50 = .ok (.invokestatic 38, 3) := by decide +kernel
theorem dX2_worked_53 : decode cX2_worked 53 = .ok (.iastore, 1) := by decide +kernel
theorem dX2_worked_54 : decode cX2_worked 54 = .ok (.iinc 4 1, 3) := by decide +kernel
theorem dX2_worked_57 : decode cX2_worked 57 = .ok (.goto 88, 3) := by decide +kernel
theorem dX2_worked_60 : decode cX2_worked 60 = .ok (.iload 6, 2) := by decide +kernel
theorem dX2_worked_62 : decode cX2_worked 62 = .ok (.sipush 20033, 3) := by decide +kernel
theorem dX2_worked_65 : decode cX2_worked 65 = .ok (.if_icmp .ne 37, 3) := by decide +kernel
theorem dX2_worked_68 : decode cX2_worked 68 = .ok (.iload 4, 2) := by decide +kernel
theorem dX2_worked_70 : decode cX2_worked 70 = .ok (.ifCond .le 32, 3) := by decide +kernel
theorem dX2_worked_73 : decode cX2_worked 73 = .ok (.aload_n 0, 1) := by decide +kernel
theorem dX2_worked_74 : decode cX2_worked 74 = .ok (.getfield 15, 3) := by decide +kernel
theorem dX2_worked_77 : decode cX2_worked 77 = .ok (.iload 4, 2) := by decide +kernel
theorem dX2_worked_79 : decode cX2_worked 79 = .ok (.iconst 1, 1) := by decide +kernel
theorem dX2_worked_80 : decode cX2_worked 80 = .ok (.isub, 1) := by decide +kernel
theorem dX2_worked_81 : decode cX2_worked 81 = .ok (.aload_n 0, 1) := by decide +kernel
theorem dX2_worked_82 : decode cX2_worked 82 = .ok (.getfield 15, 3) := by decide +kernel
theorem dX2_worked_85 : decode cX2_worked 85 = .ok (.iload 4, 2) := by decide +kernel
theorem dX2_worked_87 : decode cX2_worked 87 = .ok (.iconst 1, 1) := by decide +kernel
theorem dX2_worked_88 : decode cX2_worked 88 = .ok (.isub, 1) := by decide +kernel
theorem dX2_worked_89 : decode cX2_worked 89 = .ok (.iaload, 1) := by decide +kernel
theorem dX2_worked_90 : decode cX2_worked 90 = .ok (.ifCond .ne 7, 3) := by decide +kernel
theorem dX2_worked_93 : decode cX2_worked 93 = .ok (.iconst 1, 1) := by decide +kernel
theorem dX2_worked_94 : decode cX2_worked 94 = .ok (.goto 4, 3) := by decide +kernel
theorem dX2_worked_97 : decode cX2_worked 97 = .ok (.iconst 0, 1) := by decide +kernel
theorem dX2_worked_98 : decode cX2_worked 98 = .ok (.iastore, 1) := by decide +kernel
theorem dX2_worked_99 : decode cX2_worked 99 = .ok (.goto 46, 3) := by decide +kernel
theorem dX2_worked_102 : decode cX2_worked 102 = .ok (.iload 4, 2) := by decide +kernel
theorem dX2_worked_104 : decode cX2_worked 104 = .ok (.iconst 1, 1) := by decide +kernel
theorem dX2_worked_105 : decode cX2_worked 105 = .ok (.if_icmp .le 40, 3) := by decide +kernel
theorem dX2_worked_108 : decode cX2_worked 108 = .ok (.iinc 4 (-1), 3) := by decide +kernel
theorem dX2_worked_111 : decode cX2_worked 111 = .ok (.aload_n 0, 1) := by decide +kernel
theorem dX2_worked_112 : decode cX2_worked 112 = .ok (.getfield 15, 3) := by decide +kernel
theorem dX2_worked_115 : decode cX2_worked 115 = .ok (.iload 4, 2) := by decide +kernel
theorem dX2_worked_117 : decode cX2_worked 117 = .ok (.iconst 1, 1) := by decide +kernel
theorem dX2_worked_118 : decode cX2_worked 118 = .ok (.isub, 1) := by decide +kernel
theorem dX2_worked_119 : decode cX2_worked 119 = .ok (.iload 6, 2) := by decide +kernel
theorem dX2_worked_121 : decode cX2_worked 121 = .ok (.sipush 20000, 3) := by decide +kernel
theorem dX2_worked_124 : decode cX2_worked 124 = .ok (.isub, 1) := by decide +kernel
theorem dX2_worked_125 : decode cX2_worked 125 = .ok (.aload_n 0, 1) := by decide +kernel
theorem dX2_worked_126 : decode cX2_worked 126 = .ok (.getfield 15, 3) := by decide +kernel
theorem dX2_worked_129 : decode cX2_worked 129 = .ok (.iload 4, 2) := by decide +kernel
theorem dX2_worked_131 : decode cX2_worked 131 = .ok (.iconst 1, 1) := by decide +kernel
theorem dX2_worked_132 : decode cX2_worked 132 = .ok (.isub, 1) := by decide +kernel
theorem dX2_worked_133 : decode cX2_worked 133 = .ok (.iaload, 1) := by decide +kernel
theorem dX2_worked_134 : decode cX2_worked 134 = .ok (.aload_n 0, 1) := by decide +kernel
theorem dX2_worked_135 : decode cX2_worked 135 = .ok (.getfield 15, 3) := by decide +kernel
theorem dX2_worked_138 : decode cX2_worked 138 = .ok (.iload 4, 2) := by decide +kernel
theorem dX2_worked_140 : decode cX2_worked 140 = .ok (.iaload, 1) := by decide +kernel
theorem dX2_worked_141 : decode cX2_worked 141 = .ok (.invokestatic 42, 3) := by decide +kernel
theorem dX2_worked_144 : decode cX2_worked 144 = .ok (.iastore, 1) := by decide +kernel
theorem dX2_worked_145 : decode cX2_worked 145 = .ok (.iinc 5 1, 3) := by decide +kernel
theorem dX2_worked_148 : decode cX2_worked 148 = .ok (.goto (-142), 3) := by decide +kernel
theorem dX2_worked_151 : decode cX2_worked 151 = .ok (.aload_n 0, 1) := by decide +kernel
theorem dX2_worked_152 : decode cX2_worked 152 = .ok (.getfield 15, 3) := by decide +kernel
theorem dX2_worked_155 : decode cX2_worked 155 = .ok (.iconst 0, 1) := by decide +kernel
theorem dX2_worked_156 : decode cX2_worked 156 = .ok (.iaload, 1) := by decide +kernel
theorem dX2_worked_157 : decode cX2_worked 157 = .ok (.ireturn, 1) := by decide +kernel
theorem dX2_leaf_0 : decode cX2_leaf 0 = .ok (.iload_n 0, 1) := by decide +kernel
theorem dX2_leaf_1 : decode cX2_leaf 1 = .ok (.sipush 10000, 3) := by decide +kernel
theorem dX2_leaf_4 : decode cX2_leaf 4 = .ok (.isub, 1) := by decide +kernel
theorem dX2_leaf_5 : decode cX2_leaf 5 = .ok (.tableswitch 33 0 2 #[27, 29, 31], 27) := by decide +kernel
theorem dX2_leaf_32 : decode cX2_leaf 32 = .ok (.iload_n 1, 1) := by decide +kernel
theorem dX2_leaf_33 : decode cX2_leaf 33 = .ok (.ireturn, 1) := by decide +kernel
theorem dX2_leaf_34 : decode cX2_leaf 34 = .ok (.iload_n 2, 1) := by decide +kernel
theorem dX2_leaf_35 : decode cX2_leaf 35 = .ok (.ireturn, 1) := by decide +kernel
theorem dX2_leaf_36 : decode cX2_leaf 36 = .ok (.iload_n 3, 1) := by decide +kernel
theorem dX2_leaf_37 : decode cX2_leaf 37 = .ok (.ireturn, 1) := by decide +kernel
theorem dX2_leaf_38 : decode cX2_leaf 38 = .ok (.iload_n 0, 1) := by decide +kernel
theorem dX2_leaf_39 : decode cX2_leaf 39 = .ok (.ireturn, 1) := by decide +kernel
theorem dX2_joined_0 : decode cX2_joined 0 = .ok (.iload_n 0, 1) := by decide +kernel
theorem dX2_joined_1 : decode cX2_joined 1 = .ok (.tableswitch 202 37 62 #[143, 188, 202, 202, 202, 127, 119, 202, 123, 202, 131, 202, 202, 202, 202, 202, 202, 202, 202, 202, 202, 202, 202, 155, 166, 177], 119) := by decide +kernel
theorem dX2_joined_120 : decode cX2_joined 120 = .ok (.iload_n 1, 1) := by decide +kernel
theorem dX2_joined_121 : decode cX2_joined 121 = .ok (.iload_n 2, 1) := by decide +kernel
theorem dX2_joined_122 : decode cX2_joined 122 = .ok (.iadd, 1) := by decide +kernel
theorem dX2_joined_123 : decode cX2_joined 123 = .ok (.ireturn, 1) := by decide +kernel
theorem dX2_joined_124 : decode cX2_joined 124 = .ok (.iload_n 1, 1) := by decide +kernel
theorem dX2_joined_125 : decode cX2_joined 125 = .ok (.iload_n 2, 1) := by decide +kernel
theorem dX2_joined_126 : decode cX2_joined 126 = .ok (.isub, 1) := by decide +kernel
theorem dX2_joined_127 : decode cX2_joined 127 = .ok (.ireturn, 1) := by decide +kernel
theorem dX2_joined_128 : decode cX2_joined 128 = .ok (.iload_n 1, 1) := by decide +kernel
theorem dX2_joined_129 : decode cX2_joined 129 = .ok (.iload_n 2, 1) := by decide +kernel
theorem dX2_joined_130 : decode cX2_joined 130 = .ok (.imul, 1) := by decide +kernel
theorem dX2_joined_131 : decode cX2_joined 131 = .ok (.ireturn, 1) := by decide +kernel
theorem dX2_joined_132 : decode cX2_joined 132 = .ok (.iload_n 2, 1) := by decide +kernel
theorem dX2_joined_133 : decode cX2_joined 133 = .ok (.ifCond .ne 7, 3) := by decide +kernel
theorem dX2_joined_136 : decode cX2_joined 136 = .ok (.iconst 0, 1) := by decide +kernel
theorem dX2_joined_137 : decode cX2_joined 137 = .ok (.goto 6, 3) := by decide +kernel
theorem dX2_joined_140 : decode cX2_joined 140 = .ok (.iload_n 1, 1) := by decide +kernel
theorem dX2_joined_141 : decode cX2_joined 141 = .ok (.iload_n 2, 1) := by decide +kernel
theorem dX2_joined_142 : decode cX2_joined 142 = .ok (.idiv, 1) := by decide +kernel
theorem dX2_joined_143 : decode cX2_joined 143 = .ok (.ireturn, 1) := by decide +kernel
theorem dX2_joined_144 : decode cX2_joined 144 = .ok (.iload_n 2, 1) := by decide +kernel
theorem dX2_joined_145 : decode cX2_joined 145 = .ok (.ifCond .ne 7, 3) := by decide +kernel
theorem dX2_joined_148 : decode cX2_joined 148 = .ok (.iconst 0, 1) := by decide +kernel
theorem dX2_joined_149 : decode cX2_joined 149 = .ok (.goto 6, 3) := by decide +kernel
theorem dX2_joined_152 : decode cX2_joined 152 = .ok (.iload_n 1, 1) := by decide +kernel
theorem dX2_joined_153 : decode cX2_joined 153 = .ok (.iload_n 2, 1) := by decide +kernel
theorem dX2_joined_154 : decode cX2_joined 154 = .ok (.irem, 1) := by decide +kernel
theorem dX2_joined_155 : decode cX2_joined 155 = .ok (.ireturn, 1) := by decide +kernel
theorem dX2_joined_156 : decode cX2_joined 156 = .ok (.iload_n 1, 1) := by decide +kernel
theorem dX2_joined_157 : decode cX2_joined 157 = .ok (.iload_n 2, 1) := by decide +kernel
theorem dX2_joined_158 : decode cX2_joined 158 = .ok (.if_icmp .ge 7, 3) := by decide +kernel
theorem dX2_joined_161 : decode cX2_joined 161 = .ok (.iconst 1, 1) := by decide +kernel
theorem dX2_joined_162 : decode cX2_joined 162 = .ok (.goto 4, 3) := by decide +kernel
theorem dX2_joined_165 : decode cX2_joined 165 = .ok (.iconst 0, 1) := by decide +kernel
theorem dX2_joined_166 : decode cX2_joined 166 = .ok (.ireturn, 1) := by decide +kernel
theorem dX2_joined_167 : decode cX2_joined 167 = .ok (.iload_n 1, 1) := by decide +kernel
theorem dX2_joined_168 : decode cX2_joined 168 = .ok (.iload_n 2, 1) := by decide +kernel
theorem dX2_joined_169 : decode cX2_joined 169 = .ok (.if_icmp .ne 7, 3) := by decide +kernel
theorem dX2_joined_172 : decode cX2_joined 172 = .ok (.iconst 1, 1) := by decide +kernel
theorem dX2_joined_173 : decode cX2_joined 173 = .ok (.goto 4, 3) := by decide +kernel
theorem dX2_joined_176 : decode cX2_joined 176 = .ok (.iconst 0, 1) := by decide +kernel
theorem dX2_joined_177 : decode cX2_joined 177 = .ok (.ireturn, 1) := by decide +kernel
theorem dX2_joined_178 : decode cX2_joined 178 = .ok (.iload_n 1, 1) := by decide +kernel
theorem dX2_joined_179 : decode cX2_joined 179 = .ok (.iload_n 2, 1) := by decide +kernel
theorem dX2_joined_180 : decode cX2_joined 180 = .ok (.if_icmp .le 7, 3) := by decide +kernel
theorem dX2_joined_183 : decode cX2_joined 183 = .ok (.iconst 1, 1) := by decide +kernel
theorem dX2_joined_184 : decode cX2_joined 184 = .ok (.goto 4, 3) := by decide +kernel
theorem dX2_joined_187 : decode cX2_joined 187 = .ok (.iconst 0, 1) := by decide +kernel
theorem dX2_joined_188 : decode cX2_joined 188 = .ok (.ireturn, 1) := by decide +kernel
theorem dX2_joined_189 : decode cX2_joined 189 = .ok (.iload_n 1, 1) := by decide +kernel
theorem dX2_joined_190 : decode cX2_joined 190 = .ok (.ifCond .eq 11, 3) := by decide +kernel
theorem dX2_joined_193 : decode cX2_joined 193 = .ok (.iload_n 2, 1) := by decide +kernel
theorem dX2_joined_194 : decode cX2_joined 194 = .ok (.ifCond .eq 7, 3) := by decide +kernel
theorem dX2_joined_197 : decode cX2_joined 197 = .ok (.iconst 1, 1) := by decide +kernel
theorem dX2_joined_198 : decode cX2_joined 198 = .ok (.goto 4, 3) := by decide +kernel
theorem dX2_joined_201 : decode cX2_joined 201 = .ok (.iconst 0, 1) := by decide +kernel
theorem dX2_joined_202 : decode cX2_joined 202 = .ok (.ireturn, 1) := by decide +kernel
theorem dX2_joined_203 : decode cX2_joined 203 = .ok (.iload_n 1, 1) := by decide +kernel
theorem dX2_joined_204 : decode cX2_joined 204 = .ok (.ifCond .ne 7, 3) := by decide +kernel
theorem dX2_joined_207 : decode cX2_joined 207 = .ok (.iload_n 2, 1) := by decide +kernel
theorem dX2_joined_208 : decode cX2_joined 208 = .ok (.ifCond .eq 7, 3) := by decide +kernel
theorem dX2_joined_211 : decode cX2_joined 211 = .ok (.iconst 1, 1) := by decide +kernel
theorem dX2_joined_212 : decode cX2_joined 212 = .ok (.goto 4, 3) := by decide +kernel
theorem dX2_joined_215 : decode cX2_joined 215 = .ok (.iconst 0, 1) := by decide +kernel
theorem dX2_joined_216 : decode cX2_joined 216 = .ok (.ireturn, 1) := by decide +kernel
theorem dX3_init_0 : decode cX3_init 0 = .ok (.aload_n 0, 1) := by decide +kernel
theorem dX3_init_1 : decode cX3_init 1 = .ok (.invokespecial 3, 3) := by decide +kernel
theorem dX3_init_4 : decode cX3_init 4 = .ok (.aload_n 0, 1) := by decide +kernel
theorem dX3_init_5 : decode cX3_init 5 = .ok (.bipush 8, 2) := by decide +kernel
theorem dX3_init_7 : decode cX3_init 7 = .ok (.newarray .int, 2) := by decide +kernel
theorem dX3_init_9 : decode cX3_init 9 = .ok (.putfield 9, 3) := by decide +kernel
theorem dX3_init_12 : decode cX3_init 12 = .ok (.aload_n 0, 1) := by decide +kernel
theorem dX3_init_13 : decode cX3_init 13 = .ok (.bipush 8, 2) := by decide +kernel
theorem dX3_init_15 : decode cX3_init 15 = .ok (.newarray .int, 2) := by decide +kernel
theorem dX3_init_17 : decode cX3_init 17 = .ok (.putfield 15, 3) := by decide +kernel
theorem dX3_init_20 : decode cX3_init 20 = .ok (.aload_n 0, 1) := by decide +kernel
theorem dX3_init_21 : decode cX3_init 21 = .ok (.bipush 8, 2) := by decide +kernel
theorem dX3_init_23 : decode cX3_init 23 = .ok (.newarray .int, 2) := by decide +kernel
theorem dX3_init_25 : decode cX3_init 25 = .ok (.putfield 18, 3) := by decide +kernel
theorem dX3_init_28 : decode cX3_init 28 = .ok (.aload_n 0, 1) := by decide +kernel
theorem dX3_init_29 : decode cX3_init 29 = .ok (.bipush 8, 2) := by decide +kernel
theorem dX3_init_31 : decode cX3_init 31 = .ok (.newarray .int, 2) := by decide +kernel
theorem dX3_init_33 : decode cX3_init 33 = .ok (.putfield 21, 3) := by decide +kernel
theorem dX3_init_36 : decode cX3_init 36 = .ok (.aload_n 0, 1) := by decide +kernel
theorem dX3_init_37 : decode cX3_init 37 = .ok (.bipush 8, 2) := by decide +kernel
theorem dX3_init_39 : decode cX3_init 39 = .ok (.newarray .int, 2) := by decide +kernel
theorem dX3_init_41 : decode cX3_init 41 = .ok (.putfield 24, 3) := by decide +kernel
theorem dX3_init_44 : decode cX3_init 44 = .ok (.return_, 1) := by decide +kernel
theorem dX3_balance_0 : decode cX3_balance 0 = .ok (.aload_n 0, 1) := by decide +kernel
theorem dX3_balance_1 : decode cX3_balance 1 = .ok (.iconst 0, 1) := by decide +kernel
theorem dX3_balance_2 : decode cX3_balance 2 = .ok (.putfield 27, 3) := by decide +kernel
theorem dX3_balance_5 : decode cX3_balance 5 = .ok (.aload_n 0, 1) := by decide +kernel
theorem dX3_balance_6 : decode cX3_balance 6 = .ok (.iconst 0, 1) := by decide +kernel
theorem dX3_balance_7 : decode cX3_balance 7 = .ok (.putfield 31, 3) := by decide +kernel
theorem dX3_balance_10 : decode cX3_balance 10 = .ok (.iconst 0, 1) := by decide +kernel
theorem dX3_balance_11 : decode cX3_balance 11 = .ok (.istore_n 2, 1) := by decide +kernel
theorem dX3_balance_12 : decode cX3_balance 12 = .ok (.iload_n 2, 1) := by decide +kernel
theorem dX3_balance_13 : decode cX3_balance 13 = .ok (.aload_n 1, 1) := by decide +kernel
theorem dX3_balance_14 : decode cX3_balance 14 = .ok (.getfield 34, 3) := by decide +kernel
theorem dX3_balance_17 : decode cX3_balance 17 = .ok (.if_icmp .ge 93, 3) := by decide +kernel
theorem dX3_balance_20 : decode cX3_balance 20 = .ok (.aload_n 0, 1) := by decide +kernel
theorem dX3_balance_21 : decode cX3_balance 21 = .ok (.getfield 21, 3) := by decide +kernel
theorem dX3_balance_24 : decode cX3_balance 24 = .ok (.iload_n 2, 1) := by decide +kernel
theorem dX3_balance_25 : decode cX3_balance 25 = .ok (.aload_n 1, 1) := by decide +kernel
theorem dX3_balance_26 : decode cX3_balance 26 = .ok (.getfield 39, 3) := by decide +kernel
theorem dX3_balance_29 : decode cX3_balance 29 = .ok (.iload_n 2, 1) := by decide +kernel
theorem dX3_balance_30 : decode cX3_balance 30 = .ok (.aaload, 1) := by decide +kernel
theorem dX3_balance_31 : decode cX3_balance 31 = .ok (.invokevirtual 43, 3) := by decide +kernel
theorem dX3_balance_34 : decode cX3_balance 34 = .ok (.iastore, 1) := by decide +kernel
theorem dX3_balance_35 : decode cX3_balance 35 = .ok (.aload_n 1, 1) := by decide +kernel
theorem dX3_balance_36 : decode cX3_balance 36 = .ok (.getfield 39, 3) := by decide +kernel
theorem dX3_balance_39 : decode cX3_balance 39 = .ok (.iload_n 2, 1) := by decide +kernel
theorem dX3_balance_40 : decode cX3_balance 40 = .ok (.aaload, 1) := by decide +kernel
theorem dX3_balance_41 : decode cX3_balance 41 = .ok (.getfield 49, 3) := by decide +kernel
theorem dX3_balance_44 : decode cX3_balance 44 = .ok (.ifCond .ne 26, 3) := by decide +kernel
theorem dX3_balance_47 : decode cX3_balance 47 = .ok (.aload_n 0, 1) := by decide +kernel
theorem dX3_balance_48 : decode cX3_balance 48 = .ok (.getfield 9, 3) := by decide +kernel
theorem dX3_balance_51 : decode cX3_balance 51 = .ok (.aload_n 0, 1) := by decide +kernel
theorem dX3_balance_52 : decode cX3_balance 52 = .ok (.getfield 27, 3) := by decide +kernel
theorem dX3_balance_55 : decode cX3_balance 55 = .ok (.iload_n 2, 1) := by decide +kernel
theorem dX3_balance_56 : decode cX3_balance 56 = .ok (.iastore, 1) := by decide +kernel
theorem dX3_balance_57 : decode cX3_balance 57 = .ok (.aload_n 0, 1) := by decide +kernel
theorem dX3_balance_58 : decode cX3_balance 58 = .ok (.dup, 1) := by decide +kernel
theorem dX3_balance_59 : decode cX3_balance 59 = .ok (.getfield 27, 3) := by decide +kernel
theorem dX3_balance_62 : decode cX3_balance 62 = .ok (.iconst 1, 1) := by decide +kernel
theorem dX3_balance_63 : decode cX3_balance 63 = .ok (.iadd, 1) := by decide +kernel
theorem dX3_balance_64 : decode cX3_balance 64 = .ok (.putfield 27, 3) := by decide +kernel
theorem dX3_balance_67 : decode cX3_balance 67 = .ok (.goto 37, 3) := by decide +kernel
theorem dX3_balance_70 : decode cX3_balance 70 = .ok (.aload_n 1, 1) := by decide +kernel
theorem dX3_balance_71 : decode cX3_balance 71 = .ok (.getfield 39, 3) := by decide +kernel
theorem dX3_balance_74 : decode cX3_balance 74 = .ok (.iload_n 2, 1) := by decide +kernel
theorem dX3_balance_75 : decode cX3_balance 75 = .ok (.aaload, 1) := by decide +kernel
theorem dX3_balance_76 : decode cX3_balance 76 = .ok (.getfield 49, 3) := by decide +kernel
theorem dX3_balance_79 : decode cX3_balance 79 = .ok (.bipush 40, 2) := by decide +kernel
theorem dX3_balance_81 : decode cX3_balance 81 = .ok (.if_icmp .ne 23, 3) := by decide +kernel
theorem dX3_balance_84 : decode cX3_balance 84 = .ok (.aload_n 0, 1) := by decide +kernel
theorem dX3_balance_85 : decode cX3_balance 85 = .ok (.getfield 15, 3) := by decide +kernel
theorem dX3_balance_88 : decode cX3_balance 88 = .ok (.aload_n 0, 1) := by decide +kernel
theorem dX3_balance_89 : decode cX3_balance 89 = .ok (.getfield 31, 3) := by decide +kernel
theorem dX3_balance_92 : decode cX3_balance 92 = .ok (.iload_n 2, 1) := by decide +kernel
theorem dX3_balance_93 : decode cX3_balance 93 = .ok (.iastore, 1) := by decide +kernel
theorem dX3_balance_94 : decode cX3_balance 94 = .ok (.aload_n 0, 1) := by decide +kernel
theorem dX3_balance_95 : decode cX3_balance 95 = .ok (.dup, 1) := by decide +kernel
theorem dX3_balance_96 : decode cX3_balance 96 = .ok (.getfield 31, 3) := by decide +kernel
theorem dX3_balance_99 : decode cX3_balance 99 = .ok (.iconst 1, 1) := by decide +kernel
theorem dX3_balance_100 : decode cX3_balance 100 = .ok (.iadd, 1) := by decide +kernel
theorem dX3_balance_101 : decode cX3_balance 101 = .ok (.putfield 31, 3) := by decide +kernel
theorem dX3_balance_104 : decode cX3_balance 104 = .ok (.iinc 2 1, 3) := by decide +kernel
theorem dX3_balance_107 : decode cX3_balance 107 = .ok (.goto (-95), 3) := by decide +kernel
theorem dX3_balance_110 : decode cX3_balance 110 = .ok (.aload_n 0, 1) := by decide +kernel
theorem dX3_balance_111 : decode cX3_balance 111 = .ok (.aload_n 0, 1) := by decide +kernel
theorem dX3_balance_112 : decode cX3_balance 112 = .ok (.getfield 27, 3) := by decide +kernel
theorem dX3_balance_115 : decode cX3_balance 115 = .ok (.aload_n 0, 1) := by decide +kernel
theorem dX3_balance_116 : decode cX3_balance 116 = .ok (.getfield 31, 3) := by decide +kernel
theorem dX3_balance_119 : decode cX3_balance 119 = .ok (.invokestatic 52, 3) := by decide +kernel
theorem dX3_balance_122 : decode cX3_balance 122 = .ok (.putfield 58, 3) := by decide +kernel
theorem dX3_balance_125 : decode cX3_balance 125 = .ok (.aload_n 0, 1) := by decide +kernel
theorem dX3_balance_126 : decode cX3_balance 126 = .ok (.iconst (-1), 1) := by decide +kernel
theorem dX3_balance_127 : decode cX3_balance 127 = .ok (.putfield 61, 3) := by decide +kernel
theorem dX3_balance_130 : decode cX3_balance 130 = .ok (.aload_n 0, 1) := by decide +kernel
theorem dX3_balance_131 : decode cX3_balance 131 = .ok (.iconst 0, 1) := by decide +kernel
theorem dX3_balance_132 : decode cX3_balance 132 = .ok (.iconst 0, 1) := by decide +kernel
theorem dX3_balance_133 : decode cX3_balance 133 = .ok (.iconst 0, 1) := by decide +kernel
theorem dX3_balance_134 : decode cX3_balance 134 = .ok (.invokevirtual 64, 3) := by decide +kernel
theorem dX3_balance_137 : decode cX3_balance 137 = .ok (.return_, 1) := by decide +kernel
theorem dX3_pairFrom_0 : decode cX3_pairFrom 0 = .ok (.iload_n 1, 1) := by decide +kernel
theorem dX3_pairFrom_1 : decode cX3_pairFrom 1 = .ok (.aload_n 0, 1) := by decide +kernel
theorem dX3_pairFrom_2 : decode cX3_pairFrom 2 = .ok (.getfield 27, 3) := by decide +kernel
theorem dX3_pairFrom_5 : decode cX3_pairFrom 5 = .ok (.if_icmp .lt 9, 3) := by decide +kernel
theorem dX3_pairFrom_8 : decode cX3_pairFrom 8 = .ok (.aload_n 0, 1) := by decide +kernel
theorem dX3_pairFrom_9 : decode cX3_pairFrom 9 = .ok (.iload_n 3, 1) := by decide +kernel
theorem dX3_pairFrom_10 : decode cX3_pairFrom 10 = .ok (.invokevirtual 68, 3) := by decide +kernel
theorem dX3_pairFrom_13 : decode cX3_pairFrom 13 = .ok (.return_, 1) := by decide +kernel
theorem dX3_pairFrom_14 : decode cX3_pairFrom 14 = .ok (.iconst 0, 1) := by decide +kernel
theorem dX3_pairFrom_15 : decode cX3_pairFrom 15 = .ok (.istore 4, 2) := by decide +kernel
theorem dX3_pairFrom_17 : decode cX3_pairFrom 17 = .ok (.iload 4, 2) := by decide +kernel
theorem dX3_pairFrom_19 : decode cX3_pairFrom 19 = .ok (.aload_n 0, 1) := by decide +kernel
theorem dX3_pairFrom_20 : decode cX3_pairFrom 20 = .ok (.getfield 31, 3) := by decide +kernel
theorem dX3_pairFrom_23 : decode cX3_pairFrom 23 = .ok (.if_icmp .ge 68, 3) := by decide +kernel
theorem dX3_pairFrom_26 : decode cX3_pairFrom 26 = .ok (.iload_n 2, 1) := by decide +kernel
theorem dX3_pairFrom_27 : decode cX3_pairFrom 27 = .ok (.iload 4, 2) := by decide +kernel
theorem dX3_pairFrom_29 : decode cX3_pairFrom 29 = .ok (.ishr, 1) := by decide +kernel
theorem dX3_pairFrom_30 : decode cX3_pairFrom 30 = .ok (.iconst 1, 1) := by decide +kernel
theorem dX3_pairFrom_31 : decode cX3_pairFrom 31 = .ok (.iand, 1) := by decide +kernel
theorem dX3_pairFrom_32 : decode cX3_pairFrom 32 = .ok (.ifCond .ne 53, 3) := by decide +kernel
theorem dX3_pairFrom_35 : decode cX3_pairFrom 35 = .ok (.aload_n 0, 1) := by decide +kernel
theorem dX3_pairFrom_36 : decode cX3_pairFrom 36 = .ok (.getfield 18, 3) := by decide +kernel
theorem dX3_pairFrom_39 : decode cX3_pairFrom 39 = .ok (.iload_n 1, 1) := by decide +kernel
theorem dX3_pairFrom_40 : decode cX3_pairFrom 40 = .ok (.iload 4, 2) := by decide +kernel
theorem dX3_pairFrom_42 : decode cX3_pairFrom 42 = .ok (.iastore, 1) := by decide +kernel
theorem dX3_pairFrom_43 : decode cX3_pairFrom 43 = .ok (.aload_n 0, 1) := by decide +kernel
theorem dX3_pairFrom_44 : decode cX3_pairFrom 44 = .ok (.iload_n 1, 1) := by decide +kernel
theorem dX3_pairFrom_45 : decode cX3_pairFrom 45 = .ok (.iconst 1, 1) := by decide +kernel
theorem dX3_pairFrom_46 : decode cX3_pairFrom 46 = .ok (.iadd, 1) := by decide +kernel
theorem dX3_pairFrom_47 : decode cX3_pairFrom 47 = .ok (.iload_n 2, 1) := by decide +kernel
theorem dX3_pairFrom_48 : decode cX3_pairFrom 48 = .ok (.iconst 1, 1) := by decide +kernel
theorem dX3_pairFrom_49 : decode cX3_pairFrom 49 = .ok (.iload 4, 2) := by decide +kernel
theorem dX3_pairFrom_51 : decode cX3_pairFrom 51 = .ok (.ishl, 1) := by decide +kernel
theorem dX3_pairFrom_52 : decode cX3_pairFrom 52 = .ok (.ior, 1) := by decide +kernel
theorem dX3_pairFrom_53 : decode cX3_pairFrom 53 = .ok (.iload_n 3, 1) := by decide +kernel
theorem dX3_pairFrom_54 : decode cX3_pairFrom 54 = .ok (.aload_n 0, 1) := by decide +kernel
theorem dX3_pairFrom_55 : decode cX3_pairFrom 55 = .ok (.getfield 21, 3) := by decide +kernel
theorem dX3_pairFrom_58 : decode cX3_pairFrom 58 = .ok (.aload_n 0, 1) := by decide +kernel
theorem dX3_pairFrom_59 : decode cX3_pairFrom 59 = .ok (.getfield 9, 3) := by decide +kernel
theorem dX3_pairFrom_62 : decode cX3_pairFrom 62 = .ok (.iload_n 1, 1) := by decide +kernel
theorem dX3_pairFrom_63 : decode cX3_pairFrom 63 = .ok (.iaload, 1) := by decide +kernel
theorem dX3_pairFrom_64 : decode cX3_pairFrom 64 = .ok (.iaload, 1) := by decide +kernel
theorem dX3_pairFrom_65 : decode cX3_pairFrom 65 = .ok (.aload_n 0, 1) := by decide +kernel
theorem dX3_pairFrom_66 : decode cX3_pairFrom 66 = .ok (.getfield 21, 3) := by decide +kernel
theorem dX3_pairFrom_69 : decode cX3_pairFrom 69 = .ok (.aload_n 0, 1) := by decide +kernel
theorem dX3_pairFrom_70 : decode cX3_pairFrom 70 = .ok (.getfield 15, 3) := by decide +kernel
theorem dX3_pairFrom_73 : decode cX3_pairFrom 73 = .ok (.iload 4, 2) := by decide +kernel
theorem dX3_pairFrom_75 : decode cX3_pairFrom 75 = .ok (.iaload, 1) := by decide +kernel
theorem dX3_pairFrom_76 : decode cX3_pairFrom 76 = .ok (.iaload, 1) := by decide +kernel
theorem dX3_pairFrom_77 : decode cX3_pairFrom 77 = .ok (.isub, 1) := by decide +kernel
theorem dX3_pairFrom_78 : decode cX3_pairFrom 78 = .ok (.invokestatic 72, 3) := by decide +kernel
theorem dX3_pairFrom_81 : decode cX3_pairFrom 81 = .ok (.iadd, 1) := by decide +kernel
theorem dX3_pairFrom_82 : decode cX3_pairFrom 82 = .ok (.invokevirtual 64, 3) := by decide +kernel
theorem dX3_pairFrom_85 : decode cX3_pairFrom 85 = .ok (.iinc 4 1, 3) := by decide +kernel
theorem dX3_pairFrom_88 : decode cX3_pairFrom 88 = .ok (.goto (-71), 3) := by decide +kernel
theorem dX3_pairFrom_91 : decode cX3_pairFrom 91 = .ok (.iload_n 2, 1) := by decide +kernel
theorem dX3_pairFrom_92 : decode cX3_pairFrom 92 = .ok (.invokestatic 76, 3) := by decide +kernel
theorem dX3_pairFrom_95 : decode cX3_pairFrom 95 = .ok (.aload_n 0, 1) := by decide +kernel
theorem dX3_pairFrom_96 : decode cX3_pairFrom 96 = .ok (.getfield 27, 3) := by decide +kernel
theorem dX3_pairFrom_99 : decode cX3_pairFrom 99 = .ok (.iadd, 1) := by decide +kernel
theorem dX3_pairFrom_100 : decode cX3_pairFrom 100 = .ok (.iload_n 1, 1) := by decide +kernel
theorem dX3_pairFrom_101 : decode cX3_pairFrom 101 = .ok (.isub, 1) := by decide +kernel
theorem dX3_pairFrom_102 : decode cX3_pairFrom 102 = .ok (.iconst 1, 1) := by decide +kernel
theorem dX3_pairFrom_103 : decode cX3_pairFrom 103 = .ok (.isub, 1) := by decide +kernel
theorem dX3_pairFrom_104 : decode cX3_pairFrom 104 = .ok (.aload_n 0, 1) := by decide +kernel
theorem dX3_pairFrom_105 : decode cX3_pairFrom 105 = .ok (.getfield 58, 3) := by decide +kernel
theorem dX3_pairFrom_108 : decode cX3_pairFrom 108 = .ok (.if_icmp .lt 19, 3) := by decide +kernel
theorem dX3_pairFrom_111 : decode cX3_pairFrom 111 = .ok (.aload_n 0, 1) := by decide +kernel
theorem dX3_pairFrom_112 : decode cX3_pairFrom 112 = .ok (.getfield 18, 3) := by decide +kernel
theorem dX3_pairFrom_115 : decode cX3_pairFrom 115 = .ok (.iload_n 1, 1) := by decide +kernel
theorem dX3_pairFrom_116 : decode cX3_pairFrom 116 = .ok (.iconst (-1), 1) := by decide +kernel
theorem dX3_pairFrom_117 : decode cX3_pairFrom 117 = .ok (.iastore, 1) := by decide +kernel
theorem dX3_pairFrom_118 : decode cX3_pairFrom 118 = .ok (.aload_n 0, 1) := by decide +kernel
theorem dX3_pairFrom_119 : decode cX3_pairFrom 119 = .ok (.iload_n 1, 1) := by decide +kernel
theorem dX3_pairFrom_120 : decode cX3_pairFrom 120 = .ok (.iconst 1, 1) := by decide +kernel
theorem dX3_pairFrom_121 : decode cX3_pairFrom 121 = .ok (.iadd, 1) := by decide +kernel
theorem dX3_pairFrom_122 : decode cX3_pairFrom 122 = .ok (.iload_n 2, 1) := by decide +kernel
theorem dX3_pairFrom_123 : decode cX3_pairFrom 123 = .ok (.iload_n 3, 1) := by decide +kernel
theorem dX3_pairFrom_124 : decode cX3_pairFrom 124 = .ok (.invokevirtual 64, 3) := by decide +kernel
theorem dX3_pairFrom_127 : decode cX3_pairFrom 127 = .ok (.return_, 1) := by decide +kernel
theorem dX3_keepIfBetter_0 : decode cX3_keepIfBetter 0 = .ok (.aload_n 0, 1) := by decide +kernel
theorem dX3_keepIfBetter_1 : decode cX3_keepIfBetter 1 = .ok (.getfield 61, 3) := by decide +kernel
theorem dX3_keepIfBetter_4 : decode cX3_keepIfBetter 4 = .ok (.ifCond .lt 12, 3) := by decide +kernel
theorem dX3_keepIfBetter_7 : decode cX3_keepIfBetter 7 = .ok (.iload_n 1, 1) := by decide +kernel
theorem dX3_keepIfBetter_8 : decode cX3_keepIfBetter 8 = .ok (.aload_n 0, 1) := by decide +kernel
theorem dX3_keepIfBetter_9 : decode cX3_keepIfBetter 9 = .ok (.getfield 61, 3) := by decide +kernel
theorem dX3_keepIfBetter_12 : decode cX3_keepIfBetter 12 = .ok (.if_icmp .lt 4, 3) := by decide +kernel
theorem dX3_keepIfBetter_15 : decode cX3_keepIfBetter 15 = .ok (.return_, 1) := by decide +kernel
theorem dX3_keepIfBetter_16 : decode cX3_keepIfBetter 16 = .ok (.aload_n 0, 1) := by decide +kernel
theorem dX3_keepIfBetter_17 : decode cX3_keepIfBetter 17 = .ok (.iload_n 1, 1) := by decide +kernel
theorem dX3_keepIfBetter_18 : decode cX3_keepIfBetter 18 = .ok (.putfield 61, 3) := by decide +kernel
theorem dX3_keepIfBetter_21 : decode cX3_keepIfBetter 21 = .ok (.aload_n 0, 1) := by decide +kernel
theorem dX3_keepIfBetter_22 : decode cX3_keepIfBetter 22 = .ok (.getfield 24, 3) := by decide +kernel
theorem dX3_keepIfBetter_25 : decode cX3_keepIfBetter 25 = .ok (.iconst (-1), 1) := by decide +kernel
theorem dX3_keepIfBetter_26 : decode cX3_keepIfBetter 26 = .ok (.invokestatic 81, 3) := by decide +kernel
theorem dX3_keepIfBetter_29 : decode cX3_keepIfBetter 29 = .ok (.iconst 0, 1) := by decide +kernel
theorem dX3_keepIfBetter_30 : decode cX3_keepIfBetter 30 = .ok (.istore_n 2, 1) := by decide +kernel
theorem dX3_keepIfBetter_31 : decode cX3_keepIfBetter 31 = .ok (.iload_n 2, 1) := by decide +kernel
theorem dX3_keepIfBetter_32 : decode cX3_keepIfBetter 32 = .ok (.aload_n 0, 1) := by decide +kernel
theorem dX3_keepIfBetter_33 : decode cX3_keepIfBetter 33 = .ok (.getfield 27, 3) := by decide +kernel
theorem dX3_keepIfBetter_36 : decode cX3_keepIfBetter 36 = .ok (.if_icmp .ge 62, 3) := by decide +kernel
theorem dX3_keepIfBetter_39 : decode cX3_keepIfBetter 39 = .ok (.aload_n 0, 1) := by decide +kernel
theorem dX3_keepIfBetter_40 : decode cX3_keepIfBetter 40 = .ok (.getfield 18, 3) := by decide +kernel
theorem dX3_keepIfBetter_43 : decode cX3_keepIfBetter 43 = .ok (.iload_n 2, 1) := by decide +kernel
theorem dX3_keepIfBetter_44 : decode cX3_keepIfBetter 44 = .ok (.iaload, 1) := by decide +kernel
theorem dX3_keepIfBetter_45 : decode cX3_keepIfBetter 45 = .ok (.ifCond .lt 47, 3) := by decide +kernel
theorem dX3_keepIfBetter_48 : decode cX3_keepIfBetter 48 = .ok (.aload_n 0, 1) := by decide +kernel
theorem dX3_keepIfBetter_49 : decode cX3_keepIfBetter 49 = .ok (.getfield 24, 3) := by decide +kernel
theorem dX3_keepIfBetter_52 : decode cX3_keepIfBetter 52 = .ok (.aload_n 0, 1) := by decide +kernel
theorem dX3_keepIfBetter_53 : decode cX3_keepIfBetter 53 = .ok (.getfield 9, 3) := by decide +kernel
theorem dX3_keepIfBetter_56 : decode cX3_keepIfBetter 56 = .ok (.iload_n 2, 1) := by decide +kernel
theorem dX3_keepIfBetter_57 : decode cX3_keepIfBetter 57 = .ok (.iaload, 1) := by decide +kernel
theorem dX3_keepIfBetter_58 : decode cX3_keepIfBetter 58 = .ok (.aload_n 0, 1) := by decide +kernel
theorem dX3_keepIfBetter_59 : decode cX3_keepIfBetter 59 = .ok (.getfield 15, 3) := by decide +kernel
theorem dX3_keepIfBetter_62 : decode cX3_keepIfBetter 62 = .ok (.aload_n 0, 1) := by decide +kernel
theorem dX3_keepIfBetter_63 : decode cX3_keepIfBetter 63 = .ok (.getfield 18, 3) := by decide +kernel
theorem dX3_keepIfBetter_66 : decode cX3_keepIfBetter 66 = .ok (.iload_n 2, 1) := by decide +kernel
theorem dX3_keepIfBetter_67 : decode cX3_keepIfBetter 67 = .ok (.iaload, 1) := by decide +kernel
theorem dX3_keepIfBetter_68 : decode cX3_keepIfBetter 68 = .ok (.iaload, 1) := by decide +kernel
theorem dX3_keepIfBetter_69 : decode cX3_keepIfBetter 69 = .ok (.iastore, 1) := by decide +kernel
theorem dX3_keepIfBetter_70 : decode cX3_keepIfBetter 70 = .ok (.aload_n 0, 1) := by decide +kernel
theorem dX3_keepIfBetter_71 : decode cX3_keepIfBetter 71 = .ok (.getfield 24, 3) := by decide +kernel
theorem dX3_keepIfBetter_74 : decode cX3_keepIfBetter 74 = .ok (.aload_n 0, 1) := by decide +kernel
theorem dX3_keepIfBetter_75 : decode cX3_keepIfBetter 75 = .ok (.getfield 15, 3) := by decide +kernel
theorem dX3_keepIfBetter_78 : decode cX3_keepIfBetter 78 = .ok (.aload_n 0, 1) := by decide +kernel
theorem dX3_keepIfBetter_79 : decode cX3_keepIfBetter 79 = .ok (.getfield 18, 3) := by decide +kernel
theorem dX3_keepIfBetter_82 : decode cX3_keepIfBetter 82 = .ok (.iload_n 2, 1) := by decide +kernel
theorem dX3_keepIfBetter_83 : decode cX3_keepIfBetter 83 = .ok (.iaload, 1) := by decide +kernel
theorem dX3_keepIfBetter_84 : decode cX3_keepIfBetter 84 = .ok (.iaload, 1) := by decide +kernel
theorem dX3_keepIfBetter_85 : decode cX3_keepIfBetter 85 = .ok (.aload_n 0, 1) := by decide +kernel
theorem dX3_keepIfBetter_86 : decode cX3_keepIfBetter 86 = .ok (.getfield 9, 3) := by decide +kernel
theorem dX3_keepIfBetter_89 : decode cX3_keepIfBetter 89 = .ok (.iload_n 2, 1) := by decide +kernel
theorem dX3_keepIfBetter_90 : decode cX3_keepIfBetter 90 = .ok (.iaload, 1) := by decide +kernel
theorem dX3_keepIfBetter_91 : decode cX3_keepIfBetter 91 = .ok (.iastore, 1) := by decide +kernel
theorem dX3_keepIfBetter_92 : decode cX3_keepIfBetter 92 = .ok (.iinc 2 1, 3) := by decide +kernel
theorem dX3_keepIfBetter_95 : decode cX3_keepIfBetter 95 = .ok (.goto (-64), 3) := by decide +kernel
theorem dX3_keepIfBetter_98 : decode cX3_keepIfBetter 98 = .ok (.return_, 1) := by decide +kernel
theorem dX4_init_0 : decode cX4_init 0 = .ok (.aload_n 0, 1) := by decide +kernel
theorem dX4_init_1 : decode cX4_init 1 = .ok (.invokespecial 3, 3) := by decide +kernel
theorem dX4_init_4 : decode cX4_init 4 = .ok (.aload_n 0, 1) := by decide +kernel
theorem dX4_init_5 : decode cX4_init 5 = .ok (.bipush 50, 2) := by decide +kernel
theorem dX4_init_7 : decode cX4_init 7 = .ok (.newarray .int, 2) := by decide +kernel
theorem dX4_init_9 : decode cX4_init 9 = .ok (.putfield 9, 3) := by decide +kernel
theorem dX4_init_12 : decode cX4_init 12 = .ok (.aload_n 0, 1) := by decide +kernel
theorem dX4_init_13 : decode cX4_init 13 = .ok (.iconst 0, 1) := by decide +kernel
theorem dX4_init_14 : decode cX4_init 14 = .ok (.newarray .byte, 2) := by decide +kernel
theorem dX4_init_16 : decode cX4_init 16 = .ok (.putfield 15, 3) := by decide +kernel
theorem dX4_init_19 : decode cX4_init 19 = .ok (.aload_n 0, 1) := by decide +kernel
theorem dX4_init_20 : decode cX4_init 20 = .ok (.ldc 19, 2) := by decide +kernel
theorem dX4_init_22 : decode cX4_init 22 = .ok (.putfield 21, 3) := by decide +kernel
theorem dX4_init_25 : decode cX4_init 25 = .ok (.return_, 1) := by decide +kernel
theorem dX4_fault_0 : decode cX4_fault 0 = .ok (.aload_n 0, 1) := by decide +kernel
theorem dX4_fault_1 : decode cX4_fault 1 = .ok (.aload_n 1, 1) := by decide +kernel
theorem dX4_fault_2 : decode cX4_fault 2 = .ok (.putfield 15, 3) := by decide +kernel
theorem dX4_fault_5 : decode cX4_fault 5 = .ok (.aload_n 0, 1) := by decide +kernel
theorem dX4_fault_6 : decode cX4_fault 6 = .ok (.iload_n 2, 1) := by decide +kernel
theorem dX4_fault_7 : decode cX4_fault 7 = .ok (.aload_n 1, 1) := by decide +kernel
theorem dX4_fault_8 : decode cX4_fault 8 = .ok (.arraylength, 1) := by decide +kernel
theorem dX4_fault_9 : decode cX4_fault 9 = .ok (.invokestatic 25, 3) := by decide +kernel
theorem dX4_fault_12 : decode cX4_fault 12 = .ok (.putfield 31, 3) := by decide +kernel
theorem dX4_fault_15 : decode cX4_fault 15 = .ok (.aload_n 0, 1) := by decide +kernel
theorem dX4_fault_16 : decode cX4_fault 16 = .ok (.iload_n 3, 1) := by decide +kernel
theorem dX4_fault_17 : decode cX4_fault 17 = .ok (.ifCond .ne 8, 3) := by decide +kernel
theorem dX4_fault_20 : decode cX4_fault 20 = .ok (.ldc 35, 2) := by decide +kernel
theorem dX4_fault_22 : decode cX4_fault 22 = .ok (.goto 5, 3) := by decide +kernel
theorem dX4_fault_25 : decode cX4_fault 25 = .ok (.ldc 37, 2) := by decide +kernel
theorem dX4_fault_27 : decode cX4_fault 27 = .ok (.putfield 21, 3) := by decide +kernel
theorem dX4_fault_30 : decode cX4_fault 30 = .ok (.aload_n 0, 1) := by decide +kernel
theorem dX4_fault_31 : decode cX4_fault 31 = .ok (.iconst 0, 1) := by decide +kernel
theorem dX4_fault_32 : decode cX4_fault 32 = .ok (.putfield 39, 3) := by decide +kernel
theorem dX4_fault_35 : decode cX4_fault 35 = .ok (.aload_n 0, 1) := by decide +kernel
theorem dX4_fault_36 : decode cX4_fault 36 = .ok (.iconst 0, 1) := by decide +kernel
theorem dX4_fault_37 : decode cX4_fault 37 = .ok (.putfield 42, 3) := by decide +kernel
theorem dX4_fault_40 : decode cX4_fault 40 = .ok (.aload_n 0, 1) := by decide +kernel
theorem dX4_fault_41 : decode cX4_fault 41 = .ok (.iconst 0, 1) := by decide +kernel
theorem dX4_fault_42 : decode cX4_fault 42 = .ok (.iconst 0, 1) := by decide +kernel
theorem dX4_fault_43 : decode cX4_fault 43 = .ok (.invokevirtual 45, 3) := by decide +kernel
theorem dX4_fault_46 : decode cX4_fault 46 = .ok (.ifCond .eq 18, 3) := by decide +kernel
theorem dX4_fault_49 : decode cX4_fault 49 = .ok (.aload_n 0, 1) := by decide +kernel
theorem dX4_fault_50 : decode cX4_fault 50 = .ok (.getfield 39, 3) := by decide +kernel
theorem dX4_fault_53 : decode cX4_fault 53 = .ok (.aload_n 0, 1) := by decide +kernel
theorem dX4_fault_54 : decode cX4_fault 54 = .ok (.getfield 31, 3) := by decide +kernel
theorem dX4_fault_57 : decode cX4_fault 57 = .ok (.if_icmp .ne 7, 3) := by decide +kernel
theorem dX4_fault_60 : decode cX4_fault 60 = .ok (.iconst (-1), 1) := by decide +kernel
theorem dX4_fault_61 : decode cX4_fault 61 = .ok (.goto 7, 3) := by decide +kernel
theorem dX4_fault_64 : decode cX4_fault 64 = .ok (.aload_n 0, 1) := by decide +kernel
theorem dX4_fault_65 : decode cX4_fault 65 = .ok (.getfield 39, 3) := by decide +kernel
theorem dX4_fault_68 : decode cX4_fault 68 = .ok (.ireturn, 1) := by decide +kernel
theorem dX4_readJoined_0 : decode cX4_readJoined 0 = .ok (.iload_n 1, 1) := by decide +kernel
theorem dX4_readJoined_1 : decode cX4_readJoined 1 = .ok (.iconst 4, 1) := by decide +kernel
theorem dX4_readJoined_2 : decode cX4_readJoined 2 = .ok (.if_icmp .le 9, 3) := by decide +kernel
theorem dX4_readJoined_5 : decode cX4_readJoined 5 = .ok (.aload_n 0, 1) := by decide +kernel
theorem dX4_readJoined_6 : decode cX4_readJoined 6 = .ok (.iload_n 2, 1) := by decide +kernel
theorem dX4_readJoined_7 : decode cX4_readJoined 7 = .ok (.invokevirtual 49, 3) := by decide +kernel
theorem dX4_readJoined_10 : decode cX4_readJoined 10 = .ok (.ireturn, 1) := by decide +kernel
theorem dX4_readJoined_11 : decode cX4_readJoined 11 = .ok (.aload_n 0, 1) := by decide +kernel
theorem dX4_readJoined_12 : decode cX4_readJoined 12 = .ok (.iload_n 1, 1) := by decide +kernel
theorem dX4_readJoined_13 : decode cX4_readJoined 13 = .ok (.iconst 1, 1) := by decide +kernel
theorem dX4_readJoined_14 : decode cX4_readJoined 14 = .ok (.iadd, 1) := by decide +kernel
theorem dX4_readJoined_15 : decode cX4_readJoined 15 = .ok (.iload_n 2, 1) := by decide +kernel
theorem dX4_readJoined_16 : decode cX4_readJoined 16 = .ok (.invokevirtual 45, 3) := by decide +kernel
theorem dX4_readJoined_19 : decode cX4_readJoined 19 = .ok (.ifCond .ne 5, 3) := by decide +kernel
theorem dX4_readJoined_22 : decode cX4_readJoined 22 = .ok (.iconst 0, 1) := by decide +kernel
theorem dX4_readJoined_23 : decode cX4_readJoined 23 = .ok (.ireturn, 1) := by decide +kernel
theorem dX4_readJoined_24 : decode cX4_readJoined 24 = .ok (.aload_n 0, 1) := by decide +kernel
theorem dX4_readJoined_25 : decode cX4_readJoined 25 = .ok (.getfield 39, 3) := by decide +kernel
theorem dX4_readJoined_28 : decode cX4_readJoined 28 = .ok (.aload_n 0, 1) := by decide +kernel
theorem dX4_readJoined_29 : decode cX4_readJoined 29 = .ok (.getfield 31, 3) := by decide +kernel
theorem dX4_readJoined_32 : decode cX4_readJoined 32 = .ok (.if_icmp .ge 72, 3) := by decide +kernel
theorem dX4_readJoined_35 : decode cX4_readJoined 35 = .ok (.aload_n 0, 1) := by decide +kernel
theorem dX4_readJoined_36 : decode cX4_readJoined 36 = .ok (.getfield 15, 3) := by decide +kernel
theorem dX4_readJoined_39 : decode cX4_readJoined 39 = .ok (.aload_n 0, 1) := by decide +kernel
theorem dX4_readJoined_40 : decode cX4_readJoined 40 = .ok (.getfield 39, 3) := by decide +kernel
theorem dX4_readJoined_43 : decode cX4_readJoined 43 = .ok (.baload, 1) := by decide +kernel
theorem dX4_readJoined_44 : decode cX4_readJoined 44 = .ok (.invokestatic 53, 3) := by decide +kernel
theorem dX4_readJoined_47 : decode cX4_readJoined 47 = .ok (.iload_n 1, 1) := by decide +kernel
theorem dX4_readJoined_48 : decode cX4_readJoined 48 = .ok (.if_icmp .ne 56, 3) := by decide +kernel
theorem dX4_readJoined_51 : decode cX4_readJoined 51 = .ok (.aload_n 0, 1) := by decide +kernel
theorem dX4_readJoined_52 : decode cX4_readJoined 52 = .ok (.getfield 15, 3) := by decide +kernel
theorem dX4_readJoined_55 : decode cX4_readJoined 55 = .ok (.aload_n 0, 1) := by decide +kernel
theorem dX4_readJoined_56 : decode cX4_readJoined 56 = .ok (.getfield 39, 3) := by decide +kernel
theorem dX4_readJoined_59 : decode cX4_readJoined 59 = .ok (.baload, 1) := by decide +kernel
theorem dX4_readJoined_60 : decode cX4_readJoined 60 = .ok (.istore_n 3, 1) := by decide +kernel
theorem dX4_readJoined_61 : decode cX4_readJoined 61 = .ok (.aload_n 0, 1) := by decide +kernel
theorem dX4_readJoined_62 : decode cX4_readJoined 62 = .ok (.dup, 1) := by decide +kernel
theorem dX4_readJoined_63 : decode cX4_readJoined 63 = .ok (.getfield 39, 3) := by decide +kernel
theorem dX4_readJoined_66 : decode cX4_readJoined 66 = .ok (.iconst 1, 1) := by decide +kernel
theorem dX4_readJoined_67 : decode cX4_readJoined 67 = .ok (.iadd, 1) := by decide +kernel
theorem dX4_readJoined_68 : decode cX4_readJoined 68 = .ok (.putfield 39, 3) := by decide +kernel
theorem dX4_readJoined_71 : decode cX4_readJoined 71 = .ok (.aload_n 0, 1) := by decide +kernel
theorem dX4_readJoined_72 : decode cX4_readJoined 72 = .ok (.iload_n 1, 1) := by decide +kernel
theorem dX4_readJoined_73 : decode cX4_readJoined 73 = .ok (.iconst 1, 1) := by decide +kernel
theorem dX4_readJoined_74 : decode cX4_readJoined 74 = .ok (.iadd, 1) := by decide +kernel
theorem dX4_readJoined_75 : decode cX4_readJoined 75 = .ok (.iload_n 2, 1) := by decide +kernel
theorem dX4_readJoined_76 : decode cX4_readJoined 76 = .ok (.invokevirtual 45, 3) := by decide +kernel
theorem dX4_readJoined_79 : decode cX4_readJoined 79 = .ok (.ifCond .ne 5, 3) := by decide +kernel
theorem dX4_readJoined_82 : decode cX4_readJoined 82 = .ok (.iconst 0, 1) := by decide +kernel
theorem dX4_readJoined_83 : decode cX4_readJoined 83 = .ok (.ireturn, 1) := by decide +kernel
theorem dX4_readJoined_84 : decode cX4_readJoined 84 = .ok (.aload_n 0, 1) := by decide +kernel
theorem dX4_readJoined_85 : decode cX4_readJoined 85 = .ok (.sipush 20000, 3) := by decide +kernel
theorem dX4_readJoined_88 : decode cX4_readJoined 88 = .ok (.iload_n 3, 1) := by decide +kernel
theorem dX4_readJoined_89 : decode cX4_readJoined 89 = .ok (.iadd, 1) := by decide +kernel
theorem dX4_readJoined_90 : decode cX4_readJoined 90 = .ok (.invokevirtual 59, 3) := by decide +kernel
theorem dX4_readJoined_93 : decode cX4_readJoined 93 = .ok (.iload_n 1, 1) := by decide +kernel
theorem dX4_readJoined_94 : decode cX4_readJoined 94 = .ok (.iconst 2, 1) := by decide +kernel
theorem dX4_readJoined_95 : decode cX4_readJoined 95 = .ok (.if_icmp .ne 6, 3) := by decide +kernel
theorem dX4_readJoined_98 : decode cX4_readJoined 98 = .ok (.goto 6, 3) := by decide +kernel
theorem dX4_readJoined_101 : decode cX4_readJoined 101 = .ok (.goto (-77), 3) := by decide +kernel
theorem dX4_readJoined_104 : decode cX4_readJoined 104 = .ok (.iconst 1, 1) := by decide +kernel
theorem dX4_readJoined_105 : decode cX4_readJoined 105 = .ok (.ireturn, 1) := by decide +kernel
theorem dX4_readPart_0 : decode cX4_readPart 0 = .ok (.aload_n 0, 1) := by decide +kernel
theorem dX4_readPart_1 : decode cX4_readPart 1 = .ok (.getfield 39, 3) := by decide +kernel
theorem dX4_readPart_4 : decode cX4_readPart 4 = .ok (.aload_n 0, 1) := by decide +kernel
theorem dX4_readPart_5 : decode cX4_readPart 5 = .ok (.getfield 31, 3) := by decide +kernel
theorem dX4_readPart_8 : decode cX4_readPart 8 = .ok (.if_icmp .lt 5, 3) := by decide +kernel
theorem dX4_readPart_11 : decode cX4_readPart 11 = .ok (.iconst 0, 1) := by decide +kernel
theorem dX4_readPart_12 : decode cX4_readPart 12 = .ok (.ireturn, 1) := by decide +kernel
theorem dX4_readPart_13 : decode cX4_readPart 13 = .ok (.aload_n 0, 1) := by decide +kernel
theorem dX4_readPart_14 : decode cX4_readPart 14 = .ok (.getfield 15, 3) := by decide +kernel
theorem dX4_readPart_17 : decode cX4_readPart 17 = .ok (.aload_n 0, 1) := by decide +kernel
theorem dX4_readPart_18 : decode cX4_readPart 18 = .ok (.getfield 39, 3) := by decide +kernel
theorem dX4_readPart_21 : decode cX4_readPart 21 = .ok (.baload, 1) := by decide +kernel
theorem dX4_readPart_22 : decode cX4_readPart 22 = .ok (.sipush 255, 3) := by decide +kernel
theorem dX4_readPart_25 : decode cX4_readPart 25 = .ok (.iand, 1) := by decide +kernel
theorem dX4_readPart_26 : decode cX4_readPart 26 = .ok (.istore_n 2, 1) := by decide +kernel
theorem dX4_readPart_27 : decode cX4_readPart 27 = .ok (.iload_n 2, 1) := by decide +kernel
theorem dX4_readPart_28 : decode cX4_readPart 28 = .ok (.invokestatic 63, 3) := by decide +kernel
theorem dX4_readPart_31 : decode cX4_readPart 31 = .ok (.ifCond .eq 8, 3) := by decide +kernel
theorem dX4_readPart_34 : decode cX4_readPart 34 = .ok (.aload_n 0, 1) := by decide +kernel
theorem dX4_readPart_35 : decode cX4_readPart 35 = .ok (.invokevirtual 66, 3) := by decide +kernel
theorem dX4_readPart_38 : decode cX4_readPart 38 = .ok (.ireturn, 1) := by decide +kernel
theorem dX4_readPart_39 : decode cX4_readPart 39 = .ok (.aload_n 0, 1) := by decide +kernel
theorem dX4_readPart_40 : decode cX4_readPart 40 = .ok (.getfield 21, 3) := by decide +kernel
theorem dX4_readPart_43 : decode cX4_readPart 43 = .ok (.iload_n 2, 1) := by decide +kernel
theorem dX4_readPart_44 : decode cX4_readPart 44 = .ok (.i2c, 1) := by decide +kernel
theorem dX4_readPart_45 : decode cX4_readPart 45 = .ok (.invokevirtual 70, 3) := by decide +kernel
theorem dX4_readPart_48 : decode cX4_readPart 48 = .ok (.istore_n 3, 1) := by decide +kernel
theorem dX4_readPart_49 : decode cX4_readPart 49 = .ok (.iload_n 3, 1) := by decide +kernel
theorem dX4_readPart_50 : decode cX4_readPart 50 = .ok (.ifCond .lt 24, 3) := by decide +kernel
theorem dX4_readPart_53 : decode cX4_readPart 53 = .ok (.aload_n 0, 1) := by decide +kernel
theorem dX4_readPart_54 : decode cX4_readPart 54 = .ok (.sipush 10000, 3) := by decide +kernel
theorem dX4_readPart_57 : decode cX4_readPart 57 = .ok (.iload_n 3, 1) := by decide +kernel
theorem dX4_readPart_58 : decode cX4_readPart 58 = .ok (.iadd, 1) := by decide +kernel
theorem dX4_readPart_59 : decode cX4_readPart 59 = .ok (.invokevirtual 59, 3) := by decide +kernel
theorem dX4_readPart_62 : decode cX4_readPart 62 = .ok (.aload_n 0, 1) := by decide +kernel
theorem dX4_readPart_63 : decode cX4_readPart 63 = .ok (.dup, 1) := by decide +kernel
theorem dX4_readPart_64 : decode cX4_readPart 64 = .ok (.getfield 39, 3) := by decide +kernel
theorem dX4_readPart_67 : decode cX4_readPart 67 = .ok (.iconst 1, 1) := by decide +kernel
theorem dX4_readPart_68 : decode cX4_readPart 68 = .ok (.iadd, 1) := by decide +kernel
theorem dX4_readPart_69 : decode cX4_readPart 69 = .ok (.putfield 39, 3) := by decide +kernel
theorem dX4_readPart_72 : decode cX4_readPart 72 = .ok (.iconst 1, 1) := by decide +kernel
theorem dX4_readPart_73 : decode cX4_readPart 73 = .ok (.ireturn, 1) := by decide +kernel
theorem dX4_readPart_74 : decode cX4_readPart 74 = .ok (.iload_n 1, 1) := by decide +kernel
theorem dX4_readPart_75 : decode cX4_readPart 75 = .ok (.iconst 5, 1) := by decide +kernel
theorem dX4_readPart_76 : decode cX4_readPart 76 = .ok (.if_icmp .ge 15, 3) := by decide +kernel
theorem dX4_readPart_79 : decode cX4_readPart 79 = .ok (.iload_n 2, 1) := by decide +kernel
theorem dX4_readPart_80 : decode cX4_readPart 80 = .ok (.bipush 33, 2) := by decide +kernel
theorem dX4_readPart_82 : decode cX4_readPart 82 = .ok (.if_icmp .eq 11, 3) := by decide +kernel
theorem dX4_readPart_85 : decode cX4_readPart 85 = .ok (.iload_n 2, 1) := by decide +kernel
theorem dX4_readPart_86 : decode cX4_readPart 86 = .ok (.bipush 40, 2) := by decide +kernel
theorem dX4_readPart_88 : decode cX4_readPart 88 = .ok (.if_icmp .eq 5, 3) := by decide +kernel
theorem dX4_readPart_91 : decode cX4_readPart 91 = .ok (.iconst 0, 1) := by decide +kernel
theorem dX4_readPart_92 : decode cX4_readPart 92 = .ok (.ireturn, 1) := by decide +kernel
theorem dX4_readPart_93 : decode cX4_readPart 93 = .ok (.aload_n 0, 1) := by decide +kernel
theorem dX4_readPart_94 : decode cX4_readPart 94 = .ok (.dup, 1) := by decide +kernel
theorem dX4_readPart_95 : decode cX4_readPart 95 = .ok (.getfield 39, 3) := by decide +kernel
theorem dX4_readPart_98 : decode cX4_readPart 98 = .ok (.iconst 1, 1) := by decide +kernel
theorem dX4_readPart_99 : decode cX4_readPart 99 = .ok (.iadd, 1) := by decide +kernel
theorem dX4_readPart_100 : decode cX4_readPart 100 = .ok (.putfield 39, 3) := by decide +kernel
theorem dX4_readPart_103 : decode cX4_readPart 103 = .ok (.iload_n 2, 1) := by decide +kernel
theorem dX4_readPart_104 : decode cX4_readPart 104 = .ok (.bipush 33, 2) := by decide +kernel
theorem dX4_readPart_106 : decode cX4_readPart 106 = .ok (.if_icmp .ne 13, 3) := by decide +kernel
theorem dX4_readPart_109 : decode cX4_readPart 109 = .ok (.aload_n 0, 1) := by decide +kernel
theorem dX4_readPart_110 : decode cX4_readPart 110 = .ok (.iload_n 1, 1) := by decide +kernel
theorem dX4_readPart_111 : decode cX4_readPart 111 = .ok (.iconst 1, 1) := by decide +kernel
theorem dX4_readPart_112 : decode cX4_readPart 112 = .ok (.iadd, 1) := by decide +kernel
theorem dX4_readPart_113 : decode cX4_readPart 113 = .ok (.invokevirtual 75, 3) := by decide +kernel
theorem dX4_readPart_116 : decode cX4_readPart 116 = .ok (.goto 10, 3) := by decide +kernel
theorem dX4_readPart_119 : decode cX4_readPart 119 = .ok (.aload_n 0, 1) := by decide +kernel
theorem dX4_readPart_120 : decode cX4_readPart 120 = .ok (.iload_n 1, 1) := by decide +kernel
theorem dX4_readPart_121 : decode cX4_readPart 121 = .ok (.iconst 1, 1) := by decide +kernel
theorem dX4_readPart_122 : decode cX4_readPart 122 = .ok (.iadd, 1) := by decide +kernel
theorem dX4_readPart_123 : decode cX4_readPart 123 = .ok (.invokevirtual 78, 3) := by decide +kernel
theorem dX4_readPart_126 : decode cX4_readPart 126 = .ok (.ireturn, 1) := by decide +kernel
theorem dX4_readNegated_0 : decode cX4_readNegated 0 = .ok (.aload_n 0, 1) := by decide +kernel
theorem dX4_readNegated_1 : decode cX4_readNegated 1 = .ok (.iload_n 1, 1) := by decide +kernel
theorem dX4_readNegated_2 : decode cX4_readNegated 2 = .ok (.invokevirtual 49, 3) := by decide +kernel
theorem dX4_readNegated_5 : decode cX4_readNegated 5 = .ok (.ifCond .ne 5, 3) := by decide +kernel
theorem dX4_readNegated_8 : decode cX4_readNegated 8 = .ok (.iconst 0, 1) := by decide +kernel
theorem dX4_readNegated_9 : decode cX4_readNegated 9 = .ok (.ireturn, 1) := by decide +kernel
theorem dX4_readNegated_10 : decode cX4_readNegated 10 = .ok (.aload_n 0, 1) := by decide +kernel
theorem dX4_readNegated_11 : decode cX4_readNegated 11 = .ok (.sipush 20033, 3) := by decide +kernel
theorem dX4_readNegated_14 : decode cX4_readNegated 14 = .ok (.invokevirtual 59, 3) := by decide +kernel
theorem dX4_readNegated_17 : decode cX4_readNegated 17 = .ok (.iconst 1, 1) := by decide +kernel
theorem dX4_readNegated_18 : decode cX4_readNegated 18 = .ok (.ireturn, 1) := by decide +kernel
theorem dX4_readEnclosed_0 : decode cX4_readEnclosed 0 = .ok (.aload_n 0, 1) := by decide +kernel
theorem dX4_readEnclosed_1 : decode cX4_readEnclosed 1 = .ok (.iconst 0, 1) := by decide +kernel
theorem dX4_readEnclosed_2 : decode cX4_readEnclosed 2 = .ok (.iload_n 1, 1) := by decide +kernel
theorem dX4_readEnclosed_3 : decode cX4_readEnclosed 3 = .ok (.invokevirtual 45, 3) := by decide +kernel
theorem dX4_readEnclosed_6 : decode cX4_readEnclosed 6 = .ok (.ifCond .eq 28, 3) := by decide +kernel
theorem dX4_readEnclosed_9 : decode cX4_readEnclosed 9 = .ok (.aload_n 0, 1) := by decide +kernel
theorem dX4_readEnclosed_10 : decode cX4_readEnclosed 10 = .ok (.getfield 39, 3) := by decide +kernel
theorem dX4_readEnclosed_13 : decode cX4_readEnclosed 13 = .ok (.aload_n 0, 1) := by decide +kernel
theorem dX4_readEnclosed_14 : decode cX4_readEnclosed 14 = .ok (.getfield 31, 3) := by decide +kernel
theorem dX4_readEnclosed_17 : decode cX4_readEnclosed 17 = .ok (.if_icmp .ge 17, 3) := by decide +kernel
theorem dX4_readEnclosed_20 : decode cX4_readEnclosed 20 = .ok (.aload_n 0, 1) := by decide +kernel
theorem dX4_readEnclosed_21 : decode cX4_readEnclosed 21 = .ok (.getfield 15, 3) := by decide +kernel
theorem dX4_readEnclosed_24 : decode cX4_readEnclosed 24 = .ok (.aload_n 0, 1) := by decide +kernel
theorem dX4_readEnclosed_25 : decode cX4_readEnclosed 25 = .ok (.getfield 39, 3) := by decide +kernel
theorem dX4_readEnclosed_28 : decode cX4_readEnclosed 28 = .ok (.baload, 1) := by decide +kernel
theorem dX4_readEnclosed_29 : decode cX4_readEnclosed 29 = .ok (.bipush 41, 2) := by decide +kernel
theorem dX4_readEnclosed_31 : decode cX4_readEnclosed 31 = .ok (.if_icmp .eq 5, 3) := by decide +kernel
theorem dX4_readEnclosed_34 : decode cX4_readEnclosed 34 = .ok (.iconst 0, 1) := by decide +kernel
theorem dX4_readEnclosed_35 : decode cX4_readEnclosed 35 = .ok (.ireturn, 1) := by decide +kernel
theorem dX4_readEnclosed_36 : decode cX4_readEnclosed 36 = .ok (.aload_n 0, 1) := by decide +kernel
theorem dX4_readEnclosed_37 : decode cX4_readEnclosed 37 = .ok (.dup, 1) := by decide +kernel
theorem dX4_readEnclosed_38 : decode cX4_readEnclosed 38 = .ok (.getfield 39, 3) := by decide +kernel
theorem dX4_readEnclosed_41 : decode cX4_readEnclosed 41 = .ok (.iconst 1, 1) := by decide +kernel
theorem dX4_readEnclosed_42 : decode cX4_readEnclosed 42 = .ok (.iadd, 1) := by decide +kernel
theorem dX4_readEnclosed_43 : decode cX4_readEnclosed 43 = .ok (.putfield 39, 3) := by decide +kernel
theorem dX4_readEnclosed_46 : decode cX4_readEnclosed 46 = .ok (.iconst 1, 1) := by decide +kernel
theorem dX4_readEnclosed_47 : decode cX4_readEnclosed 47 = .ok (.ireturn, 1) := by decide +kernel
theorem dX4_readNumber_0 : decode cX4_readNumber 0 = .ok (.iconst 0, 1) := by decide +kernel
theorem dX4_readNumber_1 : decode cX4_readNumber 1 = .ok (.istore_n 1, 1) := by decide +kernel
theorem dX4_readNumber_2 : decode cX4_readNumber 2 = .ok (.aload_n 0, 1) := by decide +kernel
theorem dX4_readNumber_3 : decode cX4_readNumber 3 = .ok (.getfield 31, 3) := by decide +kernel
theorem dX4_readNumber_6 : decode cX4_readNumber 6 = .ok (.aload_n 0, 1) := by decide +kernel
theorem dX4_readNumber_7 : decode cX4_readNumber 7 = .ok (.getfield 39, 3) := by decide +kernel
theorem dX4_readNumber_10 : decode cX4_readNumber 10 = .ok (.iconst 4, 1) := by decide +kernel
theorem dX4_readNumber_11 : decode cX4_readNumber 11 = .ok (.iadd, 1) := by decide +kernel
theorem dX4_readNumber_12 : decode cX4_readNumber 12 = .ok (.invokestatic 25, 3) := by decide +kernel
theorem dX4_readNumber_15 : decode cX4_readNumber 15 = .ok (.istore_n 2, 1) := by decide +kernel
theorem dX4_readNumber_16 : decode cX4_readNumber 16 = .ok (.aload_n 0, 1) := by decide +kernel
theorem dX4_readNumber_17 : decode cX4_readNumber 17 = .ok (.getfield 39, 3) := by decide +kernel
theorem dX4_readNumber_20 : decode cX4_readNumber 20 = .ok (.iload_n 2, 1) := by decide +kernel
theorem dX4_readNumber_21 : decode cX4_readNumber 21 = .ok (.if_icmp .ge 49, 3) := by decide +kernel
theorem dX4_readNumber_24 : decode cX4_readNumber 24 = .ok (.aload_n 0, 1) := by decide +kernel
theorem dX4_readNumber_25 : decode cX4_readNumber 25 = .ok (.getfield 15, 3) := by decide +kernel
theorem dX4_readNumber_28 : decode cX4_readNumber 28 = .ok (.aload_n 0, 1) := by decide +kernel
theorem dX4_readNumber_29 : decode cX4_readNumber 29 = .ok (.getfield 39, 3) := by decide +kernel
theorem dX4_readNumber_32 : decode cX4_readNumber 32 = .ok (.baload, 1) := by decide +kernel
theorem dX4_readNumber_33 : decode cX4_readNumber 33 = .ok (.invokestatic 63, 3) := by decide +kernel
theorem dX4_readNumber_36 : decode cX4_readNumber 36 = .ok (.ifCond .eq 34, 3) := by decide +kernel
theorem dX4_readNumber_39 : decode cX4_readNumber 39 = .ok (.iload_n 1, 1) := by decide +kernel
theorem dX4_readNumber_40 : decode cX4_readNumber 40 = .ok (.bipush 10, 2) := by decide +kernel
theorem dX4_readNumber_42 : decode cX4_readNumber 42 = .ok (.imul, 1) := by decide +kernel
theorem dX4_readNumber_43 : decode cX4_readNumber 43 = .ok (.aload_n 0, 1) := by decide +kernel
theorem dX4_readNumber_44 : decode cX4_readNumber 44 = .ok (.getfield 15, 3) := by decide +kernel
theorem dX4_readNumber_47 : decode cX4_readNumber 47 = .ok (.aload_n 0, 1) := by decide +kernel
theorem dX4_readNumber_48 : decode cX4_readNumber 48 = .ok (.getfield 39, 3) := by decide +kernel
theorem dX4_readNumber_51 : decode cX4_readNumber 51 = .ok (.baload, 1) := by decide +kernel
theorem dX4_readNumber_52 : decode cX4_readNumber 52 = .ok (.iadd, 1) := by decide +kernel
theorem dX4_readNumber_53 : decode cX4_readNumber 53 = .ok (.bipush 48, 2) := by decide +kernel
theorem dX4_readNumber_55 : decode cX4_readNumber 55 = .ok (.isub, 1) := by decide +kernel
theorem dX4_readNumber_56 : decode cX4_readNumber 56 = .ok (.istore_n 1, 1) := by decide +kernel
theorem dX4_readNumber_57 : decode cX4_readNumber 57 = .ok (.aload_n 0, 1) := by decide +kernel
theorem dX4_readNumber_58 : decode cX4_readNumber 58 = .ok (.dup, 1) := by decide +kernel
theorem dX4_readNumber_59 : decode cX4_readNumber 59 = .ok (.getfield 39, 3) := by decide +kernel
theorem dX4_readNumber_62 : decode cX4_readNumber 62 = .ok (.iconst 1, 1) := by decide +kernel
theorem dX4_readNumber_63 : decode cX4_readNumber 63 = .ok (.iadd, 1) := by decide +kernel
theorem dX4_readNumber_64 : decode cX4_readNumber 64 = .ok (.putfield 39, 3) := by decide +kernel
theorem dX4_readNumber_67 : decode cX4_readNumber 67 = .ok (.goto (-51), 3) := by decide +kernel
theorem dX4_readNumber_70 : decode cX4_readNumber 70 = .ok (.aload_n 0, 1) := by decide +kernel
theorem dX4_readNumber_71 : decode cX4_readNumber 71 = .ok (.iload_n 1, 1) := by decide +kernel
theorem dX4_readNumber_72 : decode cX4_readNumber 72 = .ok (.invokevirtual 59, 3) := by decide +kernel
theorem dX4_readNumber_75 : decode cX4_readNumber 75 = .ok (.iconst 1, 1) := by decide +kernel
theorem dX4_readNumber_76 : decode cX4_readNumber 76 = .ok (.ireturn, 1) := by decide +kernel
theorem dX4_keep_0 : decode cX4_keep 0 = .ok (.aload_n 0, 1) := by decide +kernel
theorem dX4_keep_1 : decode cX4_keep 1 = .ok (.getfield 42, 3) := by decide +kernel
theorem dX4_keep_4 : decode cX4_keep 4 = .ok (.bipush 50, 2) := by decide +kernel
theorem dX4_keep_6 : decode cX4_keep 6 = .ok (.if_icmp .ge 23, 3) := by decide +kernel
theorem dX4_keep_9 : decode cX4_keep 9 = .ok (.aload_n 0, 1) := by decide +kernel
theorem dX4_keep_10 : decode cX4_keep 10 = .ok (.getfield 9, 3) := by decide +kernel
theorem dX4_keep_13 : decode cX4_keep 13 = .ok (.aload_n 0, 1) := by decide +kernel
theorem dX4_keep_14 : decode cX4_keep 14 = .ok (.getfield 42, 3) := by decide +kernel
theorem dX4_keep_17 : decode cX4_keep 17 = .ok (.iload_n 1, 1) := by decide +kernel
theorem dX4_keep_18 : decode cX4_keep 18 = .ok (.iastore, 1) := by decide +kernel
theorem dX4_keep_19 : decode cX4_keep 19 = .ok (.aload_n 0, 1) := by decide +kernel
theorem dX4_keep_20 : decode cX4_keep 20 = .ok (.dup, 1) := by decide +kernel
theorem dX4_keep_21 : decode cX4_keep 21 = .ok (.getfield 42, 3) := by decide +kernel
theorem dX4_keep_24 : decode cX4_keep 24 = .ok (.iconst 1, 1) := by decide +kernel
theorem dX4_keep_25 : decode cX4_keep 25 = .ok (.iadd, 1) := by decide +kernel
theorem dX4_keep_26 : decode cX4_keep 26 = .ok (.putfield 42, 3) := by decide +kernel
theorem dX4_keep_29 : decode cX4_keep 29 = .ok (.return_, 1) := by decide +kernel
theorem dX4_isDigit_0 : decode cX4_isDigit 0 = .ok (.iload_n 0, 1) := by decide +kernel
theorem dX4_isDigit_1 : decode cX4_isDigit 1 = .ok (.bipush 48, 2) := by decide +kernel
theorem dX4_isDigit_3 : decode cX4_isDigit 3 = .ok (.bipush 57, 2) := by decide +kernel
theorem dX4_isDigit_5 : decode cX4_isDigit 5 = .ok (.invokestatic 81, 3) := by decide +kernel
theorem dX4_isDigit_8 : decode cX4_isDigit 8 = .ok (.ireturn, 1) := by decide +kernel
theorem dX4_levelOf_0 : decode cX4_levelOf 0 = .ok (.iload_n 0, 1) := by decide +kernel
theorem dX4_levelOf_1 : decode cX4_levelOf 1 = .ok (.lookupswitch 101 #[(37, 99), (38, 93), (42, 99), (43, 97), (45, 97), (47, 99), (60, 95), (61, 95), (62, 95), (124, 91)], 91) := by decide +kernel
theorem dX4_levelOf_92 : decode cX4_levelOf 92 = .ok (.iconst 0, 1) := by decide +kernel
theorem dX4_levelOf_93 : decode cX4_levelOf 93 = .ok (.ireturn, 1) := by decide +kernel
theorem dX4_levelOf_94 : decode cX4_levelOf 94 = .ok (.iconst 1, 1) := by decide +kernel
theorem dX4_levelOf_95 : decode cX4_levelOf 95 = .ok (.ireturn, 1) := by decide +kernel
theorem dX4_levelOf_96 : decode cX4_levelOf 96 = .ok (.iconst 2, 1) := by decide +kernel
theorem dX4_levelOf_97 : decode cX4_levelOf 97 = .ok (.ireturn, 1) := by decide +kernel
theorem dX4_levelOf_98 : decode cX4_levelOf 98 = .ok (.iconst 3, 1) := by decide +kernel
theorem dX4_levelOf_99 : decode cX4_levelOf 99 = .ok (.ireturn, 1) := by decide +kernel
theorem dX4_levelOf_100 : decode cX4_levelOf 100 = .ok (.iconst 4, 1) := by decide +kernel
theorem dX4_levelOf_101 : decode cX4_levelOf 101 = .ok (.ireturn, 1) := by decide +kernel
theorem dX4_levelOf_102 : decode cX4_levelOf 102 = .ok (.iconst (-1), 1) := by decide +kernel
theorem dX4_levelOf_103 : decode cX4_levelOf 103 = .ok (.ireturn, 1) := by decide +kernel
theorem dX5_init_0 : decode cX5_init 0 = .ok (.aload_n 0, 1) := by decide +kernel
theorem dX5_init_1 : decode cX5_init 1 = .ok (.invokespecial 3, 3) := by decide +kernel
theorem dX5_init_4 : decode cX5_init 4 = .ok (.aload_n 0, 1) := by decide +kernel
theorem dX5_init_5 : decode cX5_init 5 = .ok (.bipush 12, 2) := by decide +kernel
theorem dX5_init_7 : decode cX5_init 7 = .ok (.putfield 9, 3) := by decide +kernel
theorem dX5_init_10 : decode cX5_init 10 = .ok (.aload_n 0, 1) := by decide +kernel
theorem dX5_init_11 : decode cX5_init 11 = .ok (.iconst 2, 1) := by decide +kernel
theorem dX5_init_12 : decode cX5_init 12 = .ok (.newarray .int, 2) := by decide +kernel
theorem dX5_init_14 : decode cX5_init 14 = .ok (.dup, 1) := by decide +kernel
theorem dX5_init_15 : decode cX5_init 15 = .ok (.iconst 0, 1) := by decide +kernel
theorem dX5_init_16 : decode cX5_init 16 = .ok (.iconst 1, 1) := by decide +kernel
theorem dX5_init_17 : decode cX5_init 17 = .ok (.iastore, 1) := by decide +kernel
theorem dX5_init_18 : decode cX5_init 18 = .ok (.dup, 1) := by decide +kernel
theorem dX5_init_19 : decode cX5_init 19 = .ok (.iconst 1, 1) := by decide +kernel
theorem dX5_init_20 : decode cX5_init 20 = .ok (.iconst (-1), 1) := by decide +kernel
theorem dX5_init_21 : decode cX5_init 21 = .ok (.iastore, 1) := by decide +kernel
theorem dX5_init_22 : decode cX5_init 22 = .ok (.putfield 15, 3) := by decide +kernel
theorem dX5_init_25 : decode cX5_init 25 = .ok (.aload_n 0, 1) := by decide +kernel
theorem dX5_init_26 : decode cX5_init 26 = .ok (.iconst 1, 1) := by decide +kernel
theorem dX5_init_27 : decode cX5_init 27 = .ok (.putfield 19, 3) := by decide +kernel
theorem dX5_init_30 : decode cX5_init 30 = .ok (.aload_n 0, 1) := by decide +kernel
theorem dX5_init_31 : decode cX5_init 31 = .ok (.bipush 50, 2) := by decide +kernel
theorem dX5_init_33 : decode cX5_init 33 = .ok (.newarray .byte, 2) := by decide +kernel
theorem dX5_init_35 : decode cX5_init 35 = .ok (.putfield 22, 3) := by decide +kernel
theorem dX5_init_38 : decode cX5_init 38 = .ok (.aload_n 0, 1) := by decide +kernel
theorem dX5_init_39 : decode cX5_init 39 = .ok (.bipush 20, 2) := by decide +kernel
theorem dX5_init_41 : decode cX5_init 41 = .ok (.newarray .int, 2) := by decide +kernel
theorem dX5_init_43 : decode cX5_init 43 = .ok (.putfield 26, 3) := by decide +kernel
theorem dX5_init_46 : decode cX5_init 46 = .ok (.aload_n 0, 1) := by decide +kernel
theorem dX5_init_47 : decode cX5_init 47 = .ok (.new 29, 3) := by decide +kernel
theorem dX5_init_50 : decode cX5_init 50 = .ok (.dup, 1) := by decide +kernel
theorem dX5_init_51 : decode cX5_init 51 = .ok (.iconst 0, 1) := by decide +kernel
theorem dX5_init_52 : decode cX5_init 52 = .ok (.invokespecial 31, 3) := by decide +kernel
theorem dX5_init_55 : decode cX5_init 55 = .ok (.putfield 34, 3) := by decide +kernel
theorem dX5_init_58 : decode cX5_init 58 = .ok (.aload_n 0, 1) := by decide +kernel
theorem dX5_init_59 : decode cX5_init 59 = .ok (.new 29, 3) := by decide +kernel
theorem dX5_init_62 : decode cX5_init 62 = .ok (.dup, 1) := by decide +kernel
theorem dX5_init_63 : decode cX5_init 63 = .ok (.iconst 1, 1) := by decide +kernel
theorem dX5_init_64 : decode cX5_init 64 = .ok (.invokespecial 31, 3) := by decide +kernel
theorem dX5_init_67 : decode cX5_init 67 = .ok (.putfield 38, 3) := by decide +kernel
theorem dX5_init_70 : decode cX5_init 70 = .ok (.aload_n 0, 1) := by decide +kernel
theorem dX5_init_71 : decode cX5_init 71 = .ok (.sipush 410, 3) := by decide +kernel
theorem dX5_init_74 : decode cX5_init 74 = .ok (.newarray .byte, 2) := by decide +kernel
theorem dX5_init_76 : decode cX5_init 76 = .ok (.putfield 41, 3) := by decide +kernel
theorem dX5_init_79 : decode cX5_init 79 = .ok (.aload_n 0, 1) := by decide +kernel
theorem dX5_init_80 : decode cX5_init 80 = .ok (.invokevirtual 44, 3) := by decide +kernel
theorem dX5_init_83 : decode cX5_init 83 = .ok (.return_, 1) := by decide +kernel
theorem dX5_copyFrom_0 : decode cX5_copyFrom 0 = .ok (.aload_n 0, 1) := by decide +kernel
theorem dX5_copyFrom_1 : decode cX5_copyFrom 1 = .ok (.aload_n 1, 1) := by decide +kernel
theorem dX5_copyFrom_2 : decode cX5_copyFrom 2 = .ok (.getfield 9, 3) := by decide +kernel
theorem dX5_copyFrom_5 : decode cX5_copyFrom 5 = .ok (.putfield 9, 3) := by decide +kernel
theorem dX5_copyFrom_8 : decode cX5_copyFrom 8 = .ok (.aload_n 0, 1) := by decide +kernel
theorem dX5_copyFrom_9 : decode cX5_copyFrom 9 = .ok (.getfield 15, 3) := by decide +kernel
theorem dX5_copyFrom_12 : decode cX5_copyFrom 12 = .ok (.iconst 0, 1) := by decide +kernel
theorem dX5_copyFrom_13 : decode cX5_copyFrom 13 = .ok (.aload_n 1, 1) := by decide +kernel
theorem dX5_copyFrom_14 : decode cX5_copyFrom 14 = .ok (.getfield 15, 3) := by decide +kernel
theorem dX5_copyFrom_17 : decode cX5_copyFrom 17 = .ok (.iconst 0, 1) := by decide +kernel
theorem dX5_copyFrom_18 : decode cX5_copyFrom 18 = .ok (.iaload, 1) := by decide +kernel
theorem dX5_copyFrom_19 : decode cX5_copyFrom 19 = .ok (.iastore, 1) := by decide +kernel
theorem dX5_copyFrom_20 : decode cX5_copyFrom 20 = .ok (.aload_n 0, 1) := by decide +kernel
theorem dX5_copyFrom_21 : decode cX5_copyFrom 21 = .ok (.getfield 15, 3) := by decide +kernel
theorem dX5_copyFrom_24 : decode cX5_copyFrom 24 = .ok (.iconst 1, 1) := by decide +kernel
theorem dX5_copyFrom_25 : decode cX5_copyFrom 25 = .ok (.aload_n 1, 1) := by decide +kernel
theorem dX5_copyFrom_26 : decode cX5_copyFrom 26 = .ok (.getfield 15, 3) := by decide +kernel
theorem dX5_copyFrom_29 : decode cX5_copyFrom 29 = .ok (.iconst 1, 1) := by decide +kernel
theorem dX5_copyFrom_30 : decode cX5_copyFrom 30 = .ok (.iaload, 1) := by decide +kernel
theorem dX5_copyFrom_31 : decode cX5_copyFrom 31 = .ok (.iastore, 1) := by decide +kernel
theorem dX5_copyFrom_32 : decode cX5_copyFrom 32 = .ok (.aload_n 0, 1) := by decide +kernel
theorem dX5_copyFrom_33 : decode cX5_copyFrom 33 = .ok (.aload_n 1, 1) := by decide +kernel
theorem dX5_copyFrom_34 : decode cX5_copyFrom 34 = .ok (.getfield 19, 3) := by decide +kernel
theorem dX5_copyFrom_37 : decode cX5_copyFrom 37 = .ok (.putfield 19, 3) := by decide +kernel
theorem dX5_copyFrom_40 : decode cX5_copyFrom 40 = .ok (.aload_n 0, 1) := by decide +kernel
theorem dX5_copyFrom_41 : decode cX5_copyFrom 41 = .ok (.aload_n 1, 1) := by decide +kernel
theorem dX5_copyFrom_42 : decode cX5_copyFrom 42 = .ok (.getfield 47, 3) := by decide +kernel
theorem dX5_copyFrom_45 : decode cX5_copyFrom 45 = .ok (.putfield 47, 3) := by decide +kernel
theorem dX5_copyFrom_48 : decode cX5_copyFrom 48 = .ok (.aload_n 1, 1) := by decide +kernel
theorem dX5_copyFrom_49 : decode cX5_copyFrom 49 = .ok (.getfield 22, 3) := by decide +kernel
theorem dX5_copyFrom_52 : decode cX5_copyFrom 52 = .ok (.iconst 0, 1) := by decide +kernel
theorem dX5_copyFrom_53 : decode cX5_copyFrom 53 = .ok (.aload_n 0, 1) := by decide +kernel
theorem dX5_copyFrom_54 : decode cX5_copyFrom 54 = .ok (.getfield 22, 3) := by decide +kernel
theorem dX5_copyFrom_57 : decode cX5_copyFrom 57 = .ok (.iconst 0, 1) := by decide +kernel
theorem dX5_copyFrom_58 : decode cX5_copyFrom 58 = .ok (.bipush 50, 2) := by decide +kernel
theorem dX5_copyFrom_60 : decode cX5_copyFrom 60 = .ok (.invokestatic 50, 3) := by decide +kernel
theorem dX5_copyFrom_63 : decode cX5_copyFrom 63 = .ok (.aload_n 0, 1) := by decide +kernel
theorem dX5_copyFrom_64 : decode cX5_copyFrom 64 = .ok (.aload_n 1, 1) := by decide +kernel
theorem dX5_copyFrom_65 : decode cX5_copyFrom 65 = .ok (.getfield 56, 3) := by decide +kernel
theorem dX5_copyFrom_68 : decode cX5_copyFrom 68 = .ok (.putfield 56, 3) := by decide +kernel
theorem dX5_copyFrom_71 : decode cX5_copyFrom 71 = .ok (.aload_n 1, 1) := by decide +kernel
theorem dX5_copyFrom_72 : decode cX5_copyFrom 72 = .ok (.getfield 26, 3) := by decide +kernel
theorem dX5_copyFrom_75 : decode cX5_copyFrom 75 = .ok (.iconst 0, 1) := by decide +kernel
theorem dX5_copyFrom_76 : decode cX5_copyFrom 76 = .ok (.aload_n 0, 1) := by decide +kernel
theorem dX5_copyFrom_77 : decode cX5_copyFrom 77 = .ok (.getfield 26, 3) := by decide +kernel
theorem dX5_copyFrom_80 : decode cX5_copyFrom 80 = .ok (.iconst 0, 1) := by decide +kernel
theorem dX5_copyFrom_81 : decode cX5_copyFrom 81 = .ok (.bipush 20, 2) := by decide +kernel
theorem dX5_copyFrom_83 : decode cX5_copyFrom 83 = .ok (.invokestatic 50, 3) := by decide +kernel
theorem dX5_copyFrom_86 : decode cX5_copyFrom 86 = .ok (.aload_n 0, 1) := by decide +kernel
theorem dX5_copyFrom_87 : decode cX5_copyFrom 87 = .ok (.getfield 34, 3) := by decide +kernel
theorem dX5_copyFrom_90 : decode cX5_copyFrom 90 = .ok (.aload_n 1, 1) := by decide +kernel
theorem dX5_copyFrom_91 : decode cX5_copyFrom 91 = .ok (.getfield 34, 3) := by decide +kernel
theorem dX5_copyFrom_94 : decode cX5_copyFrom 94 = .ok (.getfield 59, 3) := by decide +kernel
theorem dX5_copyFrom_97 : decode cX5_copyFrom 97 = .ok (.aload_n 1, 1) := by decide +kernel
theorem dX5_copyFrom_98 : decode cX5_copyFrom 98 = .ok (.getfield 34, 3) := by decide +kernel
theorem dX5_copyFrom_101 : decode cX5_copyFrom 101 = .ok (.getfield 62, 3) := by decide +kernel
theorem dX5_copyFrom_104 : decode cX5_copyFrom 104 = .ok (.invokevirtual 65, 3) := by decide +kernel
theorem dX5_copyFrom_107 : decode cX5_copyFrom 107 = .ok (.aload_n 0, 1) := by decide +kernel
theorem dX5_copyFrom_108 : decode cX5_copyFrom 108 = .ok (.getfield 38, 3) := by decide +kernel
theorem dX5_copyFrom_111 : decode cX5_copyFrom 111 = .ok (.aload_n 1, 1) := by decide +kernel
theorem dX5_copyFrom_112 : decode cX5_copyFrom 112 = .ok (.getfield 38, 3) := by decide +kernel
theorem dX5_copyFrom_115 : decode cX5_copyFrom 115 = .ok (.getfield 59, 3) := by decide +kernel
theorem dX5_copyFrom_118 : decode cX5_copyFrom 118 = .ok (.aload_n 1, 1) := by decide +kernel
theorem dX5_copyFrom_119 : decode cX5_copyFrom 119 = .ok (.getfield 38, 3) := by decide +kernel
theorem dX5_copyFrom_122 : decode cX5_copyFrom 122 = .ok (.getfield 62, 3) := by decide +kernel
theorem dX5_copyFrom_125 : decode cX5_copyFrom 125 = .ok (.invokevirtual 65, 3) := by decide +kernel
theorem dX5_copyFrom_128 : decode cX5_copyFrom 128 = .ok (.aload_n 0, 1) := by decide +kernel
theorem dX5_copyFrom_129 : decode cX5_copyFrom 129 = .ok (.invokevirtual 44, 3) := by decide +kernel
theorem dX5_copyFrom_132 : decode cX5_copyFrom 132 = .ok (.return_, 1) := by decide +kernel
theorem dX5_lawOf_0 : decode cX5_lawOf 0 = .ok (.iload_n 1, 1) := by decide +kernel
theorem dX5_lawOf_1 : decode cX5_lawOf 1 = .ok (.ifCond .ne 10, 3) := by decide +kernel
theorem dX5_lawOf_4 : decode cX5_lawOf 4 = .ok (.aload_n 0, 1) := by decide +kernel
theorem dX5_lawOf_5 : decode cX5_lawOf 5 = .ok (.getfield 34, 3) := by decide +kernel
theorem dX5_lawOf_8 : decode cX5_lawOf 8 = .ok (.goto 7, 3) := by decide +kernel
theorem dX5_lawOf_11 : decode cX5_lawOf 11 = .ok (.aload_n 0, 1) := by decide +kernel
theorem dX5_lawOf_12 : decode cX5_lawOf 12 = .ok (.getfield 38, 3) := by decide +kernel
theorem dX5_lawOf_15 : decode cX5_lawOf 15 = .ok (.areturn, 1) := by decide +kernel
theorem dX5_forgetPulls_0 : decode cX5_forgetPulls 0 = .ok (.aload_n 0, 1) := by decide +kernel
theorem dX5_forgetPulls_1 : decode cX5_forgetPulls 1 = .ok (.getfield 41, 3) := by decide +kernel
theorem dX5_forgetPulls_4 : decode cX5_forgetPulls 4 = .ok (.bipush 100, 2) := by decide +kernel
theorem dX5_forgetPulls_6 : decode cX5_forgetPulls 6 = .ok (.invokestatic 69, 3) := by decide +kernel
theorem dX5_forgetPulls_9 : decode cX5_forgetPulls 9 = .ok (.return_, 1) := by decide +kernel
theorem dX5_pullOf_0 : decode cX5_pullOf 0 = .ok (.aload_n 1, 1) := by decide +kernel
theorem dX5_pullOf_1 : decode cX5_pullOf 1 = .ok (.getfield 75, 3) := by decide +kernel
theorem dX5_pullOf_4 : decode cX5_pullOf 4 = .ok (.bipush 41, 2) := by decide +kernel
theorem dX5_pullOf_6 : decode cX5_pullOf 6 = .ok (.imul, 1) := by decide +kernel
theorem dX5_pullOf_7 : decode cX5_pullOf 7 = .ok (.aload_n 1, 1) := by decide +kernel
theorem dX5_pullOf_8 : decode cX5_pullOf 8 = .ok (.getfield 80, 3) := by decide +kernel
theorem dX5_pullOf_11 : decode cX5_pullOf 11 = .ok (.iadd, 1) := by decide +kernel
theorem dX5_pullOf_12 : decode cX5_pullOf 12 = .ok (.istore_n 2, 1) := by decide +kernel
theorem dX5_pullOf_13 : decode cX5_pullOf 13 = .ok (.iload_n 2, 1) := by decide +kernel
theorem dX5_pullOf_14 : decode cX5_pullOf 14 = .ok (.iconst 0, 1) := by decide +kernel
theorem dX5_pullOf_15 : decode cX5_pullOf 15 = .ok (.aload_n 0, 1) := by decide +kernel
theorem dX5_pullOf_16 : decode cX5_pullOf 16 = .ok (.getfield 41, 3) := by decide +kernel
theorem dX5_pullOf_19 : decode cX5_pullOf 19 = .ok (.arraylength, 1) := by decide +kernel
theorem dX5_pullOf_20 : decode cX5_pullOf 20 = .ok (.iconst 1, 1) := by decide +kernel
theorem dX5_pullOf_21 : decode cX5_pullOf 21 = .ok (.isub, 1) := by decide +kernel
theorem dX5_pullOf_22 : decode cX5_pullOf 22 = .ok (.invokestatic 83, 3) := by decide +kernel
theorem dX5_pullOf_25 : decode cX5_pullOf 25 = .ok (.ifCond .ne 20, 3) := by decide +kernel
theorem dX5_pullOf_28 : decode cX5_pullOf 28 = .ok (.aload_n 0, 1) := by decide +kernel
theorem dX5_pullOf_29 : decode cX5_pullOf 29 = .ok (.getfield 34, 3) := by decide +kernel
theorem dX5_pullOf_32 : decode cX5_pullOf 32 = .ok (.aload_n 1, 1) := by decide +kernel
theorem dX5_pullOf_33 : decode cX5_pullOf 33 = .ok (.getfield 80, 3) := by decide +kernel
theorem dX5_pullOf_36 : decode cX5_pullOf 36 = .ok (.aload_n 1, 1) := by decide +kernel
theorem dX5_pullOf_37 : decode cX5_pullOf 37 = .ok (.getfield 75, 3) := by decide +kernel
theorem dX5_pullOf_40 : decode cX5_pullOf 40 = .ok (.iconst 0, 1) := by decide +kernel
theorem dX5_pullOf_41 : decode cX5_pullOf 41 = .ok (.invokevirtual 87, 3) := by decide +kernel
theorem dX5_pullOf_44 : decode cX5_pullOf 44 = .ok (.ireturn, 1) := by decide +kernel
theorem dX5_pullOf_45 : decode cX5_pullOf 45 = .ok (.aload_n 0, 1) := by decide +kernel
theorem dX5_pullOf_46 : decode cX5_pullOf 46 = .ok (.getfield 41, 3) := by decide +kernel
theorem dX5_pullOf_49 : decode cX5_pullOf 49 = .ok (.iload_n 2, 1) := by decide +kernel
theorem dX5_pullOf_50 : decode cX5_pullOf 50 = .ok (.baload, 1) := by decide +kernel
theorem dX5_pullOf_51 : decode cX5_pullOf 51 = .ok (.bipush 100, 2) := by decide +kernel
theorem dX5_pullOf_53 : decode cX5_pullOf 53 = .ok (.if_icmp .ne 26, 3) := by decide +kernel
theorem dX5_pullOf_56 : decode cX5_pullOf 56 = .ok (.aload_n 0, 1) := by decide +kernel
theorem dX5_pullOf_57 : decode cX5_pullOf 57 = .ok (.getfield 41, 3) := by decide +kernel
theorem dX5_pullOf_60 : decode cX5_pullOf 60 = .ok (.iload_n 2, 1) := by decide +kernel
theorem dX5_pullOf_61 : decode cX5_pullOf 61 = .ok (.aload_n 0, 1) := by decide +kernel
theorem dX5_pullOf_62 : decode cX5_pullOf 62 = .ok (.getfield 34, 3) := by decide +kernel
theorem dX5_pullOf_65 : decode cX5_pullOf 65 = .ok (.aload_n 1, 1) := by decide +kernel
theorem dX5_pullOf_66 : decode cX5_pullOf 66 = .ok (.getfield 80, 3) := by decide +kernel
theorem dX5_pullOf_69 : decode cX5_pullOf 69 = .ok (.aload_n 1, 1) := by decide +kernel
theorem dX5_pullOf_70 : decode cX5_pullOf 70 = .ok (.getfield 75, 3) := by decide +kernel
theorem dX5_pullOf_73 : decode cX5_pullOf 73 = .ok (.iconst 0, 1) := by decide +kernel
theorem dX5_pullOf_74 : decode cX5_pullOf 74 = .ok (.invokevirtual 87, 3) := by decide +kernel
theorem dX5_pullOf_77 : decode cX5_pullOf 77 = .ok (.i2b, 1) := by decide +kernel
theorem dX5_pullOf_78 : decode cX5_pullOf 78 = .ok (.bastore, 1) := by decide +kernel
theorem dX5_pullOf_79 : decode cX5_pullOf 79 = .ok (.aload_n 0, 1) := by decide +kernel
theorem dX5_pullOf_80 : decode cX5_pullOf 80 = .ok (.getfield 41, 3) := by decide +kernel
theorem dX5_pullOf_83 : decode cX5_pullOf 83 = .ok (.iload_n 2, 1) := by decide +kernel
theorem dX5_pullOf_84 : decode cX5_pullOf 84 = .ok (.baload, 1) := by decide +kernel
theorem dX5_pullOf_85 : decode cX5_pullOf 85 = .ok (.ireturn, 1) := by decide +kernel
theorem dX5_doorPlace_0 : decode cX5_doorPlace 0 = .ok (.iload_n 2, 1) := by decide +kernel
theorem dX5_doorPlace_1 : decode cX5_doorPlace 1 = .ok (.aload_n 0, 1) := by decide +kernel
theorem dX5_doorPlace_2 : decode cX5_doorPlace 2 = .ok (.getfield 15, 3) := by decide +kernel
theorem dX5_doorPlace_5 : decode cX5_doorPlace 5 = .ok (.iload_n 1, 1) := by decide +kernel
theorem dX5_doorPlace_6 : decode cX5_doorPlace 6 = .ok (.iaload, 1) := by decide +kernel
theorem dX5_doorPlace_7 : decode cX5_doorPlace 7 = .ok (.iload_n 3, 1) := by decide +kernel
theorem dX5_doorPlace_8 : decode cX5_doorPlace 8 = .ok (.imul, 1) := by decide +kernel
theorem dX5_doorPlace_9 : decode cX5_doorPlace 9 = .ok (.iadd, 1) := by decide +kernel
theorem dX5_doorPlace_10 : decode cX5_doorPlace 10 = .ok (.aload_n 0, 1) := by decide +kernel
theorem dX5_doorPlace_11 : decode cX5_doorPlace 11 = .ok (.getfield 9, 3) := by decide +kernel
theorem dX5_doorPlace_14 : decode cX5_doorPlace 14 = .ok (.invokestatic 91, 3) := by decide +kernel
theorem dX5_doorPlace_17 : decode cX5_doorPlace 17 = .ok (.ireturn, 1) := by decide +kernel
theorem dX5_nextDraw_0 : decode cX5_nextDraw 0 = .ok (.aload_n 0, 1) := by decide +kernel
theorem dX5_nextDraw_1 : decode cX5_nextDraw 1 = .ok (.aload_n 0, 1) := by decide +kernel
theorem dX5_nextDraw_2 : decode cX5_nextDraw 2 = .ok (.getfield 19, 3) := by decide +kernel
theorem dX5_nextDraw_5 : decode cX5_nextDraw 5 = .ok (.ldc 97, 2) := by decide +kernel
theorem dX5_nextDraw_7 : decode cX5_nextDraw 7 = .ok (.imul, 1) := by decide +kernel
theorem dX5_nextDraw_8 : decode cX5_nextDraw 8 = .ok (.sipush 12345, 3) := by decide +kernel
theorem dX5_nextDraw_11 : decode cX5_nextDraw 11 = .ok (.iadd, 1) := by decide +kernel
theorem dX5_nextDraw_12 : decode cX5_nextDraw 12 = .ok (.putfield 19, 3) := by decide +kernel
theorem dX5_nextDraw_15 : decode cX5_nextDraw 15 = .ok (.aload_n 0, 1) := by decide +kernel
theorem dX5_nextDraw_16 : decode cX5_nextDraw 16 = .ok (.getfield 19, 3) := by decide +kernel
theorem dX5_nextDraw_19 : decode cX5_nextDraw 19 = .ok (.bipush 8, 2) := by decide +kernel
theorem dX5_nextDraw_21 : decode cX5_nextDraw 21 = .ok (.iushr, 1) := by decide +kernel
theorem dX5_nextDraw_22 : decode cX5_nextDraw 22 = .ok (.ireturn, 1) := by decide +kernel
theorem dX6_init_0 : decode cX6_init 0 = .ok (.aload_n 0, 1) := by decide +kernel
theorem dX6_init_1 : decode cX6_init 1 = .ok (.invokespecial 3, 3) := by decide +kernel
theorem dX6_init_4 : decode cX6_init 4 = .ok (.aload_n 0, 1) := by decide +kernel
theorem dX6_init_5 : decode cX6_init 5 = .ok (.bipush 40, 2) := by decide +kernel
theorem dX6_init_7 : decode cX6_init 7 = .ok (.newarray .int, 2) := by decide +kernel
theorem dX6_init_9 : decode cX6_init 9 = .ok (.putfield 9, 3) := by decide +kernel
theorem dX6_init_12 : decode cX6_init 12 = .ok (.return_, 1) := by decide +kernel
theorem dX6_isMissing_0 : decode cX6_isMissing 0 = .ok (.aload_n 0, 1) := by decide +kernel
theorem dX6_isMissing_1 : decode cX6_isMissing 1 = .ok (.getfield 15, 3) := by decide +kernel
theorem dX6_isMissing_4 : decode cX6_isMissing 4 = .ok (.ifCond .ne 7, 3) := by decide +kernel
theorem dX6_isMissing_7 : decode cX6_isMissing 7 = .ok (.iconst 1, 1) := by decide +kernel
theorem dX6_isMissing_8 : decode cX6_isMissing 8 = .ok (.goto 4, 3) := by decide +kernel
theorem dX6_isMissing_11 : decode cX6_isMissing 11 = .ok (.iconst 0, 1) := by decide +kernel
theorem dX6_isMissing_12 : decode cX6_isMissing 12 = .ok (.ireturn, 1) := by decide +kernel
theorem dX6_clear_0 : decode cX6_clear 0 = .ok (.aload_n 0, 1) := by decide +kernel
theorem dX6_clear_1 : decode cX6_clear 1 = .ok (.iload_n 1, 1) := by decide +kernel
theorem dX6_clear_2 : decode cX6_clear 2 = .ok (.putfield 15, 3) := by decide +kernel
theorem dX6_clear_5 : decode cX6_clear 5 = .ok (.aload_n 0, 1) := by decide +kernel
theorem dX6_clear_6 : decode cX6_clear 6 = .ok (.iload_n 2, 1) := by decide +kernel
theorem dX6_clear_7 : decode cX6_clear 7 = .ok (.putfield 19, 3) := by decide +kernel
theorem dX6_clear_10 : decode cX6_clear 10 = .ok (.aload_n 0, 1) := by decide +kernel
theorem dX6_clear_11 : decode cX6_clear 11 = .ok (.getfield 9, 3) := by decide +kernel
theorem dX6_clear_14 : decode cX6_clear 14 = .ok (.iconst 0, 1) := by decide +kernel
theorem dX6_clear_15 : decode cX6_clear 15 = .ok (.invokestatic 22, 3) := by decide +kernel
theorem dX6_clear_18 : decode cX6_clear 18 = .ok (.return_, 1) := by decide +kernel
theorem dX6_lowestBits_0 : decode cX6_lowestBits 0 = .ok (.aload_n 0, 1) := by decide +kernel
theorem dX6_lowestBits_1 : decode cX6_lowestBits 1 = .ok (.getfield 15, 3) := by decide +kernel
theorem dX6_lowestBits_4 : decode cX6_lowestBits 4 = .ok (.bipush 32, 2) := by decide +kernel
theorem dX6_lowestBits_6 : decode cX6_lowestBits 6 = .ok (.if_icmp .ne 5, 3) := by decide +kernel
theorem dX6_lowestBits_9 : decode cX6_lowestBits 9 = .ok (.iload_n 1, 1) := by decide +kernel
theorem dX6_lowestBits_10 : decode cX6_lowestBits 10 = .ok (.ireturn, 1) := by decide +kernel
theorem dX6_lowestBits_11 : decode cX6_lowestBits 11 = .ok (.aload_n 0, 1) := by decide +kernel
theorem dX6_lowestBits_12 : decode cX6_lowestBits 12 = .ok (.getfield 15, 3) := by decide +kernel
theorem dX6_lowestBits_15 : decode cX6_lowestBits 15 = .ok (.bipush 8, 2) := by decide +kernel
theorem dX6_lowestBits_17 : decode cX6_lowestBits 17 = .ok (.if_icmp .ne 8, 3) := by decide +kernel
theorem dX6_lowestBits_20 : decode cX6_lowestBits 20 = .ok (.iload_n 1, 1) := by decide +kernel
theorem dX6_lowestBits_21 : decode cX6_lowestBits 21 = .ok (.i2b, 1) := by decide +kernel
theorem dX6_lowestBits_22 : decode cX6_lowestBits 22 = .ok (.goto 5, 3) := by decide +kernel
theorem dX6_lowestBits_25 : decode cX6_lowestBits 25 = .ok (.iload_n 1, 1) := by decide +kernel
theorem dX6_lowestBits_26 : decode cX6_lowestBits 26 = .ok (.i2s, 1) := by decide +kernel
theorem dX6_lowestBits_27 : decode cX6_lowestBits 27 = .ok (.ireturn, 1) := by decide +kernel
theorem dX6_hasFrom_0 : decode cX6_hasFrom 0 = .ok (.iload_n 1, 1) := by decide +kernel
theorem dX6_hasFrom_1 : decode cX6_hasFrom 1 = .ok (.ifCond .lt 29, 3) := by decide +kernel
theorem dX6_hasFrom_4 : decode cX6_hasFrom 4 = .ok (.iload_n 2, 1) := by decide +kernel
theorem dX6_hasFrom_5 : decode cX6_hasFrom 5 = .ok (.ifCond .lt 25, 3) := by decide +kernel
theorem dX6_hasFrom_8 : decode cX6_hasFrom 8 = .ok (.iload_n 1, 1) := by decide +kernel
theorem dX6_hasFrom_9 : decode cX6_hasFrom 9 = .ok (.aload_n 0, 1) := by decide +kernel
theorem dX6_hasFrom_10 : decode cX6_hasFrom 10 = .ok (.getfield 19, 3) := by decide +kernel
theorem dX6_hasFrom_13 : decode cX6_hasFrom 13 = .ok (.if_icmp .gt 17, 3) := by decide +kernel
theorem dX6_hasFrom_16 : decode cX6_hasFrom 16 = .ok (.iload_n 2, 1) := by decide +kernel
theorem dX6_hasFrom_17 : decode cX6_hasFrom 17 = .ok (.aload_n 0, 1) := by decide +kernel
theorem dX6_hasFrom_18 : decode cX6_hasFrom 18 = .ok (.getfield 19, 3) := by decide +kernel
theorem dX6_hasFrom_21 : decode cX6_hasFrom 21 = .ok (.iload_n 1, 1) := by decide +kernel
theorem dX6_hasFrom_22 : decode cX6_hasFrom 22 = .ok (.isub, 1) := by decide +kernel
theorem dX6_hasFrom_23 : decode cX6_hasFrom 23 = .ok (.if_icmp .gt 7, 3) := by decide +kernel
theorem dX6_hasFrom_26 : decode cX6_hasFrom 26 = .ok (.iconst 1, 1) := by decide +kernel
theorem dX6_hasFrom_27 : decode cX6_hasFrom 27 = .ok (.goto 4, 3) := by decide +kernel
theorem dX6_hasFrom_30 : decode cX6_hasFrom 30 = .ok (.iconst 0, 1) := by decide +kernel
theorem dX6_hasFrom_31 : decode cX6_hasFrom 31 = .ok (.ireturn, 1) := by decide +kernel
theorem dX7_init_0 : decode cX7_init 0 = .ok (.aload_n 0, 1) := by decide +kernel
theorem dX7_init_1 : decode cX7_init 1 = .ok (.invokespecial 3, 3) := by decide +kernel
theorem dX7_init_4 : decode cX7_init 4 = .ok (.aload_n 0, 1) := by decide +kernel
theorem dX7_init_5 : decode cX7_init 5 = .ok (.new 9, 3) := by decide +kernel
theorem dX7_init_8 : decode cX7_init 8 = .ok (.dup, 1) := by decide +kernel
theorem dX7_init_9 : decode cX7_init 9 = .ok (.invokespecial 11, 3) := by decide +kernel
theorem dX7_init_12 : decode cX7_init 12 = .ok (.putfield 12, 3) := by decide +kernel
theorem dX7_init_15 : decode cX7_init 15 = .ok (.aload_n 0, 1) := by decide +kernel
theorem dX7_init_16 : decode cX7_init 16 = .ok (.aload_n 1, 1) := by decide +kernel
theorem dX7_init_17 : decode cX7_init 17 = .ok (.putfield 18, 3) := by decide +kernel
theorem dX7_init_20 : decode cX7_init 20 = .ok (.return_, 1) := by decide +kernel
theorem dX7_goesOn_0 : decode cX7_goesOn 0 = .ok (.aload_n 0, 1) := by decide +kernel
theorem dX7_goesOn_1 : decode cX7_goesOn 1 = .ok (.getfield 12, 3) := by decide +kernel
theorem dX7_goesOn_4 : decode cX7_goesOn 4 = .ok (.aload_n 0, 1) := by decide +kernel
theorem dX7_goesOn_5 : decode cX7_goesOn 5 = .ok (.getfield 18, 3) := by decide +kernel
theorem dX7_goesOn_8 : decode cX7_goesOn 8 = .ok (.aload_n 0, 1) := by decide +kernel
theorem dX7_goesOn_9 : decode cX7_goesOn 9 = .ok (.getfield 12, 3) := by decide +kernel
theorem dX7_goesOn_12 : decode cX7_goesOn 12 = .ok (.invokevirtual 22, 3) := by decide +kernel
theorem dX7_goesOn_15 : decode cX7_goesOn 15 = .ok (.invokevirtual 28, 3) := by decide +kernel
theorem dX7_goesOn_18 : decode cX7_goesOn 18 = .ok (.ireturn, 1) := by decide +kernel
theorem dX7_stays_0 : decode cX7_stays 0 = .ok (.aload_n 0, 1) := by decide +kernel
theorem dX7_stays_1 : decode cX7_stays 1 = .ok (.getfield 12, 3) := by decide +kernel
theorem dX7_stays_4 : decode cX7_stays 4 = .ok (.aload_n 1, 1) := by decide +kernel
theorem dX7_stays_5 : decode cX7_stays 5 = .ok (.invokevirtual 32, 3) := by decide +kernel
theorem dX7_stays_8 : decode cX7_stays 8 = .ok (.aload_n 0, 1) := by decide +kernel
theorem dX7_stays_9 : decode cX7_stays 9 = .ok (.invokevirtual 36, 3) := by decide +kernel
theorem dX7_stays_12 : decode cX7_stays 12 = .ok (.ifCond .ne 7, 3) := by decide +kernel
theorem dX7_stays_15 : decode cX7_stays 15 = .ok (.iconst 1, 1) := by decide +kernel
theorem dX7_stays_16 : decode cX7_stays 16 = .ok (.goto 4, 3) := by decide +kernel
theorem dX7_stays_19 : decode cX7_stays 19 = .ok (.iconst 0, 1) := by decide +kernel
theorem dX7_stays_20 : decode cX7_stays 20 = .ok (.ireturn, 1) := by decide +kernel
theorem dX7_restsBehind_0 : decode cX7_restsBehind 0 = .ok (.aload_n 0, 1) := by decide +kernel
theorem dX7_restsBehind_1 : decode cX7_restsBehind 1 = .ok (.getfield 12, 3) := by decide +kernel
theorem dX7_restsBehind_4 : decode cX7_restsBehind 4 = .ok (.aload_n 1, 1) := by decide +kernel
theorem dX7_restsBehind_5 : decode cX7_restsBehind 5 = .ok (.invokevirtual 32, 3) := by decide +kernel
theorem dX7_restsBehind_8 : decode cX7_restsBehind 8 = .ok (.iconst 0, 1) := by decide +kernel
theorem dX7_restsBehind_9 : decode cX7_restsBehind 9 = .ok (.istore_n 2, 1) := by decide +kernel
theorem dX7_restsBehind_10 : decode cX7_restsBehind 10 = .ok (.iload_n 2, 1) := by decide +kernel
theorem dX7_restsBehind_11 : decode cX7_restsBehind 11 = .ok (.sipush 200, 3) := by decide +kernel
theorem dX7_restsBehind_14 : decode cX7_restsBehind 14 = .ok (.if_icmp .gt 18, 3) := by decide +kernel
theorem dX7_restsBehind_17 : decode cX7_restsBehind 17 = .ok (.aload_n 0, 1) := by decide +kernel
theorem dX7_restsBehind_18 : decode cX7_restsBehind 18 = .ok (.invokevirtual 36, 3) := by decide +kernel
theorem dX7_restsBehind_21 : decode cX7_restsBehind 21 = .ok (.ifCond .ne 5, 3) := by decide +kernel
theorem dX7_restsBehind_24 : decode cX7_restsBehind 24 = .ok (.iload_n 2, 1) := by decide +kernel
theorem dX7_restsBehind_25 : decode cX7_restsBehind 25 = .ok (.ireturn, 1) := by decide +kernel
theorem dX7_restsBehind_26 : decode cX7_restsBehind 26 = .ok (.iinc 2 1, 3) := by decide +kernel
theorem dX7_restsBehind_29 : decode cX7_restsBehind 29 = .ok (.goto (-19), 3) := by decide +kernel
theorem dX7_restsBehind_32 : decode cX7_restsBehind 32 = .ok (.iconst (-1), 1) := by decide +kernel
theorem dX7_restsBehind_33 : decode cX7_restsBehind 33 = .ok (.ireturn, 1) := by decide +kernel
theorem dX7_overBehind_0 : decode cX7_overBehind 0 = .ok (.aload_n 0, 1) := by decide +kernel
theorem dX7_overBehind_1 : decode cX7_overBehind 1 = .ok (.getfield 12, 3) := by decide +kernel
theorem dX7_overBehind_4 : decode cX7_overBehind 4 = .ok (.aload_n 1, 1) := by decide +kernel
theorem dX7_overBehind_5 : decode cX7_overBehind 5 = .ok (.invokevirtual 32, 3) := by decide +kernel
theorem dX7_overBehind_8 : decode cX7_overBehind 8 = .ok (.aload_n 0, 1) := by decide +kernel
theorem dX7_overBehind_9 : decode cX7_overBehind 9 = .ok (.getfield 12, 3) := by decide +kernel
theorem dX7_overBehind_12 : decode cX7_overBehind 12 = .ok (.iload_n 3, 1) := by decide +kernel
theorem dX7_overBehind_13 : decode cX7_overBehind 13 = .ok (.invokevirtual 40, 3) := by decide +kernel
theorem dX7_overBehind_16 : decode cX7_overBehind 16 = .ok (.iconst 0, 1) := by decide +kernel
theorem dX7_overBehind_17 : decode cX7_overBehind 17 = .ok (.istore 4, 2) := by decide +kernel
theorem dX7_overBehind_19 : decode cX7_overBehind 19 = .ok (.iload 4, 2) := by decide +kernel
theorem dX7_overBehind_21 : decode cX7_overBehind 21 = .ok (.bipush 100, 2) := by decide +kernel
theorem dX7_overBehind_23 : decode cX7_overBehind 23 = .ok (.if_icmp .gt 35, 3) := by decide +kernel
theorem dX7_overBehind_26 : decode cX7_overBehind 26 = .ok (.aload_n 0, 1) := by decide +kernel
theorem dX7_overBehind_27 : decode cX7_overBehind 27 = .ok (.getfield 12, 3) := by decide +kernel
theorem dX7_overBehind_30 : decode cX7_overBehind 30 = .ok (.getfield 44, 3) := by decide +kernel
theorem dX7_overBehind_33 : decode cX7_overBehind 33 = .ok (.iload_n 2, 1) := by decide +kernel
theorem dX7_overBehind_34 : decode cX7_overBehind 34 = .ok (.bipush 40, 2) := by decide +kernel
theorem dX7_overBehind_36 : decode cX7_overBehind 36 = .ok (.imul, 1) := by decide +kernel
theorem dX7_overBehind_37 : decode cX7_overBehind 37 = .ok (.if_icmp .ne 6, 3) := by decide +kernel
theorem dX7_overBehind_40 : decode cX7_overBehind 40 = .ok (.iload 4, 2) := by decide +kernel
theorem dX7_overBehind_42 : decode cX7_overBehind 42 = .ok (.ireturn, 1) := by decide +kernel
theorem dX7_overBehind_43 : decode cX7_overBehind 43 = .ok (.aload_n 0, 1) := by decide +kernel
theorem dX7_overBehind_44 : decode cX7_overBehind 44 = .ok (.invokevirtual 36, 3) := by decide +kernel
theorem dX7_overBehind_47 : decode cX7_overBehind 47 = .ok (.ifCond .ne 5, 3) := by decide +kernel
theorem dX7_overBehind_50 : decode cX7_overBehind 50 = .ok (.iconst (-1), 1) := by decide +kernel
theorem dX7_overBehind_51 : decode cX7_overBehind 51 = .ok (.ireturn, 1) := by decide +kernel
theorem dX7_overBehind_52 : decode cX7_overBehind 52 = .ok (.iinc 4 1, 3) := by decide +kernel
theorem dX7_overBehind_55 : decode cX7_overBehind 55 = .ok (.goto (-36), 3) := by decide +kernel
theorem dX7_overBehind_58 : decode cX7_overBehind 58 = .ok (.iconst (-1), 1) := by decide +kernel
theorem dX7_overBehind_59 : decode cX7_overBehind 59 = .ok (.ireturn, 1) := by decide +kernel
theorem dX7_rollsSo_0 : decode cX7_rollsSo 0 = .ok (.aload_n 0, 1) := by decide +kernel
theorem dX7_rollsSo_1 : decode cX7_rollsSo 1 = .ok (.getfield 12, 3) := by decide +kernel
theorem dX7_rollsSo_4 : decode cX7_rollsSo 4 = .ok (.aload_n 1, 1) := by decide +kernel
theorem dX7_rollsSo_5 : decode cX7_rollsSo 5 = .ok (.invokevirtual 32, 3) := by decide +kernel
theorem dX7_rollsSo_8 : decode cX7_rollsSo 8 = .ok (.aload_n 0, 1) := by decide +kernel
theorem dX7_rollsSo_9 : decode cX7_rollsSo 9 = .ok (.getfield 12, 3) := by decide +kernel
theorem dX7_rollsSo_12 : decode cX7_rollsSo 12 = .ok (.iload_n 2, 1) := by decide +kernel
theorem dX7_rollsSo_13 : decode cX7_rollsSo 13 = .ok (.putfield 48, 3) := by decide +kernel
theorem dX7_rollsSo_16 : decode cX7_rollsSo 16 = .ok (.aload_n 0, 1) := by decide +kernel
theorem dX7_rollsSo_17 : decode cX7_rollsSo 17 = .ok (.aload_n 3, 1) := by decide +kernel
theorem dX7_rollsSo_18 : decode cX7_rollsSo 18 = .ok (.invokevirtual 51, 3) := by decide +kernel
theorem dX7_rollsSo_21 : decode cX7_rollsSo 21 = .ok (.ireturn, 1) := by decide +kernel
theorem dX7_goesSoAs_0 : decode cX7_goesSoAs 0 = .ok (.aload_n 0, 1) := by decide +kernel
theorem dX7_goesSoAs_1 : decode cX7_goesSoAs 1 = .ok (.getfield 12, 3) := by decide +kernel
theorem dX7_goesSoAs_4 : decode cX7_goesSoAs 4 = .ok (.aload_n 1, 1) := by decide +kernel
theorem dX7_goesSoAs_5 : decode cX7_goesSoAs 5 = .ok (.invokevirtual 32, 3) := by decide +kernel
theorem dX7_goesSoAs_8 : decode cX7_goesSoAs 8 = .ok (.aload_n 0, 1) := by decide +kernel
theorem dX7_goesSoAs_9 : decode cX7_goesSoAs 9 = .ok (.getfield 12, 3) := by decide +kernel
theorem dX7_goesSoAs_12 : decode cX7_goesSoAs 12 = .ok (.iload_n 2, 1) := by decide +kernel
theorem dX7_goesSoAs_13 : decode cX7_goesSoAs 13 = .ok (.putfield 55, 3) := by decide +kernel
theorem dX7_goesSoAs_16 : decode cX7_goesSoAs 16 = .ok (.aload_n 0, 1) := by decide +kernel
theorem dX7_goesSoAs_17 : decode cX7_goesSoAs 17 = .ok (.aload_n 3, 1) := by decide +kernel
theorem dX7_goesSoAs_18 : decode cX7_goesSoAs 18 = .ok (.invokevirtual 51, 3) := by decide +kernel
theorem dX7_goesSoAs_21 : decode cX7_goesSoAs 21 = .ok (.ireturn, 1) := by decide +kernel
theorem dX7_goesSo_0 : decode cX7_goesSo 0 = .ok (.iconst 0, 1) := by decide +kernel
theorem dX7_goesSo_1 : decode cX7_goesSo 1 = .ok (.istore_n 2, 1) := by decide +kernel
theorem dX7_goesSo_2 : decode cX7_goesSo 2 = .ok (.iload_n 2, 1) := by decide +kernel
theorem dX7_goesSo_3 : decode cX7_goesSo 3 = .ok (.aload_n 1, 1) := by decide +kernel
theorem dX7_goesSo_4 : decode cX7_goesSo 4 = .ok (.getfield 58, 3) := by decide +kernel
theorem dX7_goesSo_7 : decode cX7_goesSo 7 = .ok (.if_icmp .ge 32, 3) := by decide +kernel
theorem dX7_goesSo_10 : decode cX7_goesSo 10 = .ok (.aload_n 0, 1) := by decide +kernel
theorem dX7_goesSo_11 : decode cX7_goesSo 11 = .ok (.invokevirtual 36, 3) := by decide +kernel
theorem dX7_goesSo_14 : decode cX7_goesSo 14 = .ok (.pop, 1) := by decide +kernel
theorem dX7_goesSo_15 : decode cX7_goesSo 15 = .ok (.aload_n 0, 1) := by decide +kernel
theorem dX7_goesSo_16 : decode cX7_goesSo 16 = .ok (.getfield 12, 3) := by decide +kernel
theorem dX7_goesSo_19 : decode cX7_goesSo 19 = .ok (.getfield 44, 3) := by decide +kernel
theorem dX7_goesSo_22 : decode cX7_goesSo 22 = .ok (.aload_n 1, 1) := by decide +kernel
theorem dX7_goesSo_23 : decode cX7_goesSo 23 = .ok (.getfield 63, 3) := by decide +kernel
theorem dX7_goesSo_26 : decode cX7_goesSo 26 = .ok (.iload_n 2, 1) := by decide +kernel
theorem dX7_goesSo_27 : decode cX7_goesSo 27 = .ok (.iaload, 1) := by decide +kernel
theorem dX7_goesSo_28 : decode cX7_goesSo 28 = .ok (.if_icmp .eq 5, 3) := by decide +kernel
theorem dX7_goesSo_31 : decode cX7_goesSo 31 = .ok (.iconst 0, 1) := by decide +kernel
theorem dX7_goesSo_32 : decode cX7_goesSo 32 = .ok (.ireturn, 1) := by decide +kernel
theorem dX7_goesSo_33 : decode cX7_goesSo 33 = .ok (.iinc 2 1, 3) := by decide +kernel
theorem dX7_goesSo_36 : decode cX7_goesSo 36 = .ok (.goto (-34), 3) := by decide +kernel
theorem dX7_goesSo_39 : decode cX7_goesSo 39 = .ok (.iconst 1, 1) := by decide +kernel
theorem dX7_goesSo_40 : decode cX7_goesSo 40 = .ok (.ireturn, 1) := by decide +kernel
theorem dX7_landings_0 : decode cX7_landings 0 = .ok (.iconst 0, 1) := by decide +kernel
theorem dX7_landings_1 : decode cX7_landings 1 = .ok (.istore 5, 2) := by decide +kernel
theorem dX7_landings_3 : decode cX7_landings 3 = .ok (.iconst 0, 1) := by decide +kernel
theorem dX7_landings_4 : decode cX7_landings 4 = .ok (.istore 6, 2) := by decide +kernel
theorem dX7_landings_6 : decode cX7_landings 6 = .ok (.iload 6, 2) := by decide +kernel
theorem dX7_landings_8 : decode cX7_landings 8 = .ok (.iload 4, 2) := by decide +kernel
theorem dX7_landings_10 : decode cX7_landings 10 = .ok (.if_icmp .ge 48, 3) := by decide +kernel
theorem dX7_landings_13 : decode cX7_landings 13 = .ok (.aload_n 0, 1) := by decide +kernel
theorem dX7_landings_14 : decode cX7_landings 14 = .ok (.getfield 12, 3) := by decide +kernel
theorem dX7_landings_17 : decode cX7_landings 17 = .ok (.aload_n 1, 1) := by decide +kernel
theorem dX7_landings_18 : decode cX7_landings 18 = .ok (.invokevirtual 32, 3) := by decide +kernel
theorem dX7_landings_21 : decode cX7_landings 21 = .ok (.aload_n 0, 1) := by decide +kernel
theorem dX7_landings_22 : decode cX7_landings 22 = .ok (.iload 6, 2) := by decide +kernel
theorem dX7_landings_24 : decode cX7_landings 24 = .ok (.iload_n 3, 1) := by decide +kernel
theorem dX7_landings_25 : decode cX7_landings 25 = .ok (.invokevirtual 67, 3) := by decide +kernel
theorem dX7_landings_28 : decode cX7_landings 28 = .ok (.iload 5, 2) := by decide +kernel
theorem dX7_landings_30 : decode cX7_landings 30 = .ok (.aload_n 0, 1) := by decide +kernel
theorem dX7_landings_31 : decode cX7_landings 31 = .ok (.getfield 12, 3) := by decide +kernel
theorem dX7_landings_34 : decode cX7_landings 34 = .ok (.getfield 44, 3) := by decide +kernel
theorem dX7_landings_37 : decode cX7_landings 37 = .ok (.iload_n 2, 1) := by decide +kernel
theorem dX7_landings_38 : decode cX7_landings 38 = .ok (.bipush 40, 2) := by decide +kernel
theorem dX7_landings_40 : decode cX7_landings 40 = .ok (.imul, 1) := by decide +kernel
theorem dX7_landings_41 : decode cX7_landings 41 = .ok (.if_icmp .ne 7, 3) := by decide +kernel
theorem dX7_landings_44 : decode cX7_landings 44 = .ok (.iconst 1, 1) := by decide +kernel
theorem dX7_landings_45 : decode cX7_landings 45 = .ok (.goto 4, 3) := by decide +kernel
theorem dX7_landings_48 : decode cX7_landings 48 = .ok (.iconst 0, 1) := by decide +kernel
theorem dX7_landings_49 : decode cX7_landings 49 = .ok (.iadd, 1) := by decide +kernel
theorem dX7_landings_50 : decode cX7_landings 50 = .ok (.istore 5, 2) := by decide +kernel
theorem dX7_landings_52 : decode cX7_landings 52 = .ok (.iinc 6 1, 3) := by decide +kernel
theorem dX7_landings_55 : decode cX7_landings 55 = .ok (.goto (-49), 3) := by decide +kernel
theorem dX7_landings_58 : decode cX7_landings 58 = .ok (.iload 5, 2) := by decide +kernel
theorem dX7_landings_60 : decode cX7_landings 60 = .ok (.ireturn, 1) := by decide +kernel
theorem dX7_goThroughQuakes_0 : decode cX7_goThroughQuakes 0 = .ok (.iload_n 1, 1) := by decide +kernel
theorem dX7_goThroughQuakes_1 : decode cX7_goThroughQuakes 1 = .ok (.istore_n 3, 1) := by decide +kernel
theorem dX7_goThroughQuakes_2 : decode cX7_goThroughQuakes 2 = .ok (.iconst 0, 1) := by decide +kernel
theorem dX7_goThroughQuakes_3 : decode cX7_goThroughQuakes 3 = .ok (.istore 4, 2) := by decide +kernel
theorem dX7_goThroughQuakes_5 : decode cX7_goThroughQuakes 5 = .ok (.iload 4, 2) := by decide +kernel
theorem dX7_goThroughQuakes_7 : decode cX7_goThroughQuakes 7 = .ok (.bipush 50, 2) := by decide +kernel
theorem dX7_goThroughQuakes_9 : decode cX7_goThroughQuakes 9 = .ok (.if_icmp .ge 47, 3) := by decide +kernel
theorem dX7_goThroughQuakes_12 : decode cX7_goThroughQuakes 12 = .ok (.iload 4, 2) := by decide +kernel
theorem dX7_goThroughQuakes_14 : decode cX7_goThroughQuakes 14 = .ok (.iload_n 2, 1) := by decide +kernel
theorem dX7_goThroughQuakes_15 : decode cX7_goThroughQuakes 15 = .ok (.if_icmp .ge 19, 3) := by decide +kernel
theorem dX7_goThroughQuakes_18 : decode cX7_goThroughQuakes 18 = .ok (.aload_n 0, 1) := by decide +kernel
theorem dX7_goThroughQuakes_19 : decode cX7_goThroughQuakes 19 = .ok (.getfield 12, 3) := by decide +kernel
theorem dX7_goThroughQuakes_22 : decode cX7_goThroughQuakes 22 = .ok (.iload_n 3, 1) := by decide +kernel
theorem dX7_goThroughQuakes_23 : decode cX7_goThroughQuakes 23 = .ok (.iconst 3, 1) := by decide +kernel
theorem dX7_goThroughQuakes_24 : decode cX7_goThroughQuakes 24 = .ok (.irem, 1) := by decide +kernel
theorem dX7_goThroughQuakes_25 : decode cX7_goThroughQuakes 25 = .ok (.iconst 1, 1) := by decide +kernel
theorem dX7_goThroughQuakes_26 : decode cX7_goThroughQuakes 26 = .ok (.isub, 1) := by decide +kernel
theorem dX7_goThroughQuakes_27 : decode cX7_goThroughQuakes 27 = .ok (.invokevirtual 40, 3) := by decide +kernel
theorem dX7_goThroughQuakes_30 : decode cX7_goThroughQuakes 30 = .ok (.iload_n 3, 1) := by decide +kernel
theorem dX7_goThroughQuakes_31 : decode cX7_goThroughQuakes 31 = .ok (.iconst 3, 1) := by decide +kernel
theorem dX7_goThroughQuakes_32 : decode cX7_goThroughQuakes 32 = .ok (.idiv, 1) := by decide +kernel
theorem dX7_goThroughQuakes_33 : decode cX7_goThroughQuakes 33 = .ok (.istore_n 3, 1) := by decide +kernel
theorem dX7_goThroughQuakes_34 : decode cX7_goThroughQuakes 34 = .ok (.aload_n 0, 1) := by decide +kernel
theorem dX7_goThroughQuakes_35 : decode cX7_goThroughQuakes 35 = .ok (.invokevirtual 36, 3) := by decide +kernel
theorem dX7_goThroughQuakes_38 : decode cX7_goThroughQuakes 38 = .ok (.ifCond .ne 12, 3) := by decide +kernel
theorem dX7_goThroughQuakes_41 : decode cX7_goThroughQuakes 41 = .ok (.iload 4, 2) := by decide +kernel
theorem dX7_goThroughQuakes_43 : decode cX7_goThroughQuakes 43 = .ok (.iload_n 2, 1) := by decide +kernel
theorem dX7_goThroughQuakes_44 : decode cX7_goThroughQuakes 44 = .ok (.if_icmp .lt 6, 3) := by decide +kernel
theorem dX7_goThroughQuakes_47 : decode cX7_goThroughQuakes 47 = .ok (.goto 9, 3) := by decide +kernel
theorem dX7_goThroughQuakes_50 : decode cX7_goThroughQuakes 50 = .ok (.iinc 4 1, 3) := by decide +kernel
theorem dX7_goThroughQuakes_53 : decode cX7_goThroughQuakes 53 = .ok (.goto (-48), 3) := by decide +kernel
theorem dX7_goThroughQuakes_56 : decode cX7_goThroughQuakes 56 = .ok (.return_, 1) := by decide +kernel
theorem dX8_init_0 : decode cX8_init 0 = .ok (.aload_n 0, 1) := by decide +kernel
theorem dX8_init_1 : decode cX8_init 1 = .ok (.invokespecial 3, 3) := by decide +kernel
theorem dX8_init_4 : decode cX8_init 4 = .ok (.aload_n 0, 1) := by decide +kernel
theorem dX8_init_5 : decode cX8_init 5 = .ok (.bipush 40, 2) := by decide +kernel
theorem dX8_init_7 : decode cX8_init 7 = .ok (.newarray .int, 2) := by decide +kernel
theorem dX8_init_9 : decode cX8_init 9 = .ok (.putfield 11, 3) := by decide +kernel
theorem dX8_init_12 : decode cX8_init 12 = .ok (.return_, 1) := by decide +kernel
theorem dX8_speak_0 : decode cX8_speak 0 = .ok (.aload_n 0, 1) := by decide +kernel
theorem dX8_speak_1 : decode cX8_speak 1 = .ok (.aload_n 1, 1) := by decide +kernel
theorem dX8_speak_2 : decode cX8_speak 2 = .ok (.getfield 15, 3) := by decide +kernel
theorem dX8_speak_5 : decode cX8_speak 5 = .ok (.putfield 21, 3) := by decide +kernel
theorem dX8_speak_8 : decode cX8_speak 8 = .ok (.aload_n 0, 1) := by decide +kernel
theorem dX8_speak_9 : decode cX8_speak 9 = .ok (.iload_n 2, 1) := by decide +kernel
theorem dX8_speak_10 : decode cX8_speak 10 = .ok (.putfield 22, 3) := by decide +kernel
theorem dX8_speak_13 : decode cX8_speak 13 = .ok (.aload_n 0, 1) := by decide +kernel
theorem dX8_speak_14 : decode cX8_speak 14 = .ok (.aload_n 1, 1) := by decide +kernel
theorem dX8_speak_15 : decode cX8_speak 15 = .ok (.getfield 25, 3) := by decide +kernel
theorem dX8_speak_18 : decode cX8_speak 18 = .ok (.putfield 28, 3) := by decide +kernel
theorem dX8_speak_21 : decode cX8_speak 21 = .ok (.aload_n 0, 1) := by decide +kernel
theorem dX8_speak_22 : decode cX8_speak 22 = .ok (.iconst 0, 1) := by decide +kernel
theorem dX8_speak_23 : decode cX8_speak 23 = .ok (.putfield 29, 3) := by decide +kernel
theorem dX8_speak_26 : decode cX8_speak 26 = .ok (.aload_n 0, 1) := by decide +kernel
theorem dX8_speak_27 : decode cX8_speak 27 = .ok (.iload_n 3, 1) := by decide +kernel
theorem dX8_speak_28 : decode cX8_speak 28 = .ok (.iload 4, 2) := by decide +kernel
theorem dX8_speak_30 : decode cX8_speak 30 = .ok (.iconst 0, 1) := by decide +kernel
theorem dX8_speak_31 : decode cX8_speak 31 = .ok (.invokevirtual 32, 3) := by decide +kernel
theorem dX8_speak_34 : decode cX8_speak 34 = .ok (.ireturn, 1) := by decide +kernel
theorem dX8_own_0 : decode cX8_own 0 = .ok (.aload_n 0, 1) := by decide +kernel
theorem dX8_own_1 : decode cX8_own 1 = .ok (.aload_n 0, 1) := by decide +kernel
theorem dX8_own_2 : decode cX8_own 2 = .ok (.getfield 21, 3) := by decide +kernel
theorem dX8_own_5 : decode cX8_own 5 = .ok (.iload_n 1, 1) := by decide +kernel
theorem dX8_own_6 : decode cX8_own 6 = .ok (.iload_n 2, 1) := by decide +kernel
theorem dX8_own_7 : decode cX8_own 7 = .ok (.iload_n 3, 1) := by decide +kernel
theorem dX8_own_8 : decode cX8_own 8 = .ok (.invokevirtual 36, 3) := by decide +kernel
theorem dX8_own_11 : decode cX8_own 11 = .ok (.ireturn, 1) := by decide +kernel
theorem dX8_from_0 : decode cX8_from 0 = .ok (.iload 4, 2) := by decide +kernel
theorem dX8_from_2 : decode cX8_from 2 = .ok (.bipush 40, 2) := by decide +kernel
theorem dX8_from_4 : decode cX8_from 4 = .ok (.if_icmp .le 5, 3) := by decide +kernel
theorem dX8_from_7 : decode cX8_from 7 = .ok (.iconst 0, 1) := by decide +kernel
theorem dX8_from_8 : decode cX8_from 8 = .ok (.ireturn, 1) := by decide +kernel
theorem dX8_from_9 : decode cX8_from 9 = .ok (.iload_n 1, 1) := by decide +kernel
theorem dX8_from_10 : decode cX8_from 10 = .ok (.iload_n 2, 1) := by decide +kernel
theorem dX8_from_11 : decode cX8_from 11 = .ok (.invokestatic 40, 3) := by decide +kernel
theorem dX8_from_14 : decode cX8_from 14 = .ok (.istore 5, 2) := by decide +kernel
theorem dX8_from_16 : decode cX8_from 16 = .ok (.aload_n 0, 1) := by decide +kernel
theorem dX8_from_17 : decode cX8_from 17 = .ok (.iload 5, 2) := by decide +kernel
theorem dX8_from_19 : decode cX8_from 19 = .ok (.invokevirtual 44, 3) := by decide +kernel
theorem dX8_from_22 : decode cX8_from 22 = .ok (.iload 4, 2) := by decide +kernel
theorem dX8_from_24 : decode cX8_from 24 = .ok (.iconst 1, 1) := by decide +kernel
theorem dX8_from_25 : decode cX8_from 25 = .ok (.iadd, 1) := by decide +kernel
theorem dX8_from_26 : decode cX8_from 26 = .ok (.istore 6, 2) := by decide +kernel
theorem dX8_from_28 : decode cX8_from 28 = .ok (.iload 5, 2) := by decide +kernel
theorem dX8_from_30 : decode cX8_from 30 = .ok (.lookupswitch 228 #[(10, 90), (11, 97), (12, 108), (13, 115), (20, 133), (30, 152), (40, 163), (50, 175), (51, 190), (60, 209)], 90) := by decide +kernel
theorem dX8_from_120 : decode cX8_from 120 = .ok (.iload_n 3, 1) := by decide +kernel
theorem dX8_from_121 : decode cX8_from 121 = .ok (.aload_n 0, 1) := by decide +kernel
theorem dX8_from_122 : decode cX8_from 122 = .ok (.getfield 22, 3) := by decide +kernel
theorem dX8_from_125 : decode cX8_from 125 = .ok (.iadd, 1) := by decide +kernel
theorem dX8_from_126 : decode cX8_from 126 = .ok (.ireturn, 1) := by decide +kernel
theorem dX8_from_127 : decode cX8_from 127 = .ok (.aload_n 0, 1) := by decide +kernel
theorem dX8_from_128 : decode cX8_from 128 = .ok (.iconst 0, 1) := by decide +kernel
theorem dX8_from_129 : decode cX8_from 129 = .ok (.iload_n 3, 1) := by decide +kernel
theorem dX8_from_130 : decode cX8_from 130 = .ok (.iload 6, 2) := by decide +kernel
theorem dX8_from_132 : decode cX8_from 132 = .ok (.invokevirtual 32, 3) := by decide +kernel
theorem dX8_from_135 : decode cX8_from 135 = .ok (.iconst 2, 1) := by decide +kernel
theorem dX8_from_136 : decode cX8_from 136 = .ok (.imul, 1) := by decide +kernel
theorem dX8_from_137 : decode cX8_from 137 = .ok (.ireturn, 1) := by decide +kernel
theorem dX8_from_138 : decode cX8_from 138 = .ok (.iload_n 3, 1) := by decide +kernel
theorem dX8_from_139 : decode cX8_from 139 = .ok (.aload_n 0, 1) := by decide +kernel
theorem dX8_from_140 : decode cX8_from 140 = .ok (.getfield 28, 3) := by decide +kernel
theorem dX8_from_143 : decode cX8_from 143 = .ok (.isub, 1) := by decide +kernel
theorem dX8_from_144 : decode cX8_from 144 = .ok (.ireturn, 1) := by decide +kernel
theorem dX8_from_145 : decode cX8_from 145 = .ok (.aload_n 0, 1) := by decide +kernel
theorem dX8_from_146 : decode cX8_from 146 = .ok (.iconst 1, 1) := by decide +kernel
theorem dX8_from_147 : decode cX8_from 147 = .ok (.iload_n 3, 1) := by decide +kernel
theorem dX8_from_148 : decode cX8_from 148 = .ok (.iload 6, 2) := by decide +kernel
theorem dX8_from_150 : decode cX8_from 150 = .ok (.invokevirtual 32, 3) := by decide +kernel
theorem dX8_from_153 : decode cX8_from 153 = .ok (.aload_n 0, 1) := by decide +kernel
theorem dX8_from_154 : decode cX8_from 154 = .ok (.iconst 2, 1) := by decide +kernel
theorem dX8_from_155 : decode cX8_from 155 = .ok (.iload_n 3, 1) := by decide +kernel
theorem dX8_from_156 : decode cX8_from 156 = .ok (.iload 6, 2) := by decide +kernel
theorem dX8_from_158 : decode cX8_from 158 = .ok (.invokevirtual 32, 3) := by decide +kernel
theorem dX8_from_161 : decode cX8_from 161 = .ok (.ixor, 1) := by decide +kernel
theorem dX8_from_162 : decode cX8_from 162 = .ok (.ireturn, 1) := by decide +kernel
theorem dX8_from_163 : decode cX8_from 163 = .ok (.aload_n 0, 1) := by decide +kernel
theorem dX8_from_164 : decode cX8_from 164 = .ok (.iconst 0, 1) := by decide +kernel
theorem dX8_from_165 : decode cX8_from 165 = .ok (.iconst 1, 1) := by decide +kernel
theorem dX8_from_166 : decode cX8_from 166 = .ok (.iload_n 3, 1) := by decide +kernel
theorem dX8_from_167 : decode cX8_from 167 = .ok (.iload 6, 2) := by decide +kernel
theorem dX8_from_169 : decode cX8_from 169 = .ok (.invokevirtual 36, 3) := by decide +kernel
theorem dX8_from_172 : decode cX8_from 172 = .ok (.aload_n 0, 1) := by decide +kernel
theorem dX8_from_173 : decode cX8_from 173 = .ok (.iconst 2, 1) := by decide +kernel
theorem dX8_from_174 : decode cX8_from 174 = .ok (.iconst 1, 1) := by decide +kernel
theorem dX8_from_175 : decode cX8_from 175 = .ok (.iload 6, 2) := by decide +kernel
theorem dX8_from_177 : decode cX8_from 177 = .ok (.invokevirtual 32, 3) := by decide +kernel
theorem dX8_from_180 : decode cX8_from 180 = .ok (.isub, 1) := by decide +kernel
theorem dX8_from_181 : decode cX8_from 181 = .ok (.ireturn, 1) := by decide +kernel
theorem dX8_from_182 : decode cX8_from 182 = .ok (.aload_n 0, 1) := by decide +kernel
theorem dX8_from_183 : decode cX8_from 183 = .ok (.iconst 0, 1) := by decide +kernel
theorem dX8_from_184 : decode cX8_from 184 = .ok (.iconst 2, 1) := by decide +kernel
theorem dX8_from_185 : decode cX8_from 185 = .ok (.iload_n 3, 1) := by decide +kernel
theorem dX8_from_186 : decode cX8_from 186 = .ok (.iload 6, 2) := by decide +kernel
theorem dX8_from_188 : decode cX8_from 188 = .ok (.invokevirtual 36, 3) := by decide +kernel
theorem dX8_from_191 : decode cX8_from 191 = .ok (.ineg, 1) := by decide +kernel
theorem dX8_from_192 : decode cX8_from 192 = .ok (.ireturn, 1) := by decide +kernel
theorem dX8_from_193 : decode cX8_from 193 = .ok (.aload_n 0, 1) := by decide +kernel
theorem dX8_from_194 : decode cX8_from 194 = .ok (.iconst 0, 1) := by decide +kernel
theorem dX8_from_195 : decode cX8_from 195 = .ok (.iconst 0, 1) := by decide +kernel
theorem dX8_from_196 : decode cX8_from 196 = .ok (.iload_n 3, 1) := by decide +kernel
theorem dX8_from_197 : decode cX8_from 197 = .ok (.iload 6, 2) := by decide +kernel
theorem dX8_from_199 : decode cX8_from 199 = .ok (.invokevirtual 36, 3) := by decide +kernel
theorem dX8_from_202 : decode cX8_from 202 = .ok (.iconst 3, 1) := by decide +kernel
theorem dX8_from_203 : decode cX8_from 203 = .ok (.imul, 1) := by decide +kernel
theorem dX8_from_204 : decode cX8_from 204 = .ok (.ireturn, 1) := by decide +kernel
theorem dX8_from_205 : decode cX8_from 205 = .ok (.aload_n 0, 1) := by decide +kernel
theorem dX8_from_206 : decode cX8_from 206 = .ok (.iconst 2, 1) := by decide +kernel
theorem dX8_from_207 : decode cX8_from 207 = .ok (.iconst 2, 1) := by decide +kernel
theorem dX8_from_208 : decode cX8_from 208 = .ok (.iload_n 3, 1) := by decide +kernel
theorem dX8_from_209 : decode cX8_from 209 = .ok (.iload 6, 2) := by decide +kernel
theorem dX8_from_211 : decode cX8_from 211 = .ok (.invokevirtual 36, 3) := by decide +kernel
theorem dX8_from_214 : decode cX8_from 214 = .ok (.aload_n 0, 1) := by decide +kernel
theorem dX8_from_215 : decode cX8_from 215 = .ok (.getfield 22, 3) := by decide +kernel
theorem dX8_from_218 : decode cX8_from 218 = .ok (.ixor, 1) := by decide +kernel
theorem dX8_from_219 : decode cX8_from 219 = .ok (.ireturn, 1) := by decide +kernel
theorem dX8_from_220 : decode cX8_from 220 = .ok (.aload_n 0, 1) := by decide +kernel
theorem dX8_from_221 : decode cX8_from 221 = .ok (.iconst 1, 1) := by decide +kernel
theorem dX8_from_222 : decode cX8_from 222 = .ok (.iload_n 3, 1) := by decide +kernel
theorem dX8_from_223 : decode cX8_from 223 = .ok (.iload 6, 2) := by decide +kernel
theorem dX8_from_225 : decode cX8_from 225 = .ok (.invokevirtual 32, 3) := by decide +kernel
theorem dX8_from_228 : decode cX8_from 228 = .ok (.aload_n 0, 1) := by decide +kernel
theorem dX8_from_229 : decode cX8_from 229 = .ok (.iconst 2, 1) := by decide +kernel
theorem dX8_from_230 : decode cX8_from 230 = .ok (.iconst 3, 1) := by decide +kernel
theorem dX8_from_231 : decode cX8_from 231 = .ok (.iload_n 3, 1) := by decide +kernel
theorem dX8_from_232 : decode cX8_from 232 = .ok (.iload 6, 2) := by decide +kernel
theorem dX8_from_234 : decode cX8_from 234 = .ok (.invokevirtual 36, 3) := by decide +kernel
theorem dX8_from_237 : decode cX8_from 237 = .ok (.isub, 1) := by decide +kernel
theorem dX8_from_238 : decode cX8_from 238 = .ok (.ireturn, 1) := by decide +kernel
theorem dX8_from_239 : decode cX8_from 239 = .ok (.aload_n 0, 1) := by decide +kernel
theorem dX8_from_240 : decode cX8_from 240 = .ok (.iconst 3, 1) := by decide +kernel
theorem dX8_from_241 : decode cX8_from 241 = .ok (.iconst 3, 1) := by decide +kernel
theorem dX8_from_242 : decode cX8_from 242 = .ok (.iload_n 3, 1) := by decide +kernel
theorem dX8_from_243 : decode cX8_from 243 = .ok (.iload 6, 2) := by decide +kernel
theorem dX8_from_245 : decode cX8_from 245 = .ok (.invokevirtual 36, 3) := by decide +kernel
theorem dX8_from_248 : decode cX8_from 248 = .ok (.aload_n 0, 1) := by decide +kernel
theorem dX8_from_249 : decode cX8_from 249 = .ok (.iconst 0, 1) := by decide +kernel
theorem dX8_from_250 : decode cX8_from 250 = .ok (.iconst 2, 1) := by decide +kernel
theorem dX8_from_251 : decode cX8_from 251 = .ok (.iload 6, 2) := by decide +kernel
theorem dX8_from_253 : decode cX8_from 253 = .ok (.invokevirtual 32, 3) := by decide +kernel
theorem dX8_from_256 : decode cX8_from 256 = .ok (.isub, 1) := by decide +kernel
theorem dX8_from_257 : decode cX8_from 257 = .ok (.ireturn, 1) := by decide +kernel
theorem dX8_from_258 : decode cX8_from 258 = .ok (.aload_n 0, 1) := by decide +kernel
theorem dX8_from_259 : decode cX8_from 259 = .ok (.iconst 1, 1) := by decide +kernel
theorem dX8_from_260 : decode cX8_from 260 = .ok (.iconst 1, 1) := by decide +kernel
theorem dX8_from_261 : decode cX8_from 261 = .ok (.iload_n 3, 1) := by decide +kernel
theorem dX8_from_262 : decode cX8_from 262 = .ok (.iconst 1, 1) := by decide +kernel
theorem dX8_from_263 : decode cX8_from 263 = .ok (.iadd, 1) := by decide +kernel
theorem dX8_from_264 : decode cX8_from 264 = .ok (.iload 6, 2) := by decide +kernel
theorem dX8_from_266 : decode cX8_from 266 = .ok (.invokevirtual 36, 3) := by decide +kernel
theorem dX8_from_269 : decode cX8_from 269 = .ok (.ireturn, 1) := by decide +kernel
theorem dX8_bodyOf_0 : decode cX8_bodyOf 0 = .ok (.iload_n 0, 1) := by decide +kernel
theorem dX8_bodyOf_1 : decode cX8_bodyOf 1 = .ok (.istore_n 2, 1) := by decide +kernel
theorem dX8_bodyOf_2 : decode cX8_bodyOf 2 = .ok (.iconst 0, 1) := by decide +kernel
theorem dX8_bodyOf_3 : decode cX8_bodyOf 3 = .ok (.istore_n 3, 1) := by decide +kernel
theorem dX8_bodyOf_4 : decode cX8_bodyOf 4 = .ok (.iload_n 3, 1) := by decide +kernel
theorem dX8_bodyOf_5 : decode cX8_bodyOf 5 = .ok (.bipush 7, 2) := by decide +kernel
theorem dX8_bodyOf_7 : decode cX8_bodyOf 7 = .ok (.if_icmp .ge 35, 3) := by decide +kernel
theorem dX8_bodyOf_10 : decode cX8_bodyOf 10 = .ok (.getstatic 48, 3) := by decide +kernel
theorem dX8_bodyOf_13 : decode cX8_bodyOf 13 = .ok (.iload_n 2, 1) := by decide +kernel
theorem dX8_bodyOf_14 : decode cX8_bodyOf 14 = .ok (.iaload, 1) := by decide +kernel
theorem dX8_bodyOf_15 : decode cX8_bodyOf 15 = .ok (.ifCond .lt 27, 3) := by decide +kernel
theorem dX8_bodyOf_18 : decode cX8_bodyOf 18 = .ok (.getstatic 51, 3) := by decide +kernel
theorem dX8_bodyOf_21 : decode cX8_bodyOf 21 = .ok (.iconst 4, 1) := by decide +kernel
theorem dX8_bodyOf_22 : decode cX8_bodyOf 22 = .ok (.iload_n 2, 1) := by decide +kernel
theorem dX8_bodyOf_23 : decode cX8_bodyOf 23 = .ok (.imul, 1) := by decide +kernel
theorem dX8_bodyOf_24 : decode cX8_bodyOf 24 = .ok (.iload_n 1, 1) := by decide +kernel
theorem dX8_bodyOf_25 : decode cX8_bodyOf 25 = .ok (.iadd, 1) := by decide +kernel
theorem dX8_bodyOf_26 : decode cX8_bodyOf 26 = .ok (.iaload, 1) := by decide +kernel
theorem dX8_bodyOf_27 : decode cX8_bodyOf 27 = .ok (.ifCond .ne 15, 3) := by decide +kernel
theorem dX8_bodyOf_30 : decode cX8_bodyOf 30 = .ok (.getstatic 48, 3) := by decide +kernel
theorem dX8_bodyOf_33 : decode cX8_bodyOf 33 = .ok (.iload_n 2, 1) := by decide +kernel
theorem dX8_bodyOf_34 : decode cX8_bodyOf 34 = .ok (.iaload, 1) := by decide +kernel
theorem dX8_bodyOf_35 : decode cX8_bodyOf 35 = .ok (.istore_n 2, 1) := by decide +kernel
theorem dX8_bodyOf_36 : decode cX8_bodyOf 36 = .ok (.iinc 3 1, 3) := by decide +kernel
theorem dX8_bodyOf_39 : decode cX8_bodyOf 39 = .ok (.goto (-35), 3) := by decide +kernel
theorem dX8_bodyOf_42 : decode cX8_bodyOf 42 = .ok (.getstatic 51, 3) := by decide +kernel
theorem dX8_bodyOf_45 : decode cX8_bodyOf 45 = .ok (.iconst 4, 1) := by decide +kernel
theorem dX8_bodyOf_46 : decode cX8_bodyOf 46 = .ok (.iload_n 2, 1) := by decide +kernel
theorem dX8_bodyOf_47 : decode cX8_bodyOf 47 = .ok (.imul, 1) := by decide +kernel
theorem dX8_bodyOf_48 : decode cX8_bodyOf 48 = .ok (.iload_n 1, 1) := by decide +kernel
theorem dX8_bodyOf_49 : decode cX8_bodyOf 49 = .ok (.iadd, 1) := by decide +kernel
theorem dX8_bodyOf_50 : decode cX8_bodyOf 50 = .ok (.iaload, 1) := by decide +kernel
theorem dX8_bodyOf_51 : decode cX8_bodyOf 51 = .ok (.ireturn, 1) := by decide +kernel
theorem dX8_note_0 : decode cX8_note 0 = .ok (.aload_n 0, 1) := by decide +kernel
theorem dX8_note_1 : decode cX8_note 1 = .ok (.getfield 29, 3) := by decide +kernel
theorem dX8_note_4 : decode cX8_note 4 = .ok (.bipush 40, 2) := by decide +kernel
theorem dX8_note_6 : decode cX8_note 6 = .ok (.if_icmp .ge 23, 3) := by decide +kernel
theorem dX8_note_9 : decode cX8_note 9 = .ok (.aload_n 0, 1) := by decide +kernel
theorem dX8_note_10 : decode cX8_note 10 = .ok (.getfield 11, 3) := by decide +kernel
theorem dX8_note_13 : decode cX8_note 13 = .ok (.aload_n 0, 1) := by decide +kernel
theorem dX8_note_14 : decode cX8_note 14 = .ok (.getfield 29, 3) := by decide +kernel
theorem dX8_note_17 : decode cX8_note 17 = .ok (.iload_n 1, 1) := by decide +kernel
theorem dX8_note_18 : decode cX8_note 18 = .ok (.iastore, 1) := by decide +kernel
theorem dX8_note_19 : decode cX8_note 19 = .ok (.aload_n 0, 1) := by decide +kernel
theorem dX8_note_20 : decode cX8_note 20 = .ok (.dup, 1) := by decide +kernel
theorem dX8_note_21 : decode cX8_note 21 = .ok (.getfield 29, 3) := by decide +kernel
theorem dX8_note_24 : decode cX8_note 24 = .ok (.iconst 1, 1) := by decide +kernel
theorem dX8_note_25 : decode cX8_note 25 = .ok (.iadd, 1) := by decide +kernel
theorem dX8_note_26 : decode cX8_note 26 = .ok (.putfield 29, 3) := by decide +kernel
theorem dX8_note_29 : decode cX8_note 29 = .ok (.return_, 1) := by decide +kernel
theorem dX9_init_0 : decode cX9_init 0 = .ok (.aload_n 0, 1) := by decide +kernel
theorem dX9_init_1 : decode cX9_init 1 = .ok (.invokespecial 1, 3) := by decide +kernel
theorem dX9_init_4 : decode cX9_init 4 = .ok (.aload_n 0, 1) := by decide +kernel
theorem dX9_init_5 : decode cX9_init 5 = .ok (.new 7, 3) := by decide +kernel
theorem dX9_init_8 : decode cX9_init 8 = .ok (.dup, 1) := by decide +kernel
theorem dX9_init_9 : decode cX9_init 9 = .ok (.invokespecial 9, 3) := by decide +kernel
theorem dX9_init_12 : decode cX9_init 12 = .ok (.putfield 10, 3) := by decide +kernel
theorem dX9_init_15 : decode cX9_init 15 = .ok (.aload_n 0, 1) := by decide +kernel
theorem dX9_init_16 : decode cX9_init 16 = .ok (.new 16, 3) := by decide +kernel
theorem dX9_init_19 : decode cX9_init 19 = .ok (.dup, 1) := by decide +kernel
theorem dX9_init_20 : decode cX9_init 20 = .ok (.invokespecial 18, 3) := by decide +kernel
theorem dX9_init_23 : decode cX9_init 23 = .ok (.putfield 19, 3) := by decide +kernel
theorem dX9_init_26 : decode cX9_init 26 = .ok (.aload_n 0, 1) := by decide +kernel
theorem dX9_init_27 : decode cX9_init 27 = .ok (.new 7, 3) := by decide +kernel
theorem dX9_init_30 : decode cX9_init 30 = .ok (.dup, 1) := by decide +kernel
theorem dX9_init_31 : decode cX9_init 31 = .ok (.invokespecial 9, 3) := by decide +kernel
theorem dX9_init_34 : decode cX9_init 34 = .ok (.putfield 23, 3) := by decide +kernel
theorem dX9_init_37 : decode cX9_init 37 = .ok (.aload_n 0, 1) := by decide +kernel
theorem dX9_init_38 : decode cX9_init 38 = .ok (.new 16, 3) := by decide +kernel
theorem dX9_init_41 : decode cX9_init 41 = .ok (.dup, 1) := by decide +kernel
theorem dX9_init_42 : decode cX9_init 42 = .ok (.invokespecial 18, 3) := by decide +kernel
theorem dX9_init_45 : decode cX9_init 45 = .ok (.putfield 26, 3) := by decide +kernel
theorem dX9_init_48 : decode cX9_init 48 = .ok (.aload_n 0, 1) := by decide +kernel
theorem dX9_init_49 : decode cX9_init 49 = .ok (.new 7, 3) := by decide +kernel
theorem dX9_init_52 : decode cX9_init 52 = .ok (.dup, 1) := by decide +kernel
theorem dX9_init_53 : decode cX9_init 53 = .ok (.invokespecial 9, 3) := by decide +kernel
theorem dX9_init_56 : decode cX9_init 56 = .ok (.putfield 29, 3) := by decide +kernel
theorem dX9_init_59 : decode cX9_init 59 = .ok (.aload_n 0, 1) := by decide +kernel
theorem dX9_init_60 : decode cX9_init 60 = .ok (.new 32, 3) := by decide +kernel
theorem dX9_init_63 : decode cX9_init 63 = .ok (.dup, 1) := by decide +kernel
theorem dX9_init_64 : decode cX9_init 64 = .ok (.aload_n 0, 1) := by decide +kernel
theorem dX9_init_65 : decode cX9_init 65 = .ok (.getfield 19, 3) := by decide +kernel
theorem dX9_init_68 : decode cX9_init 68 = .ok (.invokespecial 34, 3) := by decide +kernel
theorem dX9_init_71 : decode cX9_init 71 = .ok (.putfield 37, 3) := by decide +kernel
theorem dX9_init_74 : decode cX9_init 74 = .ok (.aload_n 0, 1) := by decide +kernel
theorem dX9_init_75 : decode cX9_init 75 = .ok (.new 41, 3) := by decide +kernel
theorem dX9_init_78 : decode cX9_init 78 = .ok (.dup, 1) := by decide +kernel
theorem dX9_init_79 : decode cX9_init 79 = .ok (.invokespecial 43, 3) := by decide +kernel
theorem dX9_init_82 : decode cX9_init 82 = .ok (.putfield 44, 3) := by decide +kernel
theorem dX9_init_85 : decode cX9_init 85 = .ok (.aload_n 0, 1) := by decide +kernel
theorem dX9_init_86 : decode cX9_init 86 = .ok (.new 48, 3) := by decide +kernel
theorem dX9_init_89 : decode cX9_init 89 = .ok (.dup, 1) := by decide +kernel
theorem dX9_init_90 : decode cX9_init 90 = .ok (.invokespecial 50, 3) := by decide +kernel
theorem dX9_init_93 : decode cX9_init 93 = .ok (.putfield 51, 3) := by decide +kernel
theorem dX9_init_96 : decode cX9_init 96 = .ok (.aload_n 0, 1) := by decide +kernel
theorem dX9_init_97 : decode cX9_init 97 = .ok (.new 55, 3) := by decide +kernel
theorem dX9_init_100 : decode cX9_init 100 = .ok (.dup, 1) := by decide +kernel
theorem dX9_init_101 : decode cX9_init 101 = .ok (.invokespecial 57, 3) := by decide +kernel
theorem dX9_init_104 : decode cX9_init 104 = .ok (.putfield 58, 3) := by decide +kernel
theorem dX9_init_107 : decode cX9_init 107 = .ok (.aload_n 0, 1) := by decide +kernel
theorem dX9_init_108 : decode cX9_init 108 = .ok (.iconst 4, 1) := by decide +kernel
theorem dX9_init_109 : decode cX9_init 109 = .ok (.anewarray 62, 3) := by decide +kernel
theorem dX9_init_112 : decode cX9_init 112 = .ok (.putfield 64, 3) := by decide +kernel
theorem dX9_init_115 : decode cX9_init 115 = .ok (.aload_n 0, 1) := by decide +kernel
theorem dX9_init_116 : decode cX9_init 116 = .ok (.bipush 6, 2) := by decide +kernel
theorem dX9_init_118 : decode cX9_init 118 = .ok (.newarray .int, 2) := by decide +kernel
theorem dX9_init_120 : decode cX9_init 120 = .ok (.putfield 68, 3) := by decide +kernel
theorem dX9_init_123 : decode cX9_init 123 = .ok (.iconst 0, 1) := by decide +kernel
theorem dX9_init_124 : decode cX9_init 124 = .ok (.istore_n 1, 1) := by decide +kernel
theorem dX9_init_125 : decode cX9_init 125 = .ok (.iload_n 1, 1) := by decide +kernel
theorem dX9_init_126 : decode cX9_init 126 = .ok (.iconst 4, 1) := by decide +kernel
theorem dX9_init_127 : decode cX9_init 127 = .ok (.if_icmp .ge 22, 3) := by decide +kernel
theorem dX9_init_130 : decode cX9_init 130 = .ok (.aload_n 0, 1) := by decide +kernel
theorem dX9_init_131 : decode cX9_init 131 = .ok (.getfield 64, 3) := by decide +kernel
theorem dX9_init_134 : decode cX9_init 134 = .ok (.iload_n 1, 1) := by decide +kernel
theorem dX9_init_135 : decode cX9_init 135 = .ok (.new 62, 3) := by decide +kernel
theorem dX9_init_138 : decode cX9_init 138 = .ok (.dup, 1) := by decide +kernel
theorem dX9_init_139 : decode cX9_init 139 = .ok (.invokespecial 72, 3) := by decide +kernel
theorem dX9_init_142 : decode cX9_init 142 = .ok (.aastore, 1) := by decide +kernel
theorem dX9_init_143 : decode cX9_init 143 = .ok (.iinc 1 1, 3) := by decide +kernel
theorem dX9_init_146 : decode cX9_init 146 = .ok (.goto (-21), 3) := by decide +kernel
theorem dX9_init_149 : decode cX9_init 149 = .ok (.return_, 1) := by decide +kernel
theorem dX9_good_0 : decode cX9_good 0 = .ok (.iload_n 1, 1) := by decide +kernel
theorem dX9_good_1 : decode cX9_good 1 = .ok (.invokestatic 73, 3) := by decide +kernel
theorem dX9_good_4 : decode cX9_good 4 = .ok (.ifCond .eq 10, 3) := by decide +kernel
theorem dX9_good_7 : decode cX9_good 7 = .ok (.iload_n 2, 1) := by decide +kernel
theorem dX9_good_8 : decode cX9_good 8 = .ok (.invokestatic 77, 3) := by decide +kernel
theorem dX9_good_11 : decode cX9_good 11 = .ok (.ifCond .ne 9, 3) := by decide +kernel
theorem dX9_good_14 : decode cX9_good 14 = .ok (.aload_n 0, 1) := by decide +kernel
theorem dX9_good_15 : decode cX9_good 15 = .ok (.iconst 1, 1) := by decide +kernel
theorem dX9_good_16 : decode cX9_good 16 = .ok (.invokevirtual 80, 3) := by decide +kernel
theorem dX9_good_19 : decode cX9_good 19 = .ok (.ireturn, 1) := by decide +kernel
theorem dX9_good_20 : decode cX9_good 20 = .ok (.aload_n 0, 1) := by decide +kernel
theorem dX9_good_21 : decode cX9_good 21 = .ok (.getfield 10, 3) := by decide +kernel
theorem dX9_good_24 : decode cX9_good 24 = .ok (.getfield 84, 3) := by decide +kernel
theorem dX9_good_27 : decode cX9_good 27 = .ok (.bipush 8, 2) := by decide +kernel
theorem dX9_good_29 : decode cX9_good 29 = .ok (.if_icmp .lt 9, 3) := by decide +kernel
theorem dX9_good_32 : decode cX9_good 32 = .ok (.aload_n 0, 1) := by decide +kernel
theorem dX9_good_33 : decode cX9_good 33 = .ok (.iconst 4, 1) := by decide +kernel
theorem dX9_good_34 : decode cX9_good 34 = .ok (.invokevirtual 80, 3) := by decide +kernel
theorem dX9_good_37 : decode cX9_good 37 = .ok (.ireturn, 1) := by decide +kernel
theorem dX9_good_38 : decode cX9_good 38 = .ok (.aload_n 0, 1) := by decide +kernel
theorem dX9_good_39 : decode cX9_good 39 = .ok (.getfield 10, 3) := by decide +kernel
theorem dX9_good_42 : decode cX9_good 42 = .ok (.getfield 88, 3) := by decide +kernel
theorem dX9_good_45 : decode cX9_good 45 = .ok (.aload_n 0, 1) := by decide +kernel
theorem dX9_good_46 : decode cX9_good 46 = .ok (.getfield 10, 3) := by decide +kernel
theorem dX9_good_49 : decode cX9_good 49 = .ok (.getfield 84, 3) := by decide +kernel
theorem dX9_good_52 : decode cX9_good 52 = .ok (.aaload, 1) := by decide +kernel
theorem dX9_good_53 : decode cX9_good 53 = .ok (.astore_n 3, 1) := by decide +kernel
theorem dX9_good_54 : decode cX9_good 54 = .ok (.aload_n 3, 1) := by decide +kernel
theorem dX9_good_55 : decode cX9_good 55 = .ok (.iload_n 1, 1) := by decide +kernel
theorem dX9_good_56 : decode cX9_good 56 = .ok (.invokevirtual 92, 3) := by decide +kernel
theorem dX9_good_59 : decode cX9_good 59 = .ok (.aload_n 3, 1) := by decide +kernel
theorem dX9_good_60 : decode cX9_good 60 = .ok (.iload_n 2, 1) := by decide +kernel
theorem dX9_good_61 : decode cX9_good 61 = .ok (.invokevirtual 98, 3) := by decide +kernel
theorem dX9_good_64 : decode cX9_good 64 = .ok (.aload_n 0, 1) := by decide +kernel
theorem dX9_good_65 : decode cX9_good 65 = .ok (.getfield 10, 3) := by decide +kernel
theorem dX9_good_68 : decode cX9_good 68 = .ok (.dup, 1) := by decide +kernel
theorem dX9_good_69 : decode cX9_good 69 = .ok (.getfield 84, 3) := by decide +kernel
theorem dX9_good_72 : decode cX9_good 72 = .ok (.iconst 1, 1) := by decide +kernel
theorem dX9_good_73 : decode cX9_good 73 = .ok (.iadd, 1) := by decide +kernel
theorem dX9_good_74 : decode cX9_good 74 = .ok (.putfield 84, 3) := by decide +kernel
theorem dX9_good_77 : decode cX9_good 77 = .ok (.aload_n 0, 1) := by decide +kernel
theorem dX9_good_78 : decode cX9_good 78 = .ok (.getfield 10, 3) := by decide +kernel
theorem dX9_good_81 : decode cX9_good 81 = .ok (.getfield 84, 3) := by decide +kernel
theorem dX9_good_84 : decode cX9_good 84 = .ok (.iconst 1, 1) := by decide +kernel
theorem dX9_good_85 : decode cX9_good 85 = .ok (.isub, 1) := by decide +kernel
theorem dX9_good_86 : decode cX9_good 86 = .ok (.ireturn, 1) := by decide +kernel
theorem dX9_ofGood_0 : decode cX9_ofGood 0 = .ok (.aload_n 0, 1) := by decide +kernel
theorem dX9_ofGood_1 : decode cX9_ofGood 1 = .ok (.iload_n 1, 1) := by decide +kernel
theorem dX9_ofGood_2 : decode cX9_ofGood 2 = .ok (.invokevirtual 101, 3) := by decide +kernel
theorem dX9_ofGood_5 : decode cX9_ofGood 5 = .ok (.ifCond .eq 13, 3) := by decide +kernel
theorem dX9_ofGood_8 : decode cX9_ofGood 8 = .ok (.iload_n 2, 1) := by decide +kernel
theorem dX9_ofGood_9 : decode cX9_ofGood 9 = .ok (.iconst 0, 1) := by decide +kernel
theorem dX9_ofGood_10 : decode cX9_ofGood 10 = .ok (.bipush 9, 2) := by decide +kernel
theorem dX9_ofGood_12 : decode cX9_ofGood 12 = .ok (.invokestatic 104, 3) := by decide +kernel
theorem dX9_ofGood_15 : decode cX9_ofGood 15 = .ok (.ifCond .ne 9, 3) := by decide +kernel
theorem dX9_ofGood_18 : decode cX9_ofGood 18 = .ok (.aload_n 0, 1) := by decide +kernel
theorem dX9_ofGood_19 : decode cX9_ofGood 19 = .ok (.iconst 1, 1) := by decide +kernel
theorem dX9_ofGood_20 : decode cX9_ofGood 20 = .ok (.invokevirtual 80, 3) := by decide +kernel
theorem dX9_ofGood_23 : decode cX9_ofGood 23 = .ok (.ireturn, 1) := by decide +kernel
theorem dX9_ofGood_24 : decode cX9_ofGood 24 = .ok (.aload_n 0, 1) := by decide +kernel
theorem dX9_ofGood_25 : decode cX9_ofGood 25 = .ok (.getfield 10, 3) := by decide +kernel
theorem dX9_ofGood_28 : decode cX9_ofGood 28 = .ok (.getfield 88, 3) := by decide +kernel
theorem dX9_ofGood_31 : decode cX9_ofGood 31 = .ok (.iload_n 1, 1) := by decide +kernel
theorem dX9_ofGood_32 : decode cX9_ofGood 32 = .ok (.aaload, 1) := by decide +kernel
theorem dX9_ofGood_33 : decode cX9_ofGood 33 = .ok (.astore_n 3, 1) := by decide +kernel
theorem dX9_ofGood_34 : decode cX9_ofGood 34 = .ok (.iload_n 2, 1) := by decide +kernel
theorem dX9_ofGood_35 : decode cX9_ofGood 35 = .ok (.tableswitch 102 0 8 #[49, 54, 59, 64, 69, 74, 79, 92, 97], 49) := by decide +kernel
theorem dX9_ofGood_84 : decode cX9_ofGood 84 = .ok (.aload_n 3, 1) := by decide +kernel
theorem dX9_ofGood_85 : decode cX9_ofGood 85 = .ok (.getfield 108, 3) := by decide +kernel
theorem dX9_ofGood_88 : decode cX9_ofGood 88 = .ok (.ireturn, 1) := by decide +kernel
theorem dX9_ofGood_89 : decode cX9_ofGood 89 = .ok (.aload_n 3, 1) := by decide +kernel
theorem dX9_ofGood_90 : decode cX9_ofGood 90 = .ok (.getfield 111, 3) := by decide +kernel
theorem dX9_ofGood_93 : decode cX9_ofGood 93 = .ok (.ireturn, 1) := by decide +kernel
theorem dX9_ofGood_94 : decode cX9_ofGood 94 = .ok (.aload_n 3, 1) := by decide +kernel
theorem dX9_ofGood_95 : decode cX9_ofGood 95 = .ok (.getfield 114, 3) := by decide +kernel
theorem dX9_ofGood_98 : decode cX9_ofGood 98 = .ok (.ireturn, 1) := by decide +kernel
theorem dX9_ofGood_99 : decode cX9_ofGood 99 = .ok (.aload_n 3, 1) := by decide +kernel
theorem dX9_ofGood_100 : decode cX9_ofGood 100 = .ok (.getfield 117, 3) := by decide +kernel
theorem dX9_ofGood_103 : decode cX9_ofGood 103 = .ok (.ireturn, 1) := by decide +kernel
theorem dX9_ofGood_104 : decode cX9_ofGood 104 = .ok (.aload_n 3, 1) := by decide +kernel
theorem dX9_ofGood_105 : decode cX9_ofGood 105 = .ok (.getfield 120, 3) := by decide +kernel
theorem dX9_ofGood_108 : decode cX9_ofGood 108 = .ok (.ireturn, 1) := by decide +kernel
theorem dX9_ofGood_109 : decode cX9_ofGood 109 = .ok (.aload_n 3, 1) := by decide +kernel
theorem dX9_ofGood_110 : decode cX9_ofGood 110 = .ok (.invokevirtual 123, 3) := by decide +kernel
theorem dX9_ofGood_113 : decode cX9_ofGood 113 = .ok (.ireturn, 1) := by decide +kernel
theorem dX9_ofGood_114 : decode cX9_ofGood 114 = .ok (.aload_n 3, 1) := by decide +kernel
theorem dX9_ofGood_115 : decode cX9_ofGood 115 = .ok (.aload_n 0, 1) := by decide +kernel
theorem dX9_ofGood_116 : decode cX9_ofGood 116 = .ok (.getfield 19, 3) := by decide +kernel
theorem dX9_ofGood_119 : decode cX9_ofGood 119 = .ok (.aload_n 3, 1) := by decide +kernel
theorem dX9_ofGood_120 : decode cX9_ofGood 120 = .ok (.invokevirtual 127, 3) := by decide +kernel
theorem dX9_ofGood_123 : decode cX9_ofGood 123 = .ok (.invokevirtual 131, 3) := by decide +kernel
theorem dX9_ofGood_126 : decode cX9_ofGood 126 = .ok (.ireturn, 1) := by decide +kernel
theorem dX9_ofGood_127 : decode cX9_ofGood 127 = .ok (.aload_n 3, 1) := by decide +kernel
theorem dX9_ofGood_128 : decode cX9_ofGood 128 = .ok (.invokevirtual 134, 3) := by decide +kernel
theorem dX9_ofGood_131 : decode cX9_ofGood 131 = .ok (.ireturn, 1) := by decide +kernel
theorem dX9_ofGood_132 : decode cX9_ofGood 132 = .ok (.aload_n 3, 1) := by decide +kernel
theorem dX9_ofGood_133 : decode cX9_ofGood 133 = .ok (.invokevirtual 137, 3) := by decide +kernel
theorem dX9_ofGood_136 : decode cX9_ofGood 136 = .ok (.ireturn, 1) := by decide +kernel
theorem dX9_ofGood_137 : decode cX9_ofGood 137 = .ok (.aload_n 0, 1) := by decide +kernel
theorem dX9_ofGood_138 : decode cX9_ofGood 138 = .ok (.getfield 37, 3) := by decide +kernel
theorem dX9_ofGood_141 : decode cX9_ofGood 141 = .ok (.aload_n 3, 1) := by decide +kernel
theorem dX9_ofGood_142 : decode cX9_ofGood 142 = .ok (.invokevirtual 140, 3) := by decide +kernel
theorem dX9_ofGood_145 : decode cX9_ofGood 145 = .ok (.ifCond .eq 7, 3) := by decide +kernel
theorem dX9_ofGood_148 : decode cX9_ofGood 148 = .ok (.iconst 1, 1) := by decide +kernel
theorem dX9_ofGood_149 : decode cX9_ofGood 149 = .ok (.goto 4, 3) := by decide +kernel
theorem dX9_ofGood_152 : decode cX9_ofGood 152 = .ok (.iconst 0, 1) := by decide +kernel
theorem dX9_ofGood_153 : decode cX9_ofGood 153 = .ok (.ireturn, 1) := by decide +kernel
theorem dX9_become_0 : decode cX9_become 0 = .ok (.aload_n 0, 1) := by decide +kernel
theorem dX9_become_1 : decode cX9_become 1 = .ok (.iload_n 1, 1) := by decide +kernel
theorem dX9_become_2 : decode cX9_become 2 = .ok (.invokevirtual 101, 3) := by decide +kernel
theorem dX9_become_5 : decode cX9_become 5 = .ok (.ifCond .eq 10, 3) := by decide +kernel
theorem dX9_become_8 : decode cX9_become 8 = .ok (.iload_n 2, 1) := by decide +kernel
theorem dX9_become_9 : decode cX9_become 9 = .ok (.invokestatic 73, 3) := by decide +kernel
theorem dX9_become_12 : decode cX9_become 12 = .ok (.ifCond .ne 9, 3) := by decide +kernel
theorem dX9_become_15 : decode cX9_become 15 = .ok (.aload_n 0, 1) := by decide +kernel
theorem dX9_become_16 : decode cX9_become 16 = .ok (.iconst 1, 1) := by decide +kernel
theorem dX9_become_17 : decode cX9_become 17 = .ok (.invokevirtual 80, 3) := by decide +kernel
theorem dX9_become_20 : decode cX9_become 20 = .ok (.ireturn, 1) := by decide +kernel
theorem dX9_become_21 : decode cX9_become 21 = .ok (.aload_n 0, 1) := by decide +kernel
theorem dX9_become_22 : decode cX9_become 22 = .ok (.getfield 10, 3) := by decide +kernel
theorem dX9_become_25 : decode cX9_become 25 = .ok (.getfield 88, 3) := by decide +kernel
theorem dX9_become_28 : decode cX9_become 28 = .ok (.iload_n 1, 1) := by decide +kernel
theorem dX9_become_29 : decode cX9_become 29 = .ok (.aaload, 1) := by decide +kernel
theorem dX9_become_30 : decode cX9_become 30 = .ok (.getfield 108, 3) := by decide +kernel
theorem dX9_become_33 : decode cX9_become 33 = .ok (.istore_n 3, 1) := by decide +kernel
theorem dX9_become_34 : decode cX9_become 34 = .ok (.aload_n 0, 1) := by decide +kernel
theorem dX9_become_35 : decode cX9_become 35 = .ok (.getfield 10, 3) := by decide +kernel
theorem dX9_become_38 : decode cX9_become 38 = .ok (.getfield 88, 3) := by decide +kernel
theorem dX9_become_41 : decode cX9_become 41 = .ok (.iload_n 1, 1) := by decide +kernel
theorem dX9_become_42 : decode cX9_become 42 = .ok (.aaload, 1) := by decide +kernel
theorem dX9_become_43 : decode cX9_become 43 = .ok (.iload_n 2, 1) := by decide +kernel
theorem dX9_become_44 : decode cX9_become 44 = .ok (.invokevirtual 92, 3) := by decide +kernel
theorem dX9_become_47 : decode cX9_become 47 = .ok (.iload_n 3, 1) := by decide +kernel
theorem dX9_become_48 : decode cX9_become 48 = .ok (.ireturn, 1) := by decide +kernel
theorem dX9_as_0 : decode cX9_as 0 = .ok (.aload_n 0, 1) := by decide +kernel
theorem dX9_as_1 : decode cX9_as 1 = .ok (.iload_n 1, 1) := by decide +kernel
theorem dX9_as_2 : decode cX9_as 2 = .ok (.invokevirtual 101, 3) := by decide +kernel
theorem dX9_as_5 : decode cX9_as 5 = .ok (.ifCond .eq 13, 3) := by decide +kernel
theorem dX9_as_8 : decode cX9_as 8 = .ok (.iload_n 2, 1) := by decide +kernel
theorem dX9_as_9 : decode cX9_as 9 = .ok (.iconst 0, 1) := by decide +kernel
theorem dX9_as_10 : decode cX9_as 10 = .ok (.bipush 6, 2) := by decide +kernel
theorem dX9_as_12 : decode cX9_as 12 = .ok (.invokestatic 104, 3) := by decide +kernel
theorem dX9_as_15 : decode cX9_as 15 = .ok (.ifCond .ne 9, 3) := by decide +kernel
theorem dX9_as_18 : decode cX9_as 18 = .ok (.aload_n 0, 1) := by decide +kernel
theorem dX9_as_19 : decode cX9_as 19 = .ok (.iconst 1, 1) := by decide +kernel
theorem dX9_as_20 : decode cX9_as 20 = .ok (.invokevirtual 80, 3) := by decide +kernel
theorem dX9_as_23 : decode cX9_as 23 = .ok (.ireturn, 1) := by decide +kernel
theorem dX9_as_24 : decode cX9_as 24 = .ok (.aload_n 0, 1) := by decide +kernel
theorem dX9_as_25 : decode cX9_as 25 = .ok (.getfield 10, 3) := by decide +kernel
theorem dX9_as_28 : decode cX9_as 28 = .ok (.getfield 88, 3) := by decide +kernel
theorem dX9_as_31 : decode cX9_as 31 = .ok (.iload_n 1, 1) := by decide +kernel
theorem dX9_as_32 : decode cX9_as 32 = .ok (.aaload, 1) := by decide +kernel
theorem dX9_as_33 : decode cX9_as 33 = .ok (.getfield 108, 3) := by decide +kernel
theorem dX9_as_36 : decode cX9_as 36 = .ok (.iload_n 2, 1) := by decide +kernel
theorem dX9_as_37 : decode cX9_as 37 = .ok (.invokestatic 144, 3) := by decide +kernel
theorem dX9_as_40 : decode cX9_as 40 = .ok (.ifCond .ne 9, 3) := by decide +kernel
theorem dX9_as_43 : decode cX9_as 43 = .ok (.aload_n 0, 1) := by decide +kernel
theorem dX9_as_44 : decode cX9_as 44 = .ok (.iconst 5, 1) := by decide +kernel
theorem dX9_as_45 : decode cX9_as 45 = .ok (.invokevirtual 80, 3) := by decide +kernel
theorem dX9_as_48 : decode cX9_as 48 = .ok (.ireturn, 1) := by decide +kernel
theorem dX9_as_49 : decode cX9_as 49 = .ok (.aload_n 0, 1) := by decide +kernel
theorem dX9_as_50 : decode cX9_as 50 = .ok (.getfield 10, 3) := by decide +kernel
theorem dX9_as_53 : decode cX9_as 53 = .ok (.getfield 88, 3) := by decide +kernel
theorem dX9_as_56 : decode cX9_as 56 = .ok (.iload_n 1, 1) := by decide +kernel
theorem dX9_as_57 : decode cX9_as 57 = .ok (.aaload, 1) := by decide +kernel
theorem dX9_as_58 : decode cX9_as 58 = .ok (.getfield 111, 3) := by decide +kernel
theorem dX9_as_61 : decode cX9_as 61 = .ok (.ireturn, 1) := by decide +kernel
theorem dX9_place_0 : decode cX9_place 0 = .ok (.aload_n 0, 1) := by decide +kernel
theorem dX9_place_1 : decode cX9_place 1 = .ok (.iload_n 1, 1) := by decide +kernel
theorem dX9_place_2 : decode cX9_place 2 = .ok (.invokevirtual 101, 3) := by decide +kernel
theorem dX9_place_5 : decode cX9_place 5 = .ok (.ifCond .eq 10, 3) := by decide +kernel
theorem dX9_place_8 : decode cX9_place 8 = .ok (.iload_n 2, 1) := by decide +kernel
theorem dX9_place_9 : decode cX9_place 9 = .ok (.invokestatic 77, 3) := by decide +kernel
theorem dX9_place_12 : decode cX9_place 12 = .ok (.ifCond .ne 9, 3) := by decide +kernel
theorem dX9_place_15 : decode cX9_place 15 = .ok (.aload_n 0, 1) := by decide +kernel
theorem dX9_place_16 : decode cX9_place 16 = .ok (.iconst 1, 1) := by decide +kernel
theorem dX9_place_17 : decode cX9_place 17 = .ok (.invokevirtual 80, 3) := by decide +kernel
theorem dX9_place_20 : decode cX9_place 20 = .ok (.ireturn, 1) := by decide +kernel
theorem dX9_place_21 : decode cX9_place 21 = .ok (.aload_n 0, 1) := by decide +kernel
theorem dX9_place_22 : decode cX9_place 22 = .ok (.getfield 10, 3) := by decide +kernel
theorem dX9_place_25 : decode cX9_place 25 = .ok (.getfield 88, 3) := by decide +kernel
theorem dX9_place_28 : decode cX9_place 28 = .ok (.iload_n 1, 1) := by decide +kernel
theorem dX9_place_29 : decode cX9_place 29 = .ok (.aaload, 1) := by decide +kernel
theorem dX9_place_30 : decode cX9_place 30 = .ok (.getfield 114, 3) := by decide +kernel
theorem dX9_place_33 : decode cX9_place 33 = .ok (.istore_n 3, 1) := by decide +kernel
theorem dX9_place_34 : decode cX9_place 34 = .ok (.aload_n 0, 1) := by decide +kernel
theorem dX9_place_35 : decode cX9_place 35 = .ok (.getfield 10, 3) := by decide +kernel
theorem dX9_place_38 : decode cX9_place 38 = .ok (.getfield 88, 3) := by decide +kernel
theorem dX9_place_41 : decode cX9_place 41 = .ok (.iload_n 1, 1) := by decide +kernel
theorem dX9_place_42 : decode cX9_place 42 = .ok (.aaload, 1) := by decide +kernel
theorem dX9_place_43 : decode cX9_place 43 = .ok (.iload_n 2, 1) := by decide +kernel
theorem dX9_place_44 : decode cX9_place 44 = .ok (.invokevirtual 98, 3) := by decide +kernel
theorem dX9_place_47 : decode cX9_place 47 = .ok (.iload_n 3, 1) := by decide +kernel
theorem dX9_place_48 : decode cX9_place 48 = .ok (.ireturn, 1) := by decide +kernel
theorem dX9_push_0 : decode cX9_push 0 = .ok (.aload_n 0, 1) := by decide +kernel
theorem dX9_push_1 : decode cX9_push 1 = .ok (.iload_n 1, 1) := by decide +kernel
theorem dX9_push_2 : decode cX9_push 2 = .ok (.invokevirtual 101, 3) := by decide +kernel
theorem dX9_push_5 : decode cX9_push 5 = .ok (.ifCond .eq 10, 3) := by decide +kernel
theorem dX9_push_8 : decode cX9_push 8 = .ok (.iload_n 2, 1) := by decide +kernel
theorem dX9_push_9 : decode cX9_push 9 = .ok (.invokestatic 148, 3) := by decide +kernel
theorem dX9_push_12 : decode cX9_push 12 = .ok (.ifCond .ne 9, 3) := by decide +kernel
theorem dX9_push_15 : decode cX9_push 15 = .ok (.aload_n 0, 1) := by decide +kernel
theorem dX9_push_16 : decode cX9_push 16 = .ok (.iconst 1, 1) := by decide +kernel
theorem dX9_push_17 : decode cX9_push 17 = .ok (.invokevirtual 80, 3) := by decide +kernel
theorem dX9_push_20 : decode cX9_push 20 = .ok (.ireturn, 1) := by decide +kernel
theorem dX9_push_21 : decode cX9_push 21 = .ok (.aload_n 0, 1) := by decide +kernel
theorem dX9_push_22 : decode cX9_push 22 = .ok (.getfield 10, 3) := by decide +kernel
theorem dX9_push_25 : decode cX9_push 25 = .ok (.getfield 88, 3) := by decide +kernel
theorem dX9_push_28 : decode cX9_push 28 = .ok (.iload_n 1, 1) := by decide +kernel
theorem dX9_push_29 : decode cX9_push 29 = .ok (.aaload, 1) := by decide +kernel
theorem dX9_push_30 : decode cX9_push 30 = .ok (.iload_n 2, 1) := by decide +kernel
theorem dX9_push_31 : decode cX9_push 31 = .ok (.invokevirtual 151, 3) := by decide +kernel
theorem dX9_push_34 : decode cX9_push 34 = .ok (.aload_n 0, 1) := by decide +kernel
theorem dX9_push_35 : decode cX9_push 35 = .ok (.getfield 10, 3) := by decide +kernel
theorem dX9_push_38 : decode cX9_push 38 = .ok (.getfield 88, 3) := by decide +kernel
theorem dX9_push_41 : decode cX9_push 41 = .ok (.iload_n 1, 1) := by decide +kernel
theorem dX9_push_42 : decode cX9_push 42 = .ok (.aaload, 1) := by decide +kernel
theorem dX9_push_43 : decode cX9_push 43 = .ok (.getfield 117, 3) := by decide +kernel
theorem dX9_push_46 : decode cX9_push 46 = .ok (.ireturn, 1) := by decide +kernel
theorem dX9_off_0 : decode cX9_off 0 = .ok (.aload_n 0, 1) := by decide +kernel
theorem dX9_off_1 : decode cX9_off 1 = .ok (.iload_n 1, 1) := by decide +kernel
theorem dX9_off_2 : decode cX9_off 2 = .ok (.invokevirtual 101, 3) := by decide +kernel
theorem dX9_off_5 : decode cX9_off 5 = .ok (.ifCond .eq 23, 3) := by decide +kernel
theorem dX9_off_8 : decode cX9_off 8 = .ok (.aload_n 0, 1) := by decide +kernel
theorem dX9_off_9 : decode cX9_off 9 = .ok (.iload_n 2, 1) := by decide +kernel
theorem dX9_off_10 : decode cX9_off 10 = .ok (.invokevirtual 101, 3) := by decide +kernel
theorem dX9_off_13 : decode cX9_off 13 = .ok (.ifCond .eq 15, 3) := by decide +kernel
theorem dX9_off_16 : decode cX9_off 16 = .ok (.iload_n 1, 1) := by decide +kernel
theorem dX9_off_17 : decode cX9_off 17 = .ok (.iload_n 2, 1) := by decide +kernel
theorem dX9_off_18 : decode cX9_off 18 = .ok (.if_icmp .eq 10, 3) := by decide +kernel
theorem dX9_off_21 : decode cX9_off 21 = .ok (.iload_n 3, 1) := by decide +kernel
theorem dX9_off_22 : decode cX9_off 22 = .ok (.invokestatic 148, 3) := by decide +kernel
theorem dX9_off_25 : decode cX9_off 25 = .ok (.ifCond .ne 9, 3) := by decide +kernel
theorem dX9_off_28 : decode cX9_off 28 = .ok (.aload_n 0, 1) := by decide +kernel
theorem dX9_off_29 : decode cX9_off 29 = .ok (.iconst 1, 1) := by decide +kernel
theorem dX9_off_30 : decode cX9_off 30 = .ok (.invokevirtual 80, 3) := by decide +kernel
theorem dX9_off_33 : decode cX9_off 33 = .ok (.ireturn, 1) := by decide +kernel
theorem dX9_off_34 : decode cX9_off 34 = .ok (.aload_n 0, 1) := by decide +kernel
theorem dX9_off_35 : decode cX9_off 35 = .ok (.getfield 10, 3) := by decide +kernel
theorem dX9_off_38 : decode cX9_off 38 = .ok (.getfield 88, 3) := by decide +kernel
theorem dX9_off_41 : decode cX9_off 41 = .ok (.iload_n 1, 1) := by decide +kernel
theorem dX9_off_42 : decode cX9_off 42 = .ok (.aaload, 1) := by decide +kernel
theorem dX9_off_43 : decode cX9_off 43 = .ok (.astore 4, 2) := by decide +kernel
theorem dX9_off_45 : decode cX9_off 45 = .ok (.aload_n 0, 1) := by decide +kernel
theorem dX9_off_46 : decode cX9_off 46 = .ok (.getfield 10, 3) := by decide +kernel
theorem dX9_off_49 : decode cX9_off 49 = .ok (.getfield 88, 3) := by decide +kernel
theorem dX9_off_52 : decode cX9_off 52 = .ok (.iload_n 2, 1) := by decide +kernel
theorem dX9_off_53 : decode cX9_off 53 = .ok (.aaload, 1) := by decide +kernel
theorem dX9_off_54 : decode cX9_off 54 = .ok (.astore 5, 2) := by decide +kernel
theorem dX9_off_56 : decode cX9_off 56 = .ok (.aload 4, 2) := by decide +kernel
theorem dX9_off_58 : decode cX9_off 58 = .ok (.getfield 114, 3) := by decide +kernel
theorem dX9_off_61 : decode cX9_off 61 = .ok (.aload 5, 2) := by decide +kernel
theorem dX9_off_63 : decode cX9_off 63 = .ok (.getfield 114, 3) := by decide +kernel
theorem dX9_off_66 : decode cX9_off 66 = .ok (.if_icmp .eq 9, 3) := by decide +kernel
theorem dX9_off_69 : decode cX9_off 69 = .ok (.aload_n 0, 1) := by decide +kernel
theorem dX9_off_70 : decode cX9_off 70 = .ok (.iconst 3, 1) := by decide +kernel
theorem dX9_off_71 : decode cX9_off 71 = .ok (.invokevirtual 80, 3) := by decide +kernel
theorem dX9_off_74 : decode cX9_off 74 = .ok (.ireturn, 1) := by decide +kernel
theorem dX9_off_75 : decode cX9_off 75 = .ok (.aload 4, 2) := by decide +kernel
theorem dX9_off_77 : decode cX9_off 77 = .ok (.iload_n 3, 1) := by decide +kernel
theorem dX9_off_78 : decode cX9_off 78 = .ok (.invokevirtual 151, 3) := by decide +kernel
theorem dX9_off_81 : decode cX9_off 81 = .ok (.aload 5, 2) := by decide +kernel
theorem dX9_off_83 : decode cX9_off 83 = .ok (.iload_n 3, 1) := by decide +kernel
theorem dX9_off_84 : decode cX9_off 84 = .ok (.ineg, 1) := by decide +kernel
theorem dX9_off_85 : decode cX9_off 85 = .ok (.invokevirtual 151, 3) := by decide +kernel
theorem dX9_off_88 : decode cX9_off 88 = .ok (.aload 4, 2) := by decide +kernel
theorem dX9_off_90 : decode cX9_off 90 = .ok (.getfield 117, 3) := by decide +kernel
theorem dX9_off_93 : decode cX9_off 93 = .ok (.ireturn, 1) := by decide +kernel
theorem dX9_set_0 : decode cX9_set 0 = .ok (.iload_n 1, 1) := by decide +kernel
theorem dX9_set_1 : decode cX9_set 1 = .ok (.iconst 0, 1) := by decide +kernel
theorem dX9_set_2 : decode cX9_set 2 = .ok (.iconst 2, 1) := by decide +kernel
theorem dX9_set_3 : decode cX9_set 3 = .ok (.invokestatic 104, 3) := by decide +kernel
theorem dX9_set_6 : decode cX9_set 6 = .ok (.ifCond .ne 9, 3) := by decide +kernel
theorem dX9_set_9 : decode cX9_set 9 = .ok (.aload_n 0, 1) := by decide +kernel
theorem dX9_set_10 : decode cX9_set 10 = .ok (.iconst 1, 1) := by decide +kernel
theorem dX9_set_11 : decode cX9_set 11 = .ok (.invokevirtual 80, 3) := by decide +kernel
theorem dX9_set_14 : decode cX9_set 14 = .ok (.ireturn, 1) := by decide +kernel
theorem dX9_set_15 : decode cX9_set 15 = .ok (.iload_n 1, 1) := by decide +kernel
theorem dX9_set_16 : decode cX9_set 16 = .ok (.ifCond .ne 16, 3) := by decide +kernel
theorem dX9_set_19 : decode cX9_set 19 = .ok (.iload_n 2, 1) := by decide +kernel
theorem dX9_set_20 : decode cX9_set 20 = .ok (.iconst 2, 1) := by decide +kernel
theorem dX9_set_21 : decode cX9_set 21 = .ok (.bipush 24, 2) := by decide +kernel
theorem dX9_set_23 : decode cX9_set 23 = .ok (.invokestatic 104, 3) := by decide +kernel
theorem dX9_set_26 : decode cX9_set 26 = .ok (.ifCond .ne 23, 3) := by decide +kernel
theorem dX9_set_29 : decode cX9_set 29 = .ok (.goto 14, 3) := by decide +kernel
theorem dX9_set_32 : decode cX9_set 32 = .ok (.iload_n 2, 1) := by decide +kernel
theorem dX9_set_33 : decode cX9_set 33 = .ok (.bipush (-9), 2) := by decide +kernel
theorem dX9_set_35 : decode cX9_set 35 = .ok (.bipush 9, 2) := by decide +kernel
theorem dX9_set_37 : decode cX9_set 37 = .ok (.invokestatic 104, 3) := by decide +kernel
theorem dX9_set_40 : decode cX9_set 40 = .ok (.ifCond .ne 9, 3) := by decide +kernel
theorem dX9_set_43 : decode cX9_set 43 = .ok (.aload_n 0, 1) := by decide +kernel
theorem dX9_set_44 : decode cX9_set 44 = .ok (.iconst 1, 1) := by decide +kernel
theorem dX9_set_45 : decode cX9_set 45 = .ok (.invokevirtual 80, 3) := by decide +kernel
theorem dX9_set_48 : decode cX9_set 48 = .ok (.ireturn, 1) := by decide +kernel
theorem dX9_set_49 : decode cX9_set 49 = .ok (.iload_n 1, 1) := by decide +kernel
theorem dX9_set_50 : decode cX9_set 50 = .ok (.ifCond .ne 22, 3) := by decide +kernel
theorem dX9_set_53 : decode cX9_set 53 = .ok (.aload_n 0, 1) := by decide +kernel
theorem dX9_set_54 : decode cX9_set 54 = .ok (.getfield 19, 3) := by decide +kernel
theorem dX9_set_57 : decode cX9_set 57 = .ok (.getfield 154, 3) := by decide +kernel
theorem dX9_set_60 : decode cX9_set 60 = .ok (.istore_n 3, 1) := by decide +kernel
theorem dX9_set_61 : decode cX9_set 61 = .ok (.aload_n 0, 1) := by decide +kernel
theorem dX9_set_62 : decode cX9_set 62 = .ok (.getfield 19, 3) := by decide +kernel
theorem dX9_set_65 : decode cX9_set 65 = .ok (.iload_n 2, 1) := by decide +kernel
theorem dX9_set_66 : decode cX9_set 66 = .ok (.putfield 154, 3) := by decide +kernel
theorem dX9_set_69 : decode cX9_set 69 = .ok (.goto 27, 3) := by decide +kernel
theorem dX9_set_72 : decode cX9_set 72 = .ok (.aload_n 0, 1) := by decide +kernel
theorem dX9_set_73 : decode cX9_set 73 = .ok (.getfield 19, 3) := by decide +kernel
theorem dX9_set_76 : decode cX9_set 76 = .ok (.getfield 157, 3) := by decide +kernel
theorem dX9_set_79 : decode cX9_set 79 = .ok (.iload_n 1, 1) := by decide +kernel
theorem dX9_set_80 : decode cX9_set 80 = .ok (.iconst 1, 1) := by decide +kernel
theorem dX9_set_81 : decode cX9_set 81 = .ok (.isub, 1) := by decide +kernel
theorem dX9_set_82 : decode cX9_set 82 = .ok (.iaload, 1) := by decide +kernel
theorem dX9_set_83 : decode cX9_set 83 = .ok (.istore_n 3, 1) := by decide +kernel
theorem dX9_set_84 : decode cX9_set 84 = .ok (.aload_n 0, 1) := by decide +kernel
theorem dX9_set_85 : decode cX9_set 85 = .ok (.getfield 19, 3) := by decide +kernel
theorem dX9_set_88 : decode cX9_set 88 = .ok (.getfield 157, 3) := by decide +kernel
theorem dX9_set_91 : decode cX9_set 91 = .ok (.iload_n 1, 1) := by decide +kernel
theorem dX9_set_92 : decode cX9_set 92 = .ok (.iconst 1, 1) := by decide +kernel
theorem dX9_set_93 : decode cX9_set 93 = .ok (.isub, 1) := by decide +kernel
theorem dX9_set_94 : decode cX9_set 94 = .ok (.iload_n 2, 1) := by decide +kernel
theorem dX9_set_95 : decode cX9_set 95 = .ok (.iastore, 1) := by decide +kernel
theorem dX9_set_96 : decode cX9_set 96 = .ok (.iload_n 3, 1) := by decide +kernel
theorem dX9_set_97 : decode cX9_set 97 = .ok (.ireturn, 1) := by decide +kernel
theorem dX9_door_0 : decode cX9_door 0 = .ok (.iload_n 1, 1) := by decide +kernel
theorem dX9_door_1 : decode cX9_door 1 = .ok (.invokestatic 160, 3) := by decide +kernel
theorem dX9_door_4 : decode cX9_door 4 = .ok (.ifCond .eq 11, 3) := by decide +kernel
theorem dX9_door_7 : decode cX9_door 7 = .ok (.aload_n 0, 1) := by decide +kernel
theorem dX9_door_8 : decode cX9_door 8 = .ok (.iload_n 2, 1) := by decide +kernel
theorem dX9_door_9 : decode cX9_door 9 = .ok (.invokevirtual 163, 3) := by decide +kernel
theorem dX9_door_12 : decode cX9_door 12 = .ok (.ifCond .ne 9, 3) := by decide +kernel
theorem dX9_door_15 : decode cX9_door 15 = .ok (.aload_n 0, 1) := by decide +kernel
theorem dX9_door_16 : decode cX9_door 16 = .ok (.iconst 1, 1) := by decide +kernel
theorem dX9_door_17 : decode cX9_door 17 = .ok (.invokevirtual 80, 3) := by decide +kernel
theorem dX9_door_20 : decode cX9_door 20 = .ok (.ireturn, 1) := by decide +kernel
theorem dX9_door_21 : decode cX9_door 21 = .ok (.aload_n 0, 1) := by decide +kernel
theorem dX9_door_22 : decode cX9_door 22 = .ok (.getfield 19, 3) := by decide +kernel
theorem dX9_door_25 : decode cX9_door 25 = .ok (.iload_n 1, 1) := by decide +kernel
theorem dX9_door_26 : decode cX9_door 26 = .ok (.iload_n 2, 1) := by decide +kernel
theorem dX9_door_27 : decode cX9_door 27 = .ok (.aload_n 0, 1) := by decide +kernel
theorem dX9_door_28 : decode cX9_door 28 = .ok (.getfield 10, 3) := by decide +kernel
theorem dX9_door_31 : decode cX9_door 31 = .ok (.getfield 166, 3) := by decide +kernel
theorem dX9_door_34 : decode cX9_door 34 = .ok (.invokevirtual 169, 3) := by decide +kernel
theorem dX9_door_37 : decode cX9_door 37 = .ok (.ireturn, 1) := by decide +kernel
theorem dX9_lineUp_0 : decode cX9_lineUp 0 = .ok (.aload_n 0, 1) := by decide +kernel
theorem dX9_lineUp_1 : decode cX9_lineUp 1 = .ok (.iload_n 1, 1) := by decide +kernel
theorem dX9_lineUp_2 : decode cX9_lineUp 2 = .ok (.invokevirtual 163, 3) := by decide +kernel
theorem dX9_lineUp_5 : decode cX9_lineUp 5 = .ok (.ifCond .eq 11, 3) := by decide +kernel
theorem dX9_lineUp_8 : decode cX9_lineUp 8 = .ok (.aload_n 0, 1) := by decide +kernel
theorem dX9_lineUp_9 : decode cX9_lineUp 9 = .ok (.iload_n 2, 1) := by decide +kernel
theorem dX9_lineUp_10 : decode cX9_lineUp 10 = .ok (.invokevirtual 163, 3) := by decide +kernel
theorem dX9_lineUp_13 : decode cX9_lineUp 13 = .ok (.ifCond .ne 9, 3) := by decide +kernel
theorem dX9_lineUp_16 : decode cX9_lineUp 16 = .ok (.aload_n 0, 1) := by decide +kernel
theorem dX9_lineUp_17 : decode cX9_lineUp 17 = .ok (.iconst 1, 1) := by decide +kernel
theorem dX9_lineUp_18 : decode cX9_lineUp 18 = .ok (.invokevirtual 80, 3) := by decide +kernel
theorem dX9_lineUp_21 : decode cX9_lineUp 21 = .ok (.ireturn, 1) := by decide +kernel
theorem dX9_lineUp_22 : decode cX9_lineUp 22 = .ok (.iconst 0, 1) := by decide +kernel
theorem dX9_lineUp_23 : decode cX9_lineUp 23 = .ok (.istore_n 3, 1) := by decide +kernel
theorem dX9_lineUp_24 : decode cX9_lineUp 24 = .ok (.iload_n 3, 1) := by decide +kernel
theorem dX9_lineUp_25 : decode cX9_lineUp 25 = .ok (.aload_n 0, 1) := by decide +kernel
theorem dX9_lineUp_26 : decode cX9_lineUp 26 = .ok (.getfield 19, 3) := by decide +kernel
theorem dX9_lineUp_29 : decode cX9_lineUp 29 = .ok (.getfield 154, 3) := by decide +kernel
theorem dX9_lineUp_32 : decode cX9_lineUp 32 = .ok (.if_icmp .ge 47, 3) := by decide +kernel
theorem dX9_lineUp_35 : decode cX9_lineUp 35 = .ok (.aload_n 0, 1) := by decide +kernel
theorem dX9_lineUp_36 : decode cX9_lineUp 36 = .ok (.getfield 10, 3) := by decide +kernel
theorem dX9_lineUp_39 : decode cX9_lineUp 39 = .ok (.getfield 166, 3) := by decide +kernel
theorem dX9_lineUp_42 : decode cX9_lineUp 42 = .ok (.iload_n 3, 1) := by decide +kernel
theorem dX9_lineUp_43 : decode cX9_lineUp 43 = .ok (.iadd, 1) := by decide +kernel
theorem dX9_lineUp_44 : decode cX9_lineUp 44 = .ok (.istore 4, 2) := by decide +kernel
theorem dX9_lineUp_46 : decode cX9_lineUp 46 = .ok (.aload_n 0, 1) := by decide +kernel
theorem dX9_lineUp_47 : decode cX9_lineUp 47 = .ok (.getfield 19, 3) := by decide +kernel
theorem dX9_lineUp_50 : decode cX9_lineUp 50 = .ok (.iconst 0, 1) := by decide +kernel
theorem dX9_lineUp_51 : decode cX9_lineUp 51 = .ok (.iload_n 1, 1) := by decide +kernel
theorem dX9_lineUp_52 : decode cX9_lineUp 52 = .ok (.iload 4, 2) := by decide +kernel
theorem dX9_lineUp_54 : decode cX9_lineUp 54 = .ok (.invokevirtual 169, 3) := by decide +kernel
theorem dX9_lineUp_57 : decode cX9_lineUp 57 = .ok (.aload_n 0, 1) := by decide +kernel
theorem dX9_lineUp_58 : decode cX9_lineUp 58 = .ok (.getfield 19, 3) := by decide +kernel
theorem dX9_lineUp_61 : decode cX9_lineUp 61 = .ok (.iconst 1, 1) := by decide +kernel
theorem dX9_lineUp_62 : decode cX9_lineUp 62 = .ok (.iload_n 2, 1) := by decide +kernel
theorem dX9_lineUp_63 : decode cX9_lineUp 63 = .ok (.iload 4, 2) := by decide +kernel
theorem dX9_lineUp_65 : decode cX9_lineUp 65 = .ok (.invokevirtual 169, 3) := by decide +kernel
theorem dX9_lineUp_68 : decode cX9_lineUp 68 = .ok (.if_icmp .ne 5, 3) := by decide +kernel
theorem dX9_lineUp_71 : decode cX9_lineUp 71 = .ok (.iload_n 3, 1) := by decide +kernel
theorem dX9_lineUp_72 : decode cX9_lineUp 72 = .ok (.ireturn, 1) := by decide +kernel
theorem dX9_lineUp_73 : decode cX9_lineUp 73 = .ok (.iinc 3 1, 3) := by decide +kernel
theorem dX9_lineUp_76 : decode cX9_lineUp 76 = .ok (.goto (-52), 3) := by decide +kernel
theorem dX9_lineUp_79 : decode cX9_lineUp 79 = .ok (.aload_n 0, 1) := by decide +kernel
theorem dX9_lineUp_80 : decode cX9_lineUp 80 = .ok (.iconst 2, 1) := by decide +kernel
theorem dX9_lineUp_81 : decode cX9_lineUp 81 = .ok (.invokevirtual 80, 3) := by decide +kernel
theorem dX9_lineUp_84 : decode cX9_lineUp 84 = .ok (.ireturn, 1) := by decide +kernel
theorem dX9_feed_0 : decode cX9_feed 0 = .ok (.iload_n 3, 1) := by decide +kernel
theorem dX9_feed_1 : decode cX9_feed 1 = .ok (.iconst 1, 1) := by decide +kernel
theorem dX9_feed_2 : decode cX9_feed 2 = .ok (.bipush 8, 2) := by decide +kernel
theorem dX9_feed_4 : decode cX9_feed 4 = .ok (.invokestatic 104, 3) := by decide +kernel
theorem dX9_feed_7 : decode cX9_feed 7 = .ok (.ifCond .ne 9, 3) := by decide +kernel
theorem dX9_feed_10 : decode cX9_feed 10 = .ok (.aload_n 0, 1) := by decide +kernel
theorem dX9_feed_11 : decode cX9_feed 11 = .ok (.iconst 1, 1) := by decide +kernel
theorem dX9_feed_12 : decode cX9_feed 12 = .ok (.invokevirtual 80, 3) := by decide +kernel
theorem dX9_feed_15 : decode cX9_feed 15 = .ok (.ireturn, 1) := by decide +kernel
theorem dX9_feed_16 : decode cX9_feed 16 = .ok (.aload_n 0, 1) := by decide +kernel
theorem dX9_feed_17 : decode cX9_feed 17 = .ok (.getfield 19, 3) := by decide +kernel
theorem dX9_feed_20 : decode cX9_feed 20 = .ok (.getfield 173, 3) := by decide +kernel
theorem dX9_feed_23 : decode cX9_feed 23 = .ok (.iload_n 3, 1) := by decide +kernel
theorem dX9_feed_24 : decode cX9_feed 24 = .ok (.iadd, 1) := by decide +kernel
theorem dX9_feed_25 : decode cX9_feed 25 = .ok (.bipush 50, 2) := by decide +kernel
theorem dX9_feed_27 : decode cX9_feed 27 = .ok (.if_icmp .le 9, 3) := by decide +kernel
theorem dX9_feed_30 : decode cX9_feed 30 = .ok (.aload_n 0, 1) := by decide +kernel
theorem dX9_feed_31 : decode cX9_feed 31 = .ok (.iconst 4, 1) := by decide +kernel
theorem dX9_feed_32 : decode cX9_feed 32 = .ok (.invokevirtual 80, 3) := by decide +kernel
theorem dX9_feed_35 : decode cX9_feed 35 = .ok (.ireturn, 1) := by decide +kernel
theorem dX9_feed_36 : decode cX9_feed 36 = .ok (.iconst 0, 1) := by decide +kernel
theorem dX9_feed_37 : decode cX9_feed 37 = .ok (.istore 4, 2) := by decide +kernel
theorem dX9_feed_39 : decode cX9_feed 39 = .ok (.iload 4, 2) := by decide +kernel
theorem dX9_feed_41 : decode cX9_feed 41 = .ok (.iload_n 3, 1) := by decide +kernel
theorem dX9_feed_42 : decode cX9_feed 42 = .ok (.if_icmp .ge 36, 3) := by decide +kernel
theorem dX9_feed_45 : decode cX9_feed 45 = .ok (.aload_n 0, 1) := by decide +kernel
theorem dX9_feed_46 : decode cX9_feed 46 = .ok (.getfield 19, 3) := by decide +kernel
theorem dX9_feed_49 : decode cX9_feed 49 = .ok (.getfield 176, 3) := by decide +kernel
theorem dX9_feed_52 : decode cX9_feed 52 = .ok (.aload_n 0, 1) := by decide +kernel
theorem dX9_feed_53 : decode cX9_feed 53 = .ok (.getfield 19, 3) := by decide +kernel
theorem dX9_feed_56 : decode cX9_feed 56 = .ok (.getfield 173, 3) := by decide +kernel
theorem dX9_feed_59 : decode cX9_feed 59 = .ok (.iload 4, 2) := by decide +kernel
theorem dX9_feed_61 : decode cX9_feed 61 = .ok (.iadd, 1) := by decide +kernel
theorem dX9_feed_62 : decode cX9_feed 62 = .ok (.lload_n 1, 1) := by decide +kernel
theorem dX9_feed_63 : decode cX9_feed 63 = .ok (.bipush 8, 2) := by decide +kernel
theorem dX9_feed_65 : decode cX9_feed 65 = .ok (.iload 4, 2) := by decide +kernel
theorem dX9_feed_67 : decode cX9_feed 67 = .ok (.imul, 1) := by decide +kernel
theorem dX9_feed_68 : decode cX9_feed 68 = .ok (.lushr, 1) := by decide +kernel
theorem dX9_feed_69 : decode cX9_feed 69 = .ok (.l2i, 1) := by decide +kernel
theorem dX9_feed_70 : decode cX9_feed 70 = .ok (.i2b, 1) := by decide +kernel
theorem dX9_feed_71 : decode cX9_feed 71 = .ok (.bastore, 1) := by decide +kernel
theorem dX9_feed_72 : decode cX9_feed 72 = .ok (.iinc 4 1, 3) := by decide +kernel
theorem dX9_feed_75 : decode cX9_feed 75 = .ok (.goto (-36), 3) := by decide +kernel
theorem dX9_feed_78 : decode cX9_feed 78 = .ok (.aload_n 0, 1) := by decide +kernel
theorem dX9_feed_79 : decode cX9_feed 79 = .ok (.getfield 19, 3) := by decide +kernel
theorem dX9_feed_82 : decode cX9_feed 82 = .ok (.dup, 1) := by decide +kernel
theorem dX9_feed_83 : decode cX9_feed 83 = .ok (.getfield 173, 3) := by decide +kernel
theorem dX9_feed_86 : decode cX9_feed 86 = .ok (.iload_n 3, 1) := by decide +kernel
theorem dX9_feed_87 : decode cX9_feed 87 = .ok (.iadd, 1) := by decide +kernel
theorem dX9_feed_88 : decode cX9_feed 88 = .ok (.putfield 173, 3) := by decide +kernel
theorem dX9_feed_91 : decode cX9_feed 91 = .ok (.aload_n 0, 1) := by decide +kernel
theorem dX9_feed_92 : decode cX9_feed 92 = .ok (.getfield 19, 3) := by decide +kernel
theorem dX9_feed_95 : decode cX9_feed 95 = .ok (.getfield 173, 3) := by decide +kernel
theorem dX9_feed_98 : decode cX9_feed 98 = .ok (.ireturn, 1) := by decide +kernel
theorem dX9_text_0 : decode cX9_text 0 = .ok (.iload_n 1, 1) := by decide +kernel
theorem dX9_text_1 : decode cX9_text 1 = .ok (.invokestatic 180, 3) := by decide +kernel
theorem dX9_text_4 : decode cX9_text 4 = .ok (.ifCond .ne 9, 3) := by decide +kernel
theorem dX9_text_7 : decode cX9_text 7 = .ok (.aload_n 0, 1) := by decide +kernel
theorem dX9_text_8 : decode cX9_text 8 = .ok (.iconst 1, 1) := by decide +kernel
theorem dX9_text_9 : decode cX9_text 9 = .ok (.invokevirtual 80, 3) := by decide +kernel
theorem dX9_text_12 : decode cX9_text 12 = .ok (.ireturn, 1) := by decide +kernel
theorem dX9_text_13 : decode cX9_text 13 = .ok (.aload_n 0, 1) := by decide +kernel
theorem dX9_text_14 : decode cX9_text 14 = .ok (.getfield 44, 3) := by decide +kernel
theorem dX9_text_17 : decode cX9_text 17 = .ok (.aload_n 0, 1) := by decide +kernel
theorem dX9_text_18 : decode cX9_text 18 = .ok (.getfield 19, 3) := by decide +kernel
theorem dX9_text_21 : decode cX9_text 21 = .ok (.getfield 176, 3) := by decide +kernel
theorem dX9_text_24 : decode cX9_text 24 = .ok (.aload_n 0, 1) := by decide +kernel
theorem dX9_text_25 : decode cX9_text 25 = .ok (.getfield 19, 3) := by decide +kernel
theorem dX9_text_28 : decode cX9_text 28 = .ok (.getfield 173, 3) := by decide +kernel
theorem dX9_text_31 : decode cX9_text 31 = .ok (.iload_n 1, 1) := by decide +kernel
theorem dX9_text_32 : decode cX9_text 32 = .ok (.invokevirtual 183, 3) := by decide +kernel
theorem dX9_text_35 : decode cX9_text 35 = .ok (.istore_n 2, 1) := by decide +kernel
theorem dX9_text_36 : decode cX9_text 36 = .ok (.aload_n 0, 1) := by decide +kernel
theorem dX9_text_37 : decode cX9_text 37 = .ok (.getfield 19, 3) := by decide +kernel
theorem dX9_text_40 : decode cX9_text 40 = .ok (.iconst 0, 1) := by decide +kernel
theorem dX9_text_41 : decode cX9_text 41 = .ok (.putfield 173, 3) := by decide +kernel
theorem dX9_text_44 : decode cX9_text 44 = .ok (.iload_n 2, 1) := by decide +kernel
theorem dX9_text_45 : decode cX9_text 45 = .ok (.ifCond .lt 8, 3) := by decide +kernel
theorem dX9_text_48 : decode cX9_text 48 = .ok (.bipush (-10), 2) := by decide +kernel
theorem dX9_text_50 : decode cX9_text 50 = .ok (.iload_n 2, 1) := by decide +kernel
theorem dX9_text_51 : decode cX9_text 51 = .ok (.isub, 1) := by decide +kernel
theorem dX9_text_52 : decode cX9_text 52 = .ok (.ireturn, 1) := by decide +kernel
theorem dX9_text_53 : decode cX9_text 53 = .ok (.aload_n 0, 1) := by decide +kernel
theorem dX9_text_54 : decode cX9_text 54 = .ok (.getfield 19, 3) := by decide +kernel
theorem dX9_text_57 : decode cX9_text 57 = .ok (.iload_n 1, 1) := by decide +kernel
theorem dX9_text_58 : decode cX9_text 58 = .ok (.invokevirtual 187, 3) := by decide +kernel
theorem dX9_text_61 : decode cX9_text 61 = .ok (.aload_n 0, 1) := by decide +kernel
theorem dX9_text_62 : decode cX9_text 62 = .ok (.getfield 44, 3) := by decide +kernel
theorem dX9_text_65 : decode cX9_text 65 = .ok (.getfield 191, 3) := by decide +kernel
theorem dX9_text_68 : decode cX9_text 68 = .ok (.aload_n 0, 1) := by decide +kernel
theorem dX9_text_69 : decode cX9_text 69 = .ok (.getfield 44, 3) := by decide +kernel
theorem dX9_text_72 : decode cX9_text 72 = .ok (.getfield 194, 3) := by decide +kernel
theorem dX9_text_75 : decode cX9_text 75 = .ok (.invokevirtual 195, 3) := by decide +kernel
theorem dX9_text_78 : decode cX9_text 78 = .ok (.aload_n 0, 1) := by decide +kernel
theorem dX9_text_79 : decode cX9_text 79 = .ok (.getfield 19, 3) := by decide +kernel
theorem dX9_text_82 : decode cX9_text 82 = .ok (.invokevirtual 201, 3) := by decide +kernel
theorem dX9_text_85 : decode cX9_text 85 = .ok (.iconst 1, 1) := by decide +kernel
theorem dX9_text_86 : decode cX9_text 86 = .ok (.ireturn, 1) := by decide +kernel
theorem dX9_law_0 : decode cX9_law 0 = .ok (.iload_n 1, 1) := by decide +kernel
theorem dX9_law_1 : decode cX9_law 1 = .ok (.invokestatic 180, 3) := by decide +kernel
theorem dX9_law_4 : decode cX9_law 4 = .ok (.ifCond .ne 9, 3) := by decide +kernel
theorem dX9_law_7 : decode cX9_law 7 = .ok (.aload_n 0, 1) := by decide +kernel
theorem dX9_law_8 : decode cX9_law 8 = .ok (.iconst 1, 1) := by decide +kernel
theorem dX9_law_9 : decode cX9_law 9 = .ok (.invokevirtual 80, 3) := by decide +kernel
theorem dX9_law_12 : decode cX9_law 12 = .ok (.ireturn, 1) := by decide +kernel
theorem dX9_law_13 : decode cX9_law 13 = .ok (.aload_n 0, 1) := by decide +kernel
theorem dX9_law_14 : decode cX9_law 14 = .ok (.getfield 19, 3) := by decide +kernel
theorem dX9_law_17 : decode cX9_law 17 = .ok (.iload_n 1, 1) := by decide +kernel
theorem dX9_law_18 : decode cX9_law 18 = .ok (.invokevirtual 187, 3) := by decide +kernel
theorem dX9_law_21 : decode cX9_law 21 = .ok (.iload_n 2, 1) := by decide +kernel
theorem dX9_law_22 : decode cX9_law 22 = .ok (.iload_n 3, 1) := by decide +kernel
theorem dX9_law_23 : decode cX9_law 23 = .ok (.iload 4, 2) := by decide +kernel
theorem dX9_law_25 : decode cX9_law 25 = .ok (.invokevirtual 204, 3) := by decide +kernel
theorem dX9_law_28 : decode cX9_law 28 = .ok (.ireturn, 1) := by decide +kernel
theorem dX9_steps_0 : decode cX9_steps 0 = .ok (.iload_n 1, 1) := by decide +kernel
theorem dX9_steps_1 : decode cX9_steps 1 = .ok (.iconst 1, 1) := by decide +kernel
theorem dX9_steps_2 : decode cX9_steps 2 = .ok (.sipush 200, 3) := by decide +kernel
theorem dX9_steps_5 : decode cX9_steps 5 = .ok (.invokestatic 104, 3) := by decide +kernel
theorem dX9_steps_8 : decode cX9_steps 8 = .ok (.ifCond .ne 9, 3) := by decide +kernel
theorem dX9_steps_11 : decode cX9_steps 11 = .ok (.aload_n 0, 1) := by decide +kernel
theorem dX9_steps_12 : decode cX9_steps 12 = .ok (.iconst 1, 1) := by decide +kernel
theorem dX9_steps_13 : decode cX9_steps 13 = .ok (.invokevirtual 80, 3) := by decide +kernel
theorem dX9_steps_16 : decode cX9_steps 16 = .ok (.ireturn, 1) := by decide +kernel
theorem dX9_steps_17 : decode cX9_steps 17 = .ok (.aload_n 0, 1) := by decide +kernel
theorem dX9_steps_18 : decode cX9_steps 18 = .ok (.getfield 10, 3) := by decide +kernel
theorem dX9_steps_21 : decode cX9_steps 21 = .ok (.getfield 166, 3) := by decide +kernel
theorem dX9_steps_24 : decode cX9_steps 24 = .ok (.iload_n 1, 1) := by decide +kernel
theorem dX9_steps_25 : decode cX9_steps 25 = .ok (.iadd, 1) := by decide +kernel
theorem dX9_steps_26 : decode cX9_steps 26 = .ok (.sipush 9999, 3) := by decide +kernel
theorem dX9_steps_29 : decode cX9_steps 29 = .ok (.if_icmp .le 9, 3) := by decide +kernel
theorem dX9_steps_32 : decode cX9_steps 32 = .ok (.aload_n 0, 1) := by decide +kernel
theorem dX9_steps_33 : decode cX9_steps 33 = .ok (.iconst 3, 1) := by decide +kernel
theorem dX9_steps_34 : decode cX9_steps 34 = .ok (.invokevirtual 80, 3) := by decide +kernel
theorem dX9_steps_37 : decode cX9_steps 37 = .ok (.ireturn, 1) := by decide +kernel
theorem dX9_steps_38 : decode cX9_steps 38 = .ok (.iconst 0, 1) := by decide +kernel
theorem dX9_steps_39 : decode cX9_steps 39 = .ok (.istore_n 2, 1) := by decide +kernel
theorem dX9_steps_40 : decode cX9_steps 40 = .ok (.iload_n 2, 1) := by decide +kernel
theorem dX9_steps_41 : decode cX9_steps 41 = .ok (.iload_n 1, 1) := by decide +kernel
theorem dX9_steps_42 : decode cX9_steps 42 = .ok (.if_icmp .ge 20, 3) := by decide +kernel
theorem dX9_steps_45 : decode cX9_steps 45 = .ok (.aload_n 0, 1) := by decide +kernel
theorem dX9_steps_46 : decode cX9_steps 46 = .ok (.getfield 10, 3) := by decide +kernel
theorem dX9_steps_49 : decode cX9_steps 49 = .ok (.aload_n 0, 1) := by decide +kernel
theorem dX9_steps_50 : decode cX9_steps 50 = .ok (.getfield 19, 3) := by decide +kernel
theorem dX9_steps_53 : decode cX9_steps 53 = .ok (.invokevirtual 207, 3) := by decide +kernel
theorem dX9_steps_56 : decode cX9_steps 56 = .ok (.iinc 2 1, 3) := by decide +kernel
theorem dX9_steps_59 : decode cX9_steps 59 = .ok (.goto (-19), 3) := by decide +kernel
theorem dX9_steps_62 : decode cX9_steps 62 = .ok (.aload_n 0, 1) := by decide +kernel
theorem dX9_steps_63 : decode cX9_steps 63 = .ok (.invokevirtual 210, 3) := by decide +kernel
theorem dX9_steps_66 : decode cX9_steps 66 = .ok (.ireturn, 1) := by decide +kernel
theorem dX9_loose_0 : decode cX9_loose 0 = .ok (.iload_n 1, 1) := by decide +kernel
theorem dX9_loose_1 : decode cX9_loose 1 = .ok (.iconst 1, 1) := by decide +kernel
theorem dX9_loose_2 : decode cX9_loose 2 = .ok (.sipush 200, 3) := by decide +kernel
theorem dX9_loose_5 : decode cX9_loose 5 = .ok (.invokestatic 104, 3) := by decide +kernel
theorem dX9_loose_8 : decode cX9_loose 8 = .ok (.ifCond .ne 9, 3) := by decide +kernel
theorem dX9_loose_11 : decode cX9_loose 11 = .ok (.aload_n 0, 1) := by decide +kernel
theorem dX9_loose_12 : decode cX9_loose 12 = .ok (.iconst 1, 1) := by decide +kernel
theorem dX9_loose_13 : decode cX9_loose 13 = .ok (.invokevirtual 80, 3) := by decide +kernel
theorem dX9_loose_16 : decode cX9_loose 16 = .ok (.ireturn, 1) := by decide +kernel
theorem dX9_loose_17 : decode cX9_loose 17 = .ok (.aload_n 0, 1) := by decide +kernel
theorem dX9_loose_18 : decode cX9_loose 18 = .ok (.getfield 10, 3) := by decide +kernel
theorem dX9_loose_21 : decode cX9_loose 21 = .ok (.getfield 166, 3) := by decide +kernel
theorem dX9_loose_24 : decode cX9_loose 24 = .ok (.iload_n 1, 1) := by decide +kernel
theorem dX9_loose_25 : decode cX9_loose 25 = .ok (.iadd, 1) := by decide +kernel
theorem dX9_loose_26 : decode cX9_loose 26 = .ok (.sipush 9999, 3) := by decide +kernel
theorem dX9_loose_29 : decode cX9_loose 29 = .ok (.if_icmp .le 9, 3) := by decide +kernel
theorem dX9_loose_32 : decode cX9_loose 32 = .ok (.aload_n 0, 1) := by decide +kernel
theorem dX9_loose_33 : decode cX9_loose 33 = .ok (.iconst 3, 1) := by decide +kernel
theorem dX9_loose_34 : decode cX9_loose 34 = .ok (.invokevirtual 80, 3) := by decide +kernel
theorem dX9_loose_37 : decode cX9_loose 37 = .ok (.ireturn, 1) := by decide +kernel
theorem dX9_loose_38 : decode cX9_loose 38 = .ok (.iconst 0, 1) := by decide +kernel
theorem dX9_loose_39 : decode cX9_loose 39 = .ok (.istore_n 2, 1) := by decide +kernel
theorem dX9_loose_40 : decode cX9_loose 40 = .ok (.iload_n 2, 1) := by decide +kernel
theorem dX9_loose_41 : decode cX9_loose 41 = .ok (.iload_n 1, 1) := by decide +kernel
theorem dX9_loose_42 : decode cX9_loose 42 = .ok (.if_icmp .ge 31, 3) := by decide +kernel
theorem dX9_loose_45 : decode cX9_loose 45 = .ok (.aload_n 0, 1) := by decide +kernel
theorem dX9_loose_46 : decode cX9_loose 46 = .ok (.getfield 10, 3) := by decide +kernel
theorem dX9_loose_49 : decode cX9_loose 49 = .ok (.aload_n 0, 1) := by decide +kernel
theorem dX9_loose_50 : decode cX9_loose 50 = .ok (.getfield 19, 3) := by decide +kernel
theorem dX9_loose_53 : decode cX9_loose 53 = .ok (.invokevirtual 213, 3) := by decide +kernel
theorem dX9_loose_56 : decode cX9_loose 56 = .ok (.aload_n 0, 1) := by decide +kernel
theorem dX9_loose_57 : decode cX9_loose 57 = .ok (.getfield 10, 3) := by decide +kernel
theorem dX9_loose_60 : decode cX9_loose 60 = .ok (.aload_n 0, 1) := by decide +kernel
theorem dX9_loose_61 : decode cX9_loose 61 = .ok (.getfield 19, 3) := by decide +kernel
theorem dX9_loose_64 : decode cX9_loose 64 = .ok (.invokevirtual 207, 3) := by decide +kernel
theorem dX9_loose_67 : decode cX9_loose 67 = .ok (.iinc 2 1, 3) := by decide +kernel
theorem dX9_loose_70 : decode cX9_loose 70 = .ok (.goto (-30), 3) := by decide +kernel
theorem dX9_loose_73 : decode cX9_loose 73 = .ok (.aload_n 0, 1) := by decide +kernel
theorem dX9_loose_74 : decode cX9_loose 74 = .ok (.invokevirtual 210, 3) := by decide +kernel
theorem dX9_loose_77 : decode cX9_loose 77 = .ok (.ireturn, 1) := by decide +kernel
theorem dX9_then_0 : decode cX9_then 0 = .ok (.iload_n 1, 1) := by decide +kernel
theorem dX9_then_1 : decode cX9_then 1 = .ok (.iconst 0, 1) := by decide +kernel
theorem dX9_then_2 : decode cX9_then 2 = .ok (.sipush 200, 3) := by decide +kernel
theorem dX9_then_5 : decode cX9_then 5 = .ok (.invokestatic 104, 3) := by decide +kernel
theorem dX9_then_8 : decode cX9_then 8 = .ok (.ifCond .eq 20, 3) := by decide +kernel
theorem dX9_then_11 : decode cX9_then 11 = .ok (.aload_n 0, 1) := by decide +kernel
theorem dX9_then_12 : decode cX9_then 12 = .ok (.iload_n 2, 1) := by decide +kernel
theorem dX9_then_13 : decode cX9_then 13 = .ok (.invokevirtual 101, 3) := by decide +kernel
theorem dX9_then_16 : decode cX9_then 16 = .ok (.ifCond .eq 12, 3) := by decide +kernel
theorem dX9_then_19 : decode cX9_then 19 = .ok (.iload_n 3, 1) := by decide +kernel
theorem dX9_then_20 : decode cX9_then 20 = .ok (.iconst 0, 1) := by decide +kernel
theorem dX9_then_21 : decode cX9_then 21 = .ok (.iconst 2, 1) := by decide +kernel
theorem dX9_then_22 : decode cX9_then 22 = .ok (.invokestatic 104, 3) := by decide +kernel
theorem dX9_then_25 : decode cX9_then 25 = .ok (.ifCond .ne 9, 3) := by decide +kernel
theorem dX9_then_28 : decode cX9_then 28 = .ok (.aload_n 0, 1) := by decide +kernel
theorem dX9_then_29 : decode cX9_then 29 = .ok (.iconst 1, 1) := by decide +kernel
theorem dX9_then_30 : decode cX9_then 30 = .ok (.invokevirtual 80, 3) := by decide +kernel
theorem dX9_then_33 : decode cX9_then 33 = .ok (.ireturn, 1) := by decide +kernel
theorem dX9_then_34 : decode cX9_then 34 = .ok (.aload_n 0, 1) := by decide +kernel
theorem dX9_then_35 : decode cX9_then 35 = .ok (.getfield 29, 3) := by decide +kernel
theorem dX9_then_38 : decode cX9_then 38 = .ok (.aload_n 0, 1) := by decide +kernel
theorem dX9_then_39 : decode cX9_then 39 = .ok (.getfield 10, 3) := by decide +kernel
theorem dX9_then_42 : decode cX9_then 42 = .ok (.invokevirtual 216, 3) := by decide +kernel
theorem dX9_then_45 : decode cX9_then 45 = .ok (.iconst 0, 1) := by decide +kernel
theorem dX9_then_46 : decode cX9_then 46 = .ok (.istore 4, 2) := by decide +kernel
theorem dX9_then_48 : decode cX9_then 48 = .ok (.iload 4, 2) := by decide +kernel
theorem dX9_then_50 : decode cX9_then 50 = .ok (.iload_n 1, 1) := by decide +kernel
theorem dX9_then_51 : decode cX9_then 51 = .ok (.if_icmp .ge 20, 3) := by decide +kernel
theorem dX9_then_54 : decode cX9_then 54 = .ok (.aload_n 0, 1) := by decide +kernel
theorem dX9_then_55 : decode cX9_then 55 = .ok (.getfield 29, 3) := by decide +kernel
theorem dX9_then_58 : decode cX9_then 58 = .ok (.aload_n 0, 1) := by decide +kernel
theorem dX9_then_59 : decode cX9_then 59 = .ok (.getfield 19, 3) := by decide +kernel
theorem dX9_then_62 : decode cX9_then 62 = .ok (.invokevirtual 207, 3) := by decide +kernel
theorem dX9_then_65 : decode cX9_then 65 = .ok (.iinc 4 1, 3) := by decide +kernel
theorem dX9_then_68 : decode cX9_then 68 = .ok (.goto (-20), 3) := by decide +kernel
theorem dX9_then_71 : decode cX9_then 71 = .ok (.iload_n 3, 1) := by decide +kernel
theorem dX9_then_72 : decode cX9_then 72 = .ok (.iconst 2, 1) := by decide +kernel
theorem dX9_then_73 : decode cX9_then 73 = .ok (.if_icmp .ne 11, 3) := by decide +kernel
theorem dX9_then_76 : decode cX9_then 76 = .ok (.aload_n 0, 1) := by decide +kernel
theorem dX9_then_77 : decode cX9_then 77 = .ok (.getfield 29, 3) := by decide +kernel
theorem dX9_then_80 : decode cX9_then 80 = .ok (.getfield 220, 3) := by decide +kernel
theorem dX9_then_83 : decode cX9_then 83 = .ok (.ireturn, 1) := by decide +kernel
theorem dX9_then_84 : decode cX9_then 84 = .ok (.iload_n 3, 1) := by decide +kernel
theorem dX9_then_85 : decode cX9_then 85 = .ok (.ifCond .ne 18, 3) := by decide +kernel
theorem dX9_then_88 : decode cX9_then 88 = .ok (.aload_n 0, 1) := by decide +kernel
theorem dX9_then_89 : decode cX9_then 89 = .ok (.getfield 29, 3) := by decide +kernel
theorem dX9_then_92 : decode cX9_then 92 = .ok (.getfield 88, 3) := by decide +kernel
theorem dX9_then_95 : decode cX9_then 95 = .ok (.iload_n 2, 1) := by decide +kernel
theorem dX9_then_96 : decode cX9_then 96 = .ok (.aaload, 1) := by decide +kernel
theorem dX9_then_97 : decode cX9_then 97 = .ok (.getfield 114, 3) := by decide +kernel
theorem dX9_then_100 : decode cX9_then 100 = .ok (.goto 15, 3) := by decide +kernel
theorem dX9_then_103 : decode cX9_then 103 = .ok (.aload_n 0, 1) := by decide +kernel
theorem dX9_then_104 : decode cX9_then 104 = .ok (.getfield 29, 3) := by decide +kernel
theorem dX9_then_107 : decode cX9_then 107 = .ok (.getfield 88, 3) := by decide +kernel
theorem dX9_then_110 : decode cX9_then 110 = .ok (.iload_n 2, 1) := by decide +kernel
theorem dX9_then_111 : decode cX9_then 111 = .ok (.aaload, 1) := by decide +kernel
theorem dX9_then_112 : decode cX9_then 112 = .ok (.getfield 117, 3) := by decide +kernel
theorem dX9_then_115 : decode cX9_then 115 = .ok (.ireturn, 1) := by decide +kernel
theorem dX9_rests_0 : decode cX9_rests 0 = .ok (.aload_n 0, 1) := by decide +kernel
theorem dX9_rests_1 : decode cX9_rests 1 = .ok (.iload_n 1, 1) := by decide +kernel
theorem dX9_rests_2 : decode cX9_rests 2 = .ok (.invokevirtual 101, 3) := by decide +kernel
theorem dX9_rests_5 : decode cX9_rests 5 = .ok (.ifCond .eq 12, 3) := by decide +kernel
theorem dX9_rests_8 : decode cX9_rests 8 = .ok (.iload_n 2, 1) := by decide +kernel
theorem dX9_rests_9 : decode cX9_rests 9 = .ok (.iconst 0, 1) := by decide +kernel
theorem dX9_rests_10 : decode cX9_rests 10 = .ok (.iconst 1, 1) := by decide +kernel
theorem dX9_rests_11 : decode cX9_rests 11 = .ok (.invokestatic 104, 3) := by decide +kernel
theorem dX9_rests_14 : decode cX9_rests 14 = .ok (.ifCond .ne 9, 3) := by decide +kernel
theorem dX9_rests_17 : decode cX9_rests 17 = .ok (.aload_n 0, 1) := by decide +kernel
theorem dX9_rests_18 : decode cX9_rests 18 = .ok (.iconst 1, 1) := by decide +kernel
theorem dX9_rests_19 : decode cX9_rests 19 = .ok (.invokevirtual 80, 3) := by decide +kernel
theorem dX9_rests_22 : decode cX9_rests 22 = .ok (.ireturn, 1) := by decide +kernel
theorem dX9_rests_23 : decode cX9_rests 23 = .ok (.aload_n 0, 1) := by decide +kernel
theorem dX9_rests_24 : decode cX9_rests 24 = .ok (.getfield 37, 3) := by decide +kernel
theorem dX9_rests_27 : decode cX9_rests 27 = .ok (.aload_n 0, 1) := by decide +kernel
theorem dX9_rests_28 : decode cX9_rests 28 = .ok (.getfield 10, 3) := by decide +kernel
theorem dX9_rests_31 : decode cX9_rests 31 = .ok (.getfield 88, 3) := by decide +kernel
theorem dX9_rests_34 : decode cX9_rests 34 = .ok (.iload_n 1, 1) := by decide +kernel
theorem dX9_rests_35 : decode cX9_rests 35 = .ok (.aaload, 1) := by decide +kernel
theorem dX9_rests_36 : decode cX9_rests 36 = .ok (.invokevirtual 223, 3) := by decide +kernel
theorem dX9_rests_39 : decode cX9_rests 39 = .ok (.istore_n 3, 1) := by decide +kernel
theorem dX9_rests_40 : decode cX9_rests 40 = .ok (.iload_n 3, 1) := by decide +kernel
theorem dX9_rests_41 : decode cX9_rests 41 = .ok (.ifCond .ge 9, 3) := by decide +kernel
theorem dX9_rests_44 : decode cX9_rests 44 = .ok (.aload_n 0, 1) := by decide +kernel
theorem dX9_rests_45 : decode cX9_rests 45 = .ok (.iconst 2, 1) := by decide +kernel
theorem dX9_rests_46 : decode cX9_rests 46 = .ok (.invokevirtual 80, 3) := by decide +kernel
theorem dX9_rests_49 : decode cX9_rests 49 = .ok (.ireturn, 1) := by decide +kernel
theorem dX9_rests_50 : decode cX9_rests 50 = .ok (.iload_n 2, 1) := by decide +kernel
theorem dX9_rests_51 : decode cX9_rests 51 = .ok (.ifCond .ne 7, 3) := by decide +kernel
theorem dX9_rests_54 : decode cX9_rests 54 = .ok (.iload_n 3, 1) := by decide +kernel
theorem dX9_rests_55 : decode cX9_rests 55 = .ok (.goto 13, 3) := by decide +kernel
theorem dX9_rests_58 : decode cX9_rests 58 = .ok (.aload_n 0, 1) := by decide +kernel
theorem dX9_rests_59 : decode cX9_rests 59 = .ok (.getfield 37, 3) := by decide +kernel
theorem dX9_rests_62 : decode cX9_rests 62 = .ok (.getfield 226, 3) := by decide +kernel
theorem dX9_rests_65 : decode cX9_rests 65 = .ok (.getfield 114, 3) := by decide +kernel
theorem dX9_rests_68 : decode cX9_rests 68 = .ok (.ireturn, 1) := by decide +kernel
theorem dX9_first_0 : decode cX9_first 0 = .ok (.iconst (-1), 1) := by decide +kernel
theorem dX9_first_1 : decode cX9_first 1 = .ok (.istore_n 1, 1) := by decide +kernel
theorem dX9_first_2 : decode cX9_first 2 = .ok (.sipush 201, 3) := by decide +kernel
theorem dX9_first_5 : decode cX9_first 5 = .ok (.istore_n 2, 1) := by decide +kernel
theorem dX9_first_6 : decode cX9_first 6 = .ok (.iconst 0, 1) := by decide +kernel
theorem dX9_first_7 : decode cX9_first 7 = .ok (.istore_n 3, 1) := by decide +kernel
theorem dX9_first_8 : decode cX9_first 8 = .ok (.iload_n 3, 1) := by decide +kernel
theorem dX9_first_9 : decode cX9_first 9 = .ok (.aload_n 0, 1) := by decide +kernel
theorem dX9_first_10 : decode cX9_first 10 = .ok (.getfield 10, 3) := by decide +kernel
theorem dX9_first_13 : decode cX9_first 13 = .ok (.getfield 84, 3) := by decide +kernel
theorem dX9_first_16 : decode cX9_first 16 = .ok (.if_icmp .ge 59, 3) := by decide +kernel
theorem dX9_first_19 : decode cX9_first 19 = .ok (.aload_n 0, 1) := by decide +kernel
theorem dX9_first_20 : decode cX9_first 20 = .ok (.getfield 37, 3) := by decide +kernel
theorem dX9_first_23 : decode cX9_first 23 = .ok (.aload_n 0, 1) := by decide +kernel
theorem dX9_first_24 : decode cX9_first 24 = .ok (.getfield 10, 3) := by decide +kernel
theorem dX9_first_27 : decode cX9_first 27 = .ok (.getfield 88, 3) := by decide +kernel
theorem dX9_first_30 : decode cX9_first 30 = .ok (.iload_n 3, 1) := by decide +kernel
theorem dX9_first_31 : decode cX9_first 31 = .ok (.aaload, 1) := by decide +kernel
theorem dX9_first_32 : decode cX9_first 32 = .ok (.invokevirtual 223, 3) := by decide +kernel
theorem dX9_first_35 : decode cX9_first 35 = .ok (.istore 4, 2) := by decide +kernel
theorem dX9_first_37 : decode cX9_first 37 = .ok (.iload 4, 2) := by decide +kernel
theorem dX9_first_39 : decode cX9_first 39 = .ok (.ifCond .lt 30, 3) := by decide +kernel
theorem dX9_first_42 : decode cX9_first 42 = .ok (.iload 4, 2) := by decide +kernel
theorem dX9_first_44 : decode cX9_first 44 = .ok (.iload_n 2, 1) := by decide +kernel
theorem dX9_first_45 : decode cX9_first 45 = .ok (.if_icmp .ge 24, 3) := by decide +kernel
theorem dX9_first_48 : decode cX9_first 48 = .ok (.aload_n 0, 1) := by decide +kernel
theorem dX9_first_49 : decode cX9_first 49 = .ok (.getfield 37, 3) := by decide +kernel
theorem dX9_first_52 : decode cX9_first 52 = .ok (.getfield 226, 3) := by decide +kernel
theorem dX9_first_55 : decode cX9_first 55 = .ok (.getfield 114, 3) := by decide +kernel
theorem dX9_first_58 : decode cX9_first 58 = .ok (.invokestatic 230, 3) := by decide +kernel
theorem dX9_first_61 : decode cX9_first 61 = .ok (.ifCond .eq 8, 3) := by decide +kernel
theorem dX9_first_64 : decode cX9_first 64 = .ok (.iload_n 3, 1) := by decide +kernel
theorem dX9_first_65 : decode cX9_first 65 = .ok (.istore_n 1, 1) := by decide +kernel
theorem dX9_first_66 : decode cX9_first 66 = .ok (.iload 4, 2) := by decide +kernel
theorem dX9_first_68 : decode cX9_first 68 = .ok (.istore_n 2, 1) := by decide +kernel
theorem dX9_first_69 : decode cX9_first 69 = .ok (.iinc 3 1, 3) := by decide +kernel
theorem dX9_first_72 : decode cX9_first 72 = .ok (.goto (-64), 3) := by decide +kernel
theorem dX9_first_75 : decode cX9_first 75 = .ok (.iload_n 1, 1) := by decide +kernel
theorem dX9_first_76 : decode cX9_first 76 = .ok (.ifCond .ge 11, 3) := by decide +kernel
theorem dX9_first_79 : decode cX9_first 79 = .ok (.aload_n 0, 1) := by decide +kernel
theorem dX9_first_80 : decode cX9_first 80 = .ok (.iconst 2, 1) := by decide +kernel
theorem dX9_first_81 : decode cX9_first 81 = .ok (.invokevirtual 80, 3) := by decide +kernel
theorem dX9_first_84 : decode cX9_first 84 = .ok (.goto 4, 3) := by decide +kernel
theorem dX9_first_87 : decode cX9_first 87 = .ok (.iload_n 1, 1) := by decide +kernel
theorem dX9_first_88 : decode cX9_first 88 = .ok (.ireturn, 1) := by decide +kernel
theorem dX9_over_0 : decode cX9_over 0 = .ok (.aload_n 0, 1) := by decide +kernel
theorem dX9_over_1 : decode cX9_over 1 = .ok (.iload_n 1, 1) := by decide +kernel
theorem dX9_over_2 : decode cX9_over 2 = .ok (.invokevirtual 101, 3) := by decide +kernel
theorem dX9_over_5 : decode cX9_over 5 = .ok (.ifCond .eq 17, 3) := by decide +kernel
theorem dX9_over_8 : decode cX9_over 8 = .ok (.iload_n 2, 1) := by decide +kernel
theorem dX9_over_9 : decode cX9_over 9 = .ok (.invokestatic 160, 3) := by decide +kernel
theorem dX9_over_12 : decode cX9_over 12 = .ok (.ifCond .eq 10, 3) := by decide +kernel
theorem dX9_over_15 : decode cX9_over 15 = .ok (.iload_n 3, 1) := by decide +kernel
theorem dX9_over_16 : decode cX9_over 16 = .ok (.invokestatic 148, 3) := by decide +kernel
theorem dX9_over_19 : decode cX9_over 19 = .ok (.ifCond .ne 9, 3) := by decide +kernel
theorem dX9_over_22 : decode cX9_over 22 = .ok (.aload_n 0, 1) := by decide +kernel
theorem dX9_over_23 : decode cX9_over 23 = .ok (.iconst 1, 1) := by decide +kernel
theorem dX9_over_24 : decode cX9_over 24 = .ok (.invokevirtual 80, 3) := by decide +kernel
theorem dX9_over_27 : decode cX9_over 27 = .ok (.ireturn, 1) := by decide +kernel
theorem dX9_over_28 : decode cX9_over 28 = .ok (.aload_n 0, 1) := by decide +kernel
theorem dX9_over_29 : decode cX9_over 29 = .ok (.getfield 37, 3) := by decide +kernel
theorem dX9_over_32 : decode cX9_over 32 = .ok (.aload_n 0, 1) := by decide +kernel
theorem dX9_over_33 : decode cX9_over 33 = .ok (.getfield 10, 3) := by decide +kernel
theorem dX9_over_36 : decode cX9_over 36 = .ok (.getfield 88, 3) := by decide +kernel
theorem dX9_over_39 : decode cX9_over 39 = .ok (.iload_n 1, 1) := by decide +kernel
theorem dX9_over_40 : decode cX9_over 40 = .ok (.aaload, 1) := by decide +kernel
theorem dX9_over_41 : decode cX9_over 41 = .ok (.iload_n 2, 1) := by decide +kernel
theorem dX9_over_42 : decode cX9_over 42 = .ok (.iload_n 3, 1) := by decide +kernel
theorem dX9_over_43 : decode cX9_over 43 = .ok (.invokevirtual 233, 3) := by decide +kernel
theorem dX9_over_46 : decode cX9_over 46 = .ok (.istore 4, 2) := by decide +kernel
theorem dX9_over_48 : decode cX9_over 48 = .ok (.iload 4, 2) := by decide +kernel
theorem dX9_over_50 : decode cX9_over 50 = .ok (.ifCond .ge 11, 3) := by decide +kernel
theorem dX9_over_53 : decode cX9_over 53 = .ok (.aload_n 0, 1) := by decide +kernel
theorem dX9_over_54 : decode cX9_over 54 = .ok (.iconst 2, 1) := by decide +kernel
theorem dX9_over_55 : decode cX9_over 55 = .ok (.invokevirtual 80, 3) := by decide +kernel
theorem dX9_over_58 : decode cX9_over 58 = .ok (.goto 5, 3) := by decide +kernel
theorem dX9_over_61 : decode cX9_over 61 = .ok (.iload 4, 2) := by decide +kernel
theorem dX9_over_63 : decode cX9_over 63 = .ok (.ireturn, 1) := by decide +kernel
theorem dX9_soonest_0 : decode cX9_soonest 0 = .ok (.aload_n 0, 1) := by decide +kernel
theorem dX9_soonest_1 : decode cX9_soonest 1 = .ok (.iload_n 1, 1) := by decide +kernel
theorem dX9_soonest_2 : decode cX9_soonest 2 = .ok (.invokevirtual 101, 3) := by decide +kernel
theorem dX9_soonest_5 : decode cX9_soonest 5 = .ok (.ifCond .eq 19, 3) := by decide +kernel
theorem dX9_soonest_8 : decode cX9_soonest 8 = .ok (.iload_n 2, 1) := by decide +kernel
theorem dX9_soonest_9 : decode cX9_soonest 9 = .ok (.invokestatic 160, 3) := by decide +kernel
theorem dX9_soonest_12 : decode cX9_soonest 12 = .ok (.ifCond .eq 12, 3) := by decide +kernel
theorem dX9_soonest_15 : decode cX9_soonest 15 = .ok (.iload_n 3, 1) := by decide +kernel
theorem dX9_soonest_16 : decode cX9_soonest 16 = .ok (.iconst 0, 1) := by decide +kernel
theorem dX9_soonest_17 : decode cX9_soonest 17 = .ok (.iconst 1, 1) := by decide +kernel
theorem dX9_soonest_18 : decode cX9_soonest 18 = .ok (.invokestatic 104, 3) := by decide +kernel
theorem dX9_soonest_21 : decode cX9_soonest 21 = .ok (.ifCond .ne 9, 3) := by decide +kernel
theorem dX9_soonest_24 : decode cX9_soonest 24 = .ok (.aload_n 0, 1) := by decide +kernel
theorem dX9_soonest_25 : decode cX9_soonest 25 = .ok (.iconst 1, 1) := by decide +kernel
theorem dX9_soonest_26 : decode cX9_soonest 26 = .ok (.invokevirtual 80, 3) := by decide +kernel
theorem dX9_soonest_29 : decode cX9_soonest 29 = .ok (.ireturn, 1) := by decide +kernel
theorem dX9_soonest_30 : decode cX9_soonest 30 = .ok (.iconst 0, 1) := by decide +kernel
theorem dX9_soonest_31 : decode cX9_soonest 31 = .ok (.istore 4, 2) := by decide +kernel
theorem dX9_soonest_33 : decode cX9_soonest 33 = .ok (.iconst (-1), 1) := by decide +kernel
theorem dX9_soonest_34 : decode cX9_soonest 34 = .ok (.istore 5, 2) := by decide +kernel
theorem dX9_soonest_36 : decode cX9_soonest 36 = .ok (.iconst 0, 1) := by decide +kernel
theorem dX9_soonest_37 : decode cX9_soonest 37 = .ok (.istore 6, 2) := by decide +kernel
theorem dX9_soonest_39 : decode cX9_soonest 39 = .ok (.iload 6, 2) := by decide +kernel
theorem dX9_soonest_41 : decode cX9_soonest 41 = .ok (.bipush 18, 2) := by decide +kernel
theorem dX9_soonest_43 : decode cX9_soonest 43 = .ok (.if_icmp .gt 61, 3) := by decide +kernel
theorem dX9_soonest_46 : decode cX9_soonest 46 = .ok (.aload_n 0, 1) := by decide +kernel
theorem dX9_soonest_47 : decode cX9_soonest 47 = .ok (.getfield 37, 3) := by decide +kernel
theorem dX9_soonest_50 : decode cX9_soonest 50 = .ok (.aload_n 0, 1) := by decide +kernel
theorem dX9_soonest_51 : decode cX9_soonest 51 = .ok (.getfield 10, 3) := by decide +kernel
theorem dX9_soonest_54 : decode cX9_soonest 54 = .ok (.getfield 88, 3) := by decide +kernel
theorem dX9_soonest_57 : decode cX9_soonest 57 = .ok (.iload_n 1, 1) := by decide +kernel
theorem dX9_soonest_58 : decode cX9_soonest 58 = .ok (.aaload, 1) := by decide +kernel
theorem dX9_soonest_59 : decode cX9_soonest 59 = .ok (.iload_n 2, 1) := by decide +kernel
theorem dX9_soonest_60 : decode cX9_soonest 60 = .ok (.iload 6, 2) := by decide +kernel
theorem dX9_soonest_62 : decode cX9_soonest 62 = .ok (.invokestatic 237, 3) := by decide +kernel
theorem dX9_soonest_65 : decode cX9_soonest 65 = .ok (.invokevirtual 233, 3) := by decide +kernel
theorem dX9_soonest_68 : decode cX9_soonest 68 = .ok (.istore 7, 2) := by decide +kernel
theorem dX9_soonest_70 : decode cX9_soonest 70 = .ok (.iload 7, 2) := by decide +kernel
theorem dX9_soonest_72 : decode cX9_soonest 72 = .ok (.ifCond .lt 26, 3) := by decide +kernel
theorem dX9_soonest_75 : decode cX9_soonest 75 = .ok (.iload 5, 2) := by decide +kernel
theorem dX9_soonest_77 : decode cX9_soonest 77 = .ok (.ifCond .lt 10, 3) := by decide +kernel
theorem dX9_soonest_80 : decode cX9_soonest 80 = .ok (.iload 7, 2) := by decide +kernel
theorem dX9_soonest_82 : decode cX9_soonest 82 = .ok (.iload 5, 2) := by decide +kernel
theorem dX9_soonest_84 : decode cX9_soonest 84 = .ok (.if_icmp .ge 14, 3) := by decide +kernel
theorem dX9_soonest_87 : decode cX9_soonest 87 = .ok (.iload 6, 2) := by decide +kernel
theorem dX9_soonest_89 : decode cX9_soonest 89 = .ok (.invokestatic 237, 3) := by decide +kernel
theorem dX9_soonest_92 : decode cX9_soonest 92 = .ok (.istore 4, 2) := by decide +kernel
theorem dX9_soonest_94 : decode cX9_soonest 94 = .ok (.iload 7, 2) := by decide +kernel
theorem dX9_soonest_96 : decode cX9_soonest 96 = .ok (.istore 5, 2) := by decide +kernel
theorem dX9_soonest_98 : decode cX9_soonest 98 = .ok (.iinc 6 1, 3) := by decide +kernel
theorem dX9_soonest_101 : decode cX9_soonest 101 = .ok (.goto (-62), 3) := by decide +kernel
theorem dX9_soonest_104 : decode cX9_soonest 104 = .ok (.iload 5, 2) := by decide +kernel
theorem dX9_soonest_106 : decode cX9_soonest 106 = .ok (.ifCond .ge 9, 3) := by decide +kernel
theorem dX9_soonest_109 : decode cX9_soonest 109 = .ok (.aload_n 0, 1) := by decide +kernel
theorem dX9_soonest_110 : decode cX9_soonest 110 = .ok (.iconst 2, 1) := by decide +kernel
theorem dX9_soonest_111 : decode cX9_soonest 111 = .ok (.invokevirtual 80, 3) := by decide +kernel
theorem dX9_soonest_114 : decode cX9_soonest 114 = .ok (.ireturn, 1) := by decide +kernel
theorem dX9_soonest_115 : decode cX9_soonest 115 = .ok (.iload_n 3, 1) := by decide +kernel
theorem dX9_soonest_116 : decode cX9_soonest 116 = .ok (.ifCond .ne 8, 3) := by decide +kernel
theorem dX9_soonest_119 : decode cX9_soonest 119 = .ok (.iload 4, 2) := by decide +kernel
theorem dX9_soonest_121 : decode cX9_soonest 121 = .ok (.goto 5, 3) := by decide +kernel
theorem dX9_soonest_124 : decode cX9_soonest 124 = .ok (.iload 5, 2) := by decide +kernel
theorem dX9_soonest_126 : decode cX9_soonest 126 = .ok (.ireturn, 1) := by decide +kernel
theorem dX9_least_0 : decode cX9_least 0 = .ok (.aload_n 0, 1) := by decide +kernel
theorem dX9_least_1 : decode cX9_least 1 = .ok (.iload_n 1, 1) := by decide +kernel
theorem dX9_least_2 : decode cX9_least 2 = .ok (.invokevirtual 101, 3) := by decide +kernel
theorem dX9_least_5 : decode cX9_least 5 = .ok (.ifCond .eq 10, 3) := by decide +kernel
theorem dX9_least_8 : decode cX9_least 8 = .ok (.iload_n 2, 1) := by decide +kernel
theorem dX9_least_9 : decode cX9_least 9 = .ok (.invokestatic 160, 3) := by decide +kernel
theorem dX9_least_12 : decode cX9_least 12 = .ok (.ifCond .ne 9, 3) := by decide +kernel
theorem dX9_least_15 : decode cX9_least 15 = .ok (.aload_n 0, 1) := by decide +kernel
theorem dX9_least_16 : decode cX9_least 16 = .ok (.iconst 1, 1) := by decide +kernel
theorem dX9_least_17 : decode cX9_least 17 = .ok (.invokevirtual 80, 3) := by decide +kernel
theorem dX9_least_20 : decode cX9_least 20 = .ok (.ireturn, 1) := by decide +kernel
theorem dX9_least_21 : decode cX9_least 21 = .ok (.iconst 0, 1) := by decide +kernel
theorem dX9_least_22 : decode cX9_least 22 = .ok (.istore_n 3, 1) := by decide +kernel
theorem dX9_least_23 : decode cX9_least 23 = .ok (.iload_n 3, 1) := by decide +kernel
theorem dX9_least_24 : decode cX9_least 24 = .ok (.bipush 18, 2) := by decide +kernel
theorem dX9_least_26 : decode cX9_least 26 = .ok (.if_icmp .gt 38, 3) := by decide +kernel
theorem dX9_least_29 : decode cX9_least 29 = .ok (.aload_n 0, 1) := by decide +kernel
theorem dX9_least_30 : decode cX9_least 30 = .ok (.getfield 37, 3) := by decide +kernel
theorem dX9_least_33 : decode cX9_least 33 = .ok (.aload_n 0, 1) := by decide +kernel
theorem dX9_least_34 : decode cX9_least 34 = .ok (.getfield 10, 3) := by decide +kernel
theorem dX9_least_37 : decode cX9_least 37 = .ok (.getfield 88, 3) := by decide +kernel
theorem dX9_least_40 : decode cX9_least 40 = .ok (.iload_n 1, 1) := by decide +kernel
theorem dX9_least_41 : decode cX9_least 41 = .ok (.aaload, 1) := by decide +kernel
theorem dX9_least_42 : decode cX9_least 42 = .ok (.iload_n 2, 1) := by decide +kernel
theorem dX9_least_43 : decode cX9_least 43 = .ok (.iload_n 3, 1) := by decide +kernel
theorem dX9_least_44 : decode cX9_least 44 = .ok (.invokestatic 237, 3) := by decide +kernel
theorem dX9_least_47 : decode cX9_least 47 = .ok (.invokevirtual 233, 3) := by decide +kernel
theorem dX9_least_50 : decode cX9_least 50 = .ok (.ifCond .lt 8, 3) := by decide +kernel
theorem dX9_least_53 : decode cX9_least 53 = .ok (.iload_n 3, 1) := by decide +kernel
theorem dX9_least_54 : decode cX9_least 54 = .ok (.invokestatic 237, 3) := by decide +kernel
theorem dX9_least_57 : decode cX9_least 57 = .ok (.ireturn, 1) := by decide +kernel
theorem dX9_least_58 : decode cX9_least 58 = .ok (.iinc 3 1, 3) := by decide +kernel
theorem dX9_least_61 : decode cX9_least 61 = .ok (.goto (-38), 3) := by decide +kernel
theorem dX9_least_64 : decode cX9_least 64 = .ok (.aload_n 0, 1) := by decide +kernel
theorem dX9_least_65 : decode cX9_least 65 = .ok (.iconst 2, 1) := by decide +kernel
theorem dX9_least_66 : decode cX9_least 66 = .ok (.invokevirtual 80, 3) := by decide +kernel
theorem dX9_least_69 : decode cX9_least 69 = .ok (.ireturn, 1) := by decide +kernel
theorem dX9_lifts_0 : decode cX9_lifts 0 = .ok (.iload_n 1, 1) := by decide +kernel
theorem dX9_lifts_1 : decode cX9_lifts 1 = .ok (.bipush (-2), 2) := by decide +kernel
theorem dX9_lifts_3 : decode cX9_lifts 3 = .ok (.aload_n 0, 1) := by decide +kernel
theorem dX9_lifts_4 : decode cX9_lifts 4 = .ok (.getfield 10, 3) := by decide +kernel
theorem dX9_lifts_7 : decode cX9_lifts 7 = .ok (.getfield 84, 3) := by decide +kernel
theorem dX9_lifts_10 : decode cX9_lifts 10 = .ok (.iconst 1, 1) := by decide +kernel
theorem dX9_lifts_11 : decode cX9_lifts 11 = .ok (.isub, 1) := by decide +kernel
theorem dX9_lifts_12 : decode cX9_lifts 12 = .ok (.invokestatic 104, 3) := by decide +kernel
theorem dX9_lifts_15 : decode cX9_lifts 15 = .ok (.ifCond .ne 9, 3) := by decide +kernel
theorem dX9_lifts_18 : decode cX9_lifts 18 = .ok (.aload_n 0, 1) := by decide +kernel
theorem dX9_lifts_19 : decode cX9_lifts 19 = .ok (.iconst 1, 1) := by decide +kernel
theorem dX9_lifts_20 : decode cX9_lifts 20 = .ok (.invokevirtual 80, 3) := by decide +kernel
theorem dX9_lifts_23 : decode cX9_lifts 23 = .ok (.ireturn, 1) := by decide +kernel
theorem dX9_lifts_24 : decode cX9_lifts 24 = .ok (.aload_n 0, 1) := by decide +kernel
theorem dX9_lifts_25 : decode cX9_lifts 25 = .ok (.getfield 51, 3) := by decide +kernel
theorem dX9_lifts_28 : decode cX9_lifts 28 = .ok (.aload_n 0, 1) := by decide +kernel
theorem dX9_lifts_29 : decode cX9_lifts 29 = .ok (.getfield 10, 3) := by decide +kernel
theorem dX9_lifts_32 : decode cX9_lifts 32 = .ok (.invokevirtual 240, 3) := by decide +kernel
theorem dX9_lifts_35 : decode cX9_lifts 35 = .ok (.iload_n 1, 1) := by decide +kernel
theorem dX9_lifts_36 : decode cX9_lifts 36 = .ok (.bipush (-2), 2) := by decide +kernel
theorem dX9_lifts_38 : decode cX9_lifts 38 = .ok (.if_icmp .ne 11, 3) := by decide +kernel
theorem dX9_lifts_41 : decode cX9_lifts 41 = .ok (.aload_n 0, 1) := by decide +kernel
theorem dX9_lifts_42 : decode cX9_lifts 42 = .ok (.getfield 51, 3) := by decide +kernel
theorem dX9_lifts_45 : decode cX9_lifts 45 = .ok (.getfield 243, 3) := by decide +kernel
theorem dX9_lifts_48 : decode cX9_lifts 48 = .ok (.ireturn, 1) := by decide +kernel
theorem dX9_lifts_49 : decode cX9_lifts 49 = .ok (.iload_n 1, 1) := by decide +kernel
theorem dX9_lifts_50 : decode cX9_lifts 50 = .ok (.iconst (-1), 1) := by decide +kernel
theorem dX9_lifts_51 : decode cX9_lifts 51 = .ok (.if_icmp .ne 13, 3) := by decide +kernel
theorem dX9_lifts_54 : decode cX9_lifts 54 = .ok (.aload_n 0, 1) := by decide +kernel
theorem dX9_lifts_55 : decode cX9_lifts 55 = .ok (.getfield 51, 3) := by decide +kernel
theorem dX9_lifts_58 : decode cX9_lifts 58 = .ok (.getfield 246, 3) := by decide +kernel
theorem dX9_lifts_61 : decode cX9_lifts 61 = .ok (.goto 12, 3) := by decide +kernel
theorem dX9_lifts_64 : decode cX9_lifts 64 = .ok (.aload_n 0, 1) := by decide +kernel
theorem dX9_lifts_65 : decode cX9_lifts 65 = .ok (.getfield 51, 3) := by decide +kernel
theorem dX9_lifts_68 : decode cX9_lifts 68 = .ok (.getfield 249, 3) := by decide +kernel
theorem dX9_lifts_71 : decode cX9_lifts 71 = .ok (.iload_n 1, 1) := by decide +kernel
theorem dX9_lifts_72 : decode cX9_lifts 72 = .ok (.iaload, 1) := by decide +kernel
theorem dX9_lifts_73 : decode cX9_lifts 73 = .ok (.ireturn, 1) := by decide +kernel
theorem dX9_rolled_0 : decode cX9_rolled 0 = .ok (.aload_n 0, 1) := by decide +kernel
theorem dX9_rolled_1 : decode cX9_rolled 1 = .ok (.iload_n 1, 1) := by decide +kernel
theorem dX9_rolled_2 : decode cX9_rolled 2 = .ok (.invokevirtual 101, 3) := by decide +kernel
theorem dX9_rolled_5 : decode cX9_rolled 5 = .ok (.ifCond .eq 19, 3) := by decide +kernel
theorem dX9_rolled_8 : decode cX9_rolled 8 = .ok (.iload_n 2, 1) := by decide +kernel
theorem dX9_rolled_9 : decode cX9_rolled 9 = .ok (.invokestatic 252, 3) := by decide +kernel
theorem dX9_rolled_12 : decode cX9_rolled 12 = .ok (.ifCond .eq 12, 3) := by decide +kernel
theorem dX9_rolled_15 : decode cX9_rolled 15 = .ok (.iload_n 3, 1) := by decide +kernel
theorem dX9_rolled_16 : decode cX9_rolled 16 = .ok (.iconst 0, 1) := by decide +kernel
theorem dX9_rolled_17 : decode cX9_rolled 17 = .ok (.iconst 1, 1) := by decide +kernel
theorem dX9_rolled_18 : decode cX9_rolled 18 = .ok (.invokestatic 104, 3) := by decide +kernel
theorem dX9_rolled_21 : decode cX9_rolled 21 = .ok (.ifCond .ne 9, 3) := by decide +kernel
theorem dX9_rolled_24 : decode cX9_rolled 24 = .ok (.aload_n 0, 1) := by decide +kernel
theorem dX9_rolled_25 : decode cX9_rolled 25 = .ok (.iconst 1, 1) := by decide +kernel
theorem dX9_rolled_26 : decode cX9_rolled 26 = .ok (.invokevirtual 80, 3) := by decide +kernel
theorem dX9_rolled_29 : decode cX9_rolled 29 = .ok (.ireturn, 1) := by decide +kernel
theorem dX9_rolled_30 : decode cX9_rolled 30 = .ok (.aload_n 0, 1) := by decide +kernel
theorem dX9_rolled_31 : decode cX9_rolled 31 = .ok (.getfield 64, 3) := by decide +kernel
theorem dX9_rolled_34 : decode cX9_rolled 34 = .ok (.iload_n 2, 1) := by decide +kernel
theorem dX9_rolled_35 : decode cX9_rolled 35 = .ok (.aaload, 1) := by decide +kernel
theorem dX9_rolled_36 : decode cX9_rolled 36 = .ok (.invokevirtual 255, 3) := by decide +kernel
theorem dX9_rolled_39 : decode cX9_rolled 39 = .ok (.ifCond .eq 9, 3) := by decide +kernel
theorem dX9_rolled_42 : decode cX9_rolled 42 = .ok (.aload_n 0, 1) := by decide +kernel
theorem dX9_rolled_43 : decode cX9_rolled 43 = .ok (.iconst 2, 1) := by decide +kernel
theorem dX9_rolled_44 : decode cX9_rolled 44 = .ok (.invokevirtual 80, 3) := by decide +kernel
theorem dX9_rolled_47 : decode cX9_rolled 47 = .ok (.ireturn, 1) := by decide +kernel
theorem dX9_rolled_48 : decode cX9_rolled 48 = .ok (.iconst 0, 1) := by decide +kernel
theorem dX9_rolled_49 : decode cX9_rolled 49 = .ok (.istore 4, 2) := by decide +kernel
theorem dX9_rolled_51 : decode cX9_rolled 51 = .ok (.iconst 0, 1) := by decide +kernel
theorem dX9_rolled_52 : decode cX9_rolled 52 = .ok (.istore 5, 2) := by decide +kernel
theorem dX9_rolled_54 : decode cX9_rolled 54 = .ok (.bipush (-9), 2) := by decide +kernel
theorem dX9_rolled_56 : decode cX9_rolled 56 = .ok (.istore 6, 2) := by decide +kernel
theorem dX9_rolled_58 : decode cX9_rolled 58 = .ok (.iload 6, 2) := by decide +kernel
theorem dX9_rolled_60 : decode cX9_rolled 60 = .ok (.bipush 9, 2) := by decide +kernel
theorem dX9_rolled_62 : decode cX9_rolled 62 = .ok (.if_icmp .gt 53, 3) := by decide +kernel
theorem dX9_rolled_65 : decode cX9_rolled 65 = .ok (.aload_n 0, 1) := by decide +kernel
theorem dX9_rolled_66 : decode cX9_rolled 66 = .ok (.getfield 37, 3) := by decide +kernel
theorem dX9_rolled_69 : decode cX9_rolled 69 = .ok (.aload_n 0, 1) := by decide +kernel
theorem dX9_rolled_70 : decode cX9_rolled 70 = .ok (.getfield 10, 3) := by decide +kernel
theorem dX9_rolled_73 : decode cX9_rolled 73 = .ok (.getfield 88, 3) := by decide +kernel
theorem dX9_rolled_76 : decode cX9_rolled 76 = .ok (.iload_n 1, 1) := by decide +kernel
theorem dX9_rolled_77 : decode cX9_rolled 77 = .ok (.aaload, 1) := by decide +kernel
theorem dX9_rolled_78 : decode cX9_rolled 78 = .ok (.iload 6, 2) := by decide +kernel
theorem dX9_rolled_80 : decode cX9_rolled 80 = .ok (.aload_n 0, 1) := by decide +kernel
theorem dX9_rolled_81 : decode cX9_rolled 81 = .ok (.getfield 64, 3) := by decide +kernel
theorem dX9_rolled_84 : decode cX9_rolled 84 = .ok (.iload_n 2, 1) := by decide +kernel
theorem dX9_rolled_85 : decode cX9_rolled 85 = .ok (.aaload, 1) := by decide +kernel
theorem dX9_rolled_86 : decode cX9_rolled 86 = .ok (.invokevirtual 259, 3) := by decide +kernel
theorem dX9_rolled_89 : decode cX9_rolled 89 = .ok (.ifCond .eq 20, 3) := by decide +kernel
theorem dX9_rolled_92 : decode cX9_rolled 92 = .ok (.iload 5, 2) := by decide +kernel
theorem dX9_rolled_94 : decode cX9_rolled 94 = .ok (.ifCond .ne 8, 3) := by decide +kernel
theorem dX9_rolled_97 : decode cX9_rolled 97 = .ok (.iload 6, 2) := by decide +kernel
theorem dX9_rolled_99 : decode cX9_rolled 99 = .ok (.goto 5, 3) := by decide +kernel
theorem dX9_rolled_102 : decode cX9_rolled 102 = .ok (.iload 4, 2) := by decide +kernel
theorem dX9_rolled_104 : decode cX9_rolled 104 = .ok (.istore 4, 2) := by decide +kernel
theorem dX9_rolled_106 : decode cX9_rolled 106 = .ok (.iinc 5 1, 3) := by decide +kernel
theorem dX9_rolled_109 : decode cX9_rolled 109 = .ok (.iinc 6 1, 3) := by decide +kernel
theorem dX9_rolled_112 : decode cX9_rolled 112 = .ok (.goto (-54), 3) := by decide +kernel
theorem dX9_rolled_115 : decode cX9_rolled 115 = .ok (.iload 5, 2) := by decide +kernel
theorem dX9_rolled_117 : decode cX9_rolled 117 = .ok (.ifCond .ne 9, 3) := by decide +kernel
theorem dX9_rolled_120 : decode cX9_rolled 120 = .ok (.aload_n 0, 1) := by decide +kernel
theorem dX9_rolled_121 : decode cX9_rolled 121 = .ok (.iconst 2, 1) := by decide +kernel
theorem dX9_rolled_122 : decode cX9_rolled 122 = .ok (.invokevirtual 80, 3) := by decide +kernel
theorem dX9_rolled_125 : decode cX9_rolled 125 = .ok (.ireturn, 1) := by decide +kernel
theorem dX9_rolled_126 : decode cX9_rolled 126 = .ok (.iload_n 3, 1) := by decide +kernel
theorem dX9_rolled_127 : decode cX9_rolled 127 = .ok (.ifCond .ne 8, 3) := by decide +kernel
theorem dX9_rolled_130 : decode cX9_rolled 130 = .ok (.iload 4, 2) := by decide +kernel
theorem dX9_rolled_132 : decode cX9_rolled 132 = .ok (.goto 5, 3) := by decide +kernel
theorem dX9_rolled_135 : decode cX9_rolled 135 = .ok (.iload 5, 2) := by decide +kernel
theorem dX9_rolled_137 : decode cX9_rolled 137 = .ok (.ireturn, 1) := by decide +kernel
theorem dX9_whose_0 : decode cX9_whose 0 = .ok (.aload_n 0, 1) := by decide +kernel
theorem dX9_whose_1 : decode cX9_whose 1 = .ok (.iload_n 1, 1) := by decide +kernel
theorem dX9_whose_2 : decode cX9_whose 2 = .ok (.invokevirtual 101, 3) := by decide +kernel
theorem dX9_whose_5 : decode cX9_whose 5 = .ok (.ifCond .eq 10, 3) := by decide +kernel
theorem dX9_whose_8 : decode cX9_whose 8 = .ok (.iload_n 2, 1) := by decide +kernel
theorem dX9_whose_9 : decode cX9_whose 9 = .ok (.invokestatic 252, 3) := by decide +kernel
theorem dX9_whose_12 : decode cX9_whose 12 = .ok (.ifCond .ne 9, 3) := by decide +kernel
theorem dX9_whose_15 : decode cX9_whose 15 = .ok (.aload_n 0, 1) := by decide +kernel
theorem dX9_whose_16 : decode cX9_whose 16 = .ok (.iconst 1, 1) := by decide +kernel
theorem dX9_whose_17 : decode cX9_whose 17 = .ok (.invokevirtual 80, 3) := by decide +kernel
theorem dX9_whose_20 : decode cX9_whose 20 = .ok (.ireturn, 1) := by decide +kernel
theorem dX9_whose_21 : decode cX9_whose 21 = .ok (.aload_n 0, 1) := by decide +kernel
theorem dX9_whose_22 : decode cX9_whose 22 = .ok (.getfield 64, 3) := by decide +kernel
theorem dX9_whose_25 : decode cX9_whose 25 = .ok (.iload_n 2, 1) := by decide +kernel
theorem dX9_whose_26 : decode cX9_whose 26 = .ok (.aaload, 1) := by decide +kernel
theorem dX9_whose_27 : decode cX9_whose 27 = .ok (.invokevirtual 255, 3) := by decide +kernel
theorem dX9_whose_30 : decode cX9_whose 30 = .ok (.ifCond .eq 9, 3) := by decide +kernel
theorem dX9_whose_33 : decode cX9_whose 33 = .ok (.aload_n 0, 1) := by decide +kernel
theorem dX9_whose_34 : decode cX9_whose 34 = .ok (.iconst 2, 1) := by decide +kernel
theorem dX9_whose_35 : decode cX9_whose 35 = .ok (.invokevirtual 80, 3) := by decide +kernel
theorem dX9_whose_38 : decode cX9_whose 38 = .ok (.ireturn, 1) := by decide +kernel
theorem dX9_whose_39 : decode cX9_whose 39 = .ok (.iconst 0, 1) := by decide +kernel
theorem dX9_whose_40 : decode cX9_whose 40 = .ok (.istore_n 3, 1) := by decide +kernel
theorem dX9_whose_41 : decode cX9_whose 41 = .ok (.iload_n 3, 1) := by decide +kernel
theorem dX9_whose_42 : decode cX9_whose 42 = .ok (.bipush 7, 2) := by decide +kernel
theorem dX9_whose_44 : decode cX9_whose 44 = .ok (.if_icmp .ge 37, 3) := by decide +kernel
theorem dX9_whose_47 : decode cX9_whose 47 = .ok (.aload_n 0, 1) := by decide +kernel
theorem dX9_whose_48 : decode cX9_whose 48 = .ok (.getfield 37, 3) := by decide +kernel
theorem dX9_whose_51 : decode cX9_whose 51 = .ok (.aload_n 0, 1) := by decide +kernel
theorem dX9_whose_52 : decode cX9_whose 52 = .ok (.getfield 10, 3) := by decide +kernel
theorem dX9_whose_55 : decode cX9_whose 55 = .ok (.getfield 88, 3) := by decide +kernel
theorem dX9_whose_58 : decode cX9_whose 58 = .ok (.iload_n 1, 1) := by decide +kernel
theorem dX9_whose_59 : decode cX9_whose 59 = .ok (.aaload, 1) := by decide +kernel
theorem dX9_whose_60 : decode cX9_whose 60 = .ok (.iload_n 3, 1) := by decide +kernel
theorem dX9_whose_61 : decode cX9_whose 61 = .ok (.aload_n 0, 1) := by decide +kernel
theorem dX9_whose_62 : decode cX9_whose 62 = .ok (.getfield 64, 3) := by decide +kernel
theorem dX9_whose_65 : decode cX9_whose 65 = .ok (.iload_n 2, 1) := by decide +kernel
theorem dX9_whose_66 : decode cX9_whose 66 = .ok (.aaload, 1) := by decide +kernel
theorem dX9_whose_67 : decode cX9_whose 67 = .ok (.invokevirtual 263, 3) := by decide +kernel
theorem dX9_whose_70 : decode cX9_whose 70 = .ok (.ifCond .eq 5, 3) := by decide +kernel
theorem dX9_whose_73 : decode cX9_whose 73 = .ok (.iload_n 3, 1) := by decide +kernel
theorem dX9_whose_74 : decode cX9_whose 74 = .ok (.ireturn, 1) := by decide +kernel
theorem dX9_whose_75 : decode cX9_whose 75 = .ok (.iinc 3 1, 3) := by decide +kernel
theorem dX9_whose_78 : decode cX9_whose 78 = .ok (.goto (-37), 3) := by decide +kernel
theorem dX9_whose_81 : decode cX9_whose 81 = .ok (.aload_n 0, 1) := by decide +kernel
theorem dX9_whose_82 : decode cX9_whose 82 = .ok (.iconst 2, 1) := by decide +kernel
theorem dX9_whose_83 : decode cX9_whose 83 = .ok (.invokevirtual 80, 3) := by decide +kernel
theorem dX9_whose_86 : decode cX9_whose 86 = .ok (.ireturn, 1) := by decide +kernel
theorem dX9_odds_0 : decode cX9_odds 0 = .ok (.aload_n 0, 1) := by decide +kernel
theorem dX9_odds_1 : decode cX9_odds 1 = .ok (.iload_n 1, 1) := by decide +kernel
theorem dX9_odds_2 : decode cX9_odds 2 = .ok (.invokevirtual 101, 3) := by decide +kernel
theorem dX9_odds_5 : decode cX9_odds 5 = .ok (.ifCond .eq 29, 3) := by decide +kernel
theorem dX9_odds_8 : decode cX9_odds 8 = .ok (.iload_n 2, 1) := by decide +kernel
theorem dX9_odds_9 : decode cX9_odds 9 = .ok (.invokestatic 160, 3) := by decide +kernel
theorem dX9_odds_12 : decode cX9_odds 12 = .ok (.ifCond .eq 22, 3) := by decide +kernel
theorem dX9_odds_15 : decode cX9_odds 15 = .ok (.iload_n 3, 1) := by decide +kernel
theorem dX9_odds_16 : decode cX9_odds 16 = .ok (.iconst 0, 1) := by decide +kernel
theorem dX9_odds_17 : decode cX9_odds 17 = .ok (.iconst 5, 1) := by decide +kernel
theorem dX9_odds_18 : decode cX9_odds 18 = .ok (.invokestatic 104, 3) := by decide +kernel
theorem dX9_odds_21 : decode cX9_odds 21 = .ok (.ifCond .eq 13, 3) := by decide +kernel
theorem dX9_odds_24 : decode cX9_odds 24 = .ok (.iload 4, 2) := by decide +kernel
theorem dX9_odds_26 : decode cX9_odds 26 = .ok (.iconst 0, 1) := by decide +kernel
theorem dX9_odds_27 : decode cX9_odds 27 = .ok (.iconst 1, 1) := by decide +kernel
theorem dX9_odds_28 : decode cX9_odds 28 = .ok (.invokestatic 104, 3) := by decide +kernel
theorem dX9_odds_31 : decode cX9_odds 31 = .ok (.ifCond .ne 9, 3) := by decide +kernel
theorem dX9_odds_34 : decode cX9_odds 34 = .ok (.aload_n 0, 1) := by decide +kernel
theorem dX9_odds_35 : decode cX9_odds 35 = .ok (.iconst 1, 1) := by decide +kernel
theorem dX9_odds_36 : decode cX9_odds 36 = .ok (.invokevirtual 80, 3) := by decide +kernel
theorem dX9_odds_39 : decode cX9_odds 39 = .ok (.ireturn, 1) := by decide +kernel
theorem dX9_odds_40 : decode cX9_odds 40 = .ok (.iconst 1, 1) := by decide +kernel
theorem dX9_odds_41 : decode cX9_odds 41 = .ok (.istore 5, 2) := by decide +kernel
theorem dX9_odds_43 : decode cX9_odds 43 = .ok (.iconst 0, 1) := by decide +kernel
theorem dX9_odds_44 : decode cX9_odds 44 = .ok (.istore 6, 2) := by decide +kernel
theorem dX9_odds_46 : decode cX9_odds 46 = .ok (.iload 6, 2) := by decide +kernel
theorem dX9_odds_48 : decode cX9_odds 48 = .ok (.iload_n 3, 1) := by decide +kernel
theorem dX9_odds_49 : decode cX9_odds 49 = .ok (.if_icmp .ge 15, 3) := by decide +kernel
theorem dX9_odds_52 : decode cX9_odds 52 = .ok (.iload 5, 2) := by decide +kernel
theorem dX9_odds_54 : decode cX9_odds 54 = .ok (.iconst 3, 1) := by decide +kernel
theorem dX9_odds_55 : decode cX9_odds 55 = .ok (.imul, 1) := by decide +kernel
theorem dX9_odds_56 : decode cX9_odds 56 = .ok (.istore 5, 2) := by decide +kernel
theorem dX9_odds_58 : decode cX9_odds 58 = .ok (.iinc 6 1, 3) := by decide +kernel
theorem dX9_odds_61 : decode cX9_odds 61 = .ok (.goto (-15), 3) := by decide +kernel
theorem dX9_odds_64 : decode cX9_odds 64 = .ok (.aload_n 0, 1) := by decide +kernel
theorem dX9_odds_65 : decode cX9_odds 65 = .ok (.getfield 37, 3) := by decide +kernel
theorem dX9_odds_68 : decode cX9_odds 68 = .ok (.aload_n 0, 1) := by decide +kernel
theorem dX9_odds_69 : decode cX9_odds 69 = .ok (.getfield 10, 3) := by decide +kernel
theorem dX9_odds_72 : decode cX9_odds 72 = .ok (.getfield 88, 3) := by decide +kernel
theorem dX9_odds_75 : decode cX9_odds 75 = .ok (.iload_n 1, 1) := by decide +kernel
theorem dX9_odds_76 : decode cX9_odds 76 = .ok (.aaload, 1) := by decide +kernel
theorem dX9_odds_77 : decode cX9_odds 77 = .ok (.iload_n 2, 1) := by decide +kernel
theorem dX9_odds_78 : decode cX9_odds 78 = .ok (.iload_n 3, 1) := by decide +kernel
theorem dX9_odds_79 : decode cX9_odds 79 = .ok (.iload 5, 2) := by decide +kernel
theorem dX9_odds_81 : decode cX9_odds 81 = .ok (.invokevirtual 266, 3) := by decide +kernel
theorem dX9_odds_84 : decode cX9_odds 84 = .ok (.istore 6, 2) := by decide +kernel
theorem dX9_odds_86 : decode cX9_odds 86 = .ok (.iconst 0, 1) := by decide +kernel
theorem dX9_odds_87 : decode cX9_odds 87 = .ok (.istore 7, 2) := by decide +kernel
theorem dX9_odds_89 : decode cX9_odds 89 = .ok (.iload 7, 2) := by decide +kernel
theorem dX9_odds_91 : decode cX9_odds 91 = .ok (.iload_n 3, 1) := by decide +kernel
theorem dX9_odds_92 : decode cX9_odds 92 = .ok (.if_icmp .ge 28, 3) := by decide +kernel
theorem dX9_odds_95 : decode cX9_odds 95 = .ok (.iload 6, 2) := by decide +kernel
theorem dX9_odds_97 : decode cX9_odds 97 = .ok (.iconst 3, 1) := by decide +kernel
theorem dX9_odds_98 : decode cX9_odds 98 = .ok (.irem, 1) := by decide +kernel
theorem dX9_odds_99 : decode cX9_odds 99 = .ok (.ifCond .ne 21, 3) := by decide +kernel
theorem dX9_odds_102 : decode cX9_odds 102 = .ok (.iload 6, 2) := by decide +kernel
theorem dX9_odds_104 : decode cX9_odds 104 = .ok (.iconst 3, 1) := by decide +kernel
theorem dX9_odds_105 : decode cX9_odds 105 = .ok (.idiv, 1) := by decide +kernel
theorem dX9_odds_106 : decode cX9_odds 106 = .ok (.istore 6, 2) := by decide +kernel
theorem dX9_odds_108 : decode cX9_odds 108 = .ok (.iload 5, 2) := by decide +kernel
theorem dX9_odds_110 : decode cX9_odds 110 = .ok (.iconst 3, 1) := by decide +kernel
theorem dX9_odds_111 : decode cX9_odds 111 = .ok (.idiv, 1) := by decide +kernel
theorem dX9_odds_112 : decode cX9_odds 112 = .ok (.istore 5, 2) := by decide +kernel
theorem dX9_odds_114 : decode cX9_odds 114 = .ok (.iinc 7 1, 3) := by decide +kernel
theorem dX9_odds_117 : decode cX9_odds 117 = .ok (.goto (-28), 3) := by decide +kernel
theorem dX9_odds_120 : decode cX9_odds 120 = .ok (.iload 4, 2) := by decide +kernel
theorem dX9_odds_122 : decode cX9_odds 122 = .ok (.ifCond .ne 8, 3) := by decide +kernel
theorem dX9_odds_125 : decode cX9_odds 125 = .ok (.iload 6, 2) := by decide +kernel
theorem dX9_odds_127 : decode cX9_odds 127 = .ok (.goto 5, 3) := by decide +kernel
theorem dX9_odds_130 : decode cX9_odds 130 = .ok (.iload 5, 2) := by decide +kernel
theorem dX9_odds_132 : decode cX9_odds 132 = .ok (.ireturn, 1) := by decide +kernel
theorem dX9_seed_0 : decode cX9_seed 0 = .ok (.aload_n 0, 1) := by decide +kernel
theorem dX9_seed_1 : decode cX9_seed 1 = .ok (.getfield 19, 3) := by decide +kernel
theorem dX9_seed_4 : decode cX9_seed 4 = .ok (.getfield 270, 3) := by decide +kernel
theorem dX9_seed_7 : decode cX9_seed 7 = .ok (.istore_n 2, 1) := by decide +kernel
theorem dX9_seed_8 : decode cX9_seed 8 = .ok (.aload_n 0, 1) := by decide +kernel
theorem dX9_seed_9 : decode cX9_seed 9 = .ok (.getfield 19, 3) := by decide +kernel
theorem dX9_seed_12 : decode cX9_seed 12 = .ok (.iload_n 1, 1) := by decide +kernel
theorem dX9_seed_13 : decode cX9_seed 13 = .ok (.putfield 270, 3) := by decide +kernel
theorem dX9_seed_16 : decode cX9_seed 16 = .ok (.iload_n 2, 1) := by decide +kernel
theorem dX9_seed_17 : decode cX9_seed 17 = .ok (.ireturn, 1) := by decide +kernel
theorem dX9_voice_0 : decode cX9_voice 0 = .ok (.aload_n 0, 1) := by decide +kernel
theorem dX9_voice_1 : decode cX9_voice 1 = .ok (.iload_n 1, 1) := by decide +kernel
theorem dX9_voice_2 : decode cX9_voice 2 = .ok (.invokevirtual 101, 3) := by decide +kernel
theorem dX9_voice_5 : decode cX9_voice 5 = .ok (.ifCond .eq 12, 3) := by decide +kernel
theorem dX9_voice_8 : decode cX9_voice 8 = .ok (.iload_n 2, 1) := by decide +kernel
theorem dX9_voice_9 : decode cX9_voice 9 = .ok (.iconst 0, 1) := by decide +kernel
theorem dX9_voice_10 : decode cX9_voice 10 = .ok (.iconst 3, 1) := by decide +kernel
theorem dX9_voice_11 : decode cX9_voice 11 = .ok (.invokestatic 104, 3) := by decide +kernel
theorem dX9_voice_14 : decode cX9_voice 14 = .ok (.ifCond .ne 9, 3) := by decide +kernel
theorem dX9_voice_17 : decode cX9_voice 17 = .ok (.aload_n 0, 1) := by decide +kernel
theorem dX9_voice_18 : decode cX9_voice 18 = .ok (.iconst 1, 1) := by decide +kernel
theorem dX9_voice_19 : decode cX9_voice 19 = .ok (.invokevirtual 80, 3) := by decide +kernel
theorem dX9_voice_22 : decode cX9_voice 22 = .ok (.ireturn, 1) := by decide +kernel
theorem dX9_voice_23 : decode cX9_voice 23 = .ok (.aload_n 0, 1) := by decide +kernel
theorem dX9_voice_24 : decode cX9_voice 24 = .ok (.getfield 58, 3) := by decide +kernel
theorem dX9_voice_27 : decode cX9_voice 27 = .ok (.aload_n 0, 1) := by decide +kernel
theorem dX9_voice_28 : decode cX9_voice 28 = .ok (.getfield 10, 3) := by decide +kernel
theorem dX9_voice_31 : decode cX9_voice 31 = .ok (.getfield 88, 3) := by decide +kernel
theorem dX9_voice_34 : decode cX9_voice 34 = .ok (.iload_n 1, 1) := by decide +kernel
theorem dX9_voice_35 : decode cX9_voice 35 = .ok (.aaload, 1) := by decide +kernel
theorem dX9_voice_36 : decode cX9_voice 36 = .ok (.iload_n 1, 1) := by decide +kernel
theorem dX9_voice_37 : decode cX9_voice 37 = .ok (.iload_n 2, 1) := by decide +kernel
theorem dX9_voice_38 : decode cX9_voice 38 = .ok (.iload_n 3, 1) := by decide +kernel
theorem dX9_voice_39 : decode cX9_voice 39 = .ok (.invokevirtual 273, 3) := by decide +kernel
theorem dX9_voice_42 : decode cX9_voice 42 = .ok (.ireturn, 1) := by decide +kernel
theorem dX9_trace_0 : decode cX9_trace 0 = .ok (.iload_n 1, 1) := by decide +kernel
theorem dX9_trace_1 : decode cX9_trace 1 = .ok (.iconst 0, 1) := by decide +kernel
theorem dX9_trace_2 : decode cX9_trace 2 = .ok (.aload_n 0, 1) := by decide +kernel
theorem dX9_trace_3 : decode cX9_trace 3 = .ok (.getfield 58, 3) := by decide +kernel
theorem dX9_trace_6 : decode cX9_trace 6 = .ok (.getfield 276, 3) := by decide +kernel
theorem dX9_trace_9 : decode cX9_trace 9 = .ok (.iconst 1, 1) := by decide +kernel
theorem dX9_trace_10 : decode cX9_trace 10 = .ok (.isub, 1) := by decide +kernel
theorem dX9_trace_11 : decode cX9_trace 11 = .ok (.invokestatic 104, 3) := by decide +kernel
theorem dX9_trace_14 : decode cX9_trace 14 = .ok (.ifCond .eq 15, 3) := by decide +kernel
theorem dX9_trace_17 : decode cX9_trace 17 = .ok (.aload_n 0, 1) := by decide +kernel
theorem dX9_trace_18 : decode cX9_trace 18 = .ok (.getfield 58, 3) := by decide +kernel
theorem dX9_trace_21 : decode cX9_trace 21 = .ok (.getfield 279, 3) := by decide +kernel
theorem dX9_trace_24 : decode cX9_trace 24 = .ok (.iload_n 1, 1) := by decide +kernel
theorem dX9_trace_25 : decode cX9_trace 25 = .ok (.iaload, 1) := by decide +kernel
theorem dX9_trace_26 : decode cX9_trace 26 = .ok (.goto 8, 3) := by decide +kernel
theorem dX9_trace_29 : decode cX9_trace 29 = .ok (.aload_n 0, 1) := by decide +kernel
theorem dX9_trace_30 : decode cX9_trace 30 = .ok (.iconst 2, 1) := by decide +kernel
theorem dX9_trace_31 : decode cX9_trace 31 = .ok (.invokevirtual 80, 3) := by decide +kernel
theorem dX9_trace_34 : decode cX9_trace 34 = .ok (.ireturn, 1) := by decide +kernel
theorem dX9_sheet_0 : decode cX9_sheet 0 = .ok (.iload_n 1, 1) := by decide +kernel
theorem dX9_sheet_1 : decode cX9_sheet 1 = .ok (.invokestatic 252, 3) := by decide +kernel
theorem dX9_sheet_4 : decode cX9_sheet 4 = .ok (.ifCond .eq 25, 3) := by decide +kernel
theorem dX9_sheet_7 : decode cX9_sheet 7 = .ok (.iload_n 2, 1) := by decide +kernel
theorem dX9_sheet_8 : decode cX9_sheet 8 = .ok (.ifCond .eq 27, 3) := by decide +kernel
theorem dX9_sheet_11 : decode cX9_sheet 11 = .ok (.iload_n 2, 1) := by decide +kernel
theorem dX9_sheet_12 : decode cX9_sheet 12 = .ok (.bipush 8, 2) := by decide +kernel
theorem dX9_sheet_14 : decode cX9_sheet 14 = .ok (.if_icmp .eq 21, 3) := by decide +kernel
theorem dX9_sheet_17 : decode cX9_sheet 17 = .ok (.iload_n 2, 1) := by decide +kernel
theorem dX9_sheet_18 : decode cX9_sheet 18 = .ok (.bipush 16, 2) := by decide +kernel
theorem dX9_sheet_20 : decode cX9_sheet 20 = .ok (.if_icmp .eq 15, 3) := by decide +kernel
theorem dX9_sheet_23 : decode cX9_sheet 23 = .ok (.iload_n 2, 1) := by decide +kernel
theorem dX9_sheet_24 : decode cX9_sheet 24 = .ok (.bipush 32, 2) := by decide +kernel
theorem dX9_sheet_26 : decode cX9_sheet 26 = .ok (.if_icmp .eq 9, 3) := by decide +kernel
theorem dX9_sheet_29 : decode cX9_sheet 29 = .ok (.aload_n 0, 1) := by decide +kernel
theorem dX9_sheet_30 : decode cX9_sheet 30 = .ok (.iconst 1, 1) := by decide +kernel
theorem dX9_sheet_31 : decode cX9_sheet 31 = .ok (.invokevirtual 80, 3) := by decide +kernel
theorem dX9_sheet_34 : decode cX9_sheet 34 = .ok (.ireturn, 1) := by decide +kernel
theorem dX9_sheet_35 : decode cX9_sheet 35 = .ok (.iload_n 2, 1) := by decide +kernel
theorem dX9_sheet_36 : decode cX9_sheet 36 = .ok (.ifCond .eq 13, 3) := by decide +kernel
theorem dX9_sheet_39 : decode cX9_sheet 39 = .ok (.iload_n 3, 1) := by decide +kernel
theorem dX9_sheet_40 : decode cX9_sheet 40 = .ok (.ifCond .ge 9, 3) := by decide +kernel
theorem dX9_sheet_43 : decode cX9_sheet 43 = .ok (.aload_n 0, 1) := by decide +kernel
theorem dX9_sheet_44 : decode cX9_sheet 44 = .ok (.iconst 3, 1) := by decide +kernel
theorem dX9_sheet_45 : decode cX9_sheet 45 = .ok (.invokevirtual 80, 3) := by decide +kernel
theorem dX9_sheet_48 : decode cX9_sheet 48 = .ok (.ireturn, 1) := by decide +kernel
theorem dX9_sheet_49 : decode cX9_sheet 49 = .ok (.iload_n 2, 1) := by decide +kernel
theorem dX9_sheet_50 : decode cX9_sheet 50 = .ok (.ifCond .eq 15, 3) := by decide +kernel
theorem dX9_sheet_53 : decode cX9_sheet 53 = .ok (.iload_n 3, 1) := by decide +kernel
theorem dX9_sheet_54 : decode cX9_sheet 54 = .ok (.bipush 40, 2) := by decide +kernel
theorem dX9_sheet_56 : decode cX9_sheet 56 = .ok (.if_icmp .le 9, 3) := by decide +kernel
theorem dX9_sheet_59 : decode cX9_sheet 59 = .ok (.aload_n 0, 1) := by decide +kernel
theorem dX9_sheet_60 : decode cX9_sheet 60 = .ok (.iconst 1, 1) := by decide +kernel
theorem dX9_sheet_61 : decode cX9_sheet 61 = .ok (.invokevirtual 80, 3) := by decide +kernel
theorem dX9_sheet_64 : decode cX9_sheet 64 = .ok (.ireturn, 1) := by decide +kernel
theorem dX9_sheet_65 : decode cX9_sheet 65 = .ok (.aload_n 0, 1) := by decide +kernel
theorem dX9_sheet_66 : decode cX9_sheet 66 = .ok (.getfield 64, 3) := by decide +kernel
theorem dX9_sheet_69 : decode cX9_sheet 69 = .ok (.iload_n 1, 1) := by decide +kernel
theorem dX9_sheet_70 : decode cX9_sheet 70 = .ok (.aaload, 1) := by decide +kernel
theorem dX9_sheet_71 : decode cX9_sheet 71 = .ok (.iload_n 2, 1) := by decide +kernel
theorem dX9_sheet_72 : decode cX9_sheet 72 = .ok (.iload_n 2, 1) := by decide +kernel
theorem dX9_sheet_73 : decode cX9_sheet 73 = .ok (.ifCond .ne 7, 3) := by decide +kernel
theorem dX9_sheet_76 : decode cX9_sheet 76 = .ok (.iconst 0, 1) := by decide +kernel
theorem dX9_sheet_77 : decode cX9_sheet 77 = .ok (.goto 4, 3) := by decide +kernel
theorem dX9_sheet_80 : decode cX9_sheet 80 = .ok (.iload_n 3, 1) := by decide +kernel
theorem dX9_sheet_81 : decode cX9_sheet 81 = .ok (.invokevirtual 282, 3) := by decide +kernel
theorem dX9_sheet_84 : decode cX9_sheet 84 = .ok (.iconst 1, 1) := by decide +kernel
theorem dX9_sheet_85 : decode cX9_sheet 85 = .ok (.ireturn, 1) := by decide +kernel
theorem dX9_put_0 : decode cX9_put 0 = .ok (.iload_n 1, 1) := by decide +kernel
theorem dX9_put_1 : decode cX9_put 1 = .ok (.invokestatic 252, 3) := by decide +kernel
theorem dX9_put_4 : decode cX9_put 4 = .ok (.ifCond .ne 9, 3) := by decide +kernel
theorem dX9_put_7 : decode cX9_put 7 = .ok (.aload_n 0, 1) := by decide +kernel
theorem dX9_put_8 : decode cX9_put 8 = .ok (.iconst 1, 1) := by decide +kernel
theorem dX9_put_9 : decode cX9_put 9 = .ok (.invokevirtual 80, 3) := by decide +kernel
theorem dX9_put_12 : decode cX9_put 12 = .ok (.ireturn, 1) := by decide +kernel
theorem dX9_put_13 : decode cX9_put 13 = .ok (.aload_n 0, 1) := by decide +kernel
theorem dX9_put_14 : decode cX9_put 14 = .ok (.getfield 64, 3) := by decide +kernel
theorem dX9_put_17 : decode cX9_put 17 = .ok (.iload_n 1, 1) := by decide +kernel
theorem dX9_put_18 : decode cX9_put 18 = .ok (.aaload, 1) := by decide +kernel
theorem dX9_put_19 : decode cX9_put 19 = .ok (.astore 4, 2) := by decide +kernel
theorem dX9_put_21 : decode cX9_put 21 = .ok (.aload 4, 2) := by decide +kernel
theorem dX9_put_23 : decode cX9_put 23 = .ok (.invokevirtual 255, 3) := by decide +kernel
theorem dX9_put_26 : decode cX9_put 26 = .ok (.ifCond .eq 9, 3) := by decide +kernel
theorem dX9_put_29 : decode cX9_put 29 = .ok (.aload_n 0, 1) := by decide +kernel
theorem dX9_put_30 : decode cX9_put 30 = .ok (.iconst 2, 1) := by decide +kernel
theorem dX9_put_31 : decode cX9_put 31 = .ok (.invokevirtual 80, 3) := by decide +kernel
theorem dX9_put_34 : decode cX9_put 34 = .ok (.ireturn, 1) := by decide +kernel
theorem dX9_put_35 : decode cX9_put 35 = .ok (.iload_n 2, 1) := by decide +kernel
theorem dX9_put_36 : decode cX9_put 36 = .ok (.iconst 0, 1) := by decide +kernel
theorem dX9_put_37 : decode cX9_put 37 = .ok (.aload 4, 2) := by decide +kernel
theorem dX9_put_39 : decode cX9_put 39 = .ok (.getfield 286, 3) := by decide +kernel
theorem dX9_put_42 : decode cX9_put 42 = .ok (.iconst 1, 1) := by decide +kernel
theorem dX9_put_43 : decode cX9_put 43 = .ok (.isub, 1) := by decide +kernel
theorem dX9_put_44 : decode cX9_put 44 = .ok (.invokestatic 104, 3) := by decide +kernel
theorem dX9_put_47 : decode cX9_put 47 = .ok (.ifCond .ne 9, 3) := by decide +kernel
theorem dX9_put_50 : decode cX9_put 50 = .ok (.aload_n 0, 1) := by decide +kernel
theorem dX9_put_51 : decode cX9_put 51 = .ok (.iconst 1, 1) := by decide +kernel
theorem dX9_put_52 : decode cX9_put 52 = .ok (.invokevirtual 80, 3) := by decide +kernel
theorem dX9_put_55 : decode cX9_put 55 = .ok (.ireturn, 1) := by decide +kernel
theorem dX9_put_56 : decode cX9_put 56 = .ok (.aload 4, 2) := by decide +kernel
theorem dX9_put_58 : decode cX9_put 58 = .ok (.getfield 289, 3) := by decide +kernel
theorem dX9_put_61 : decode cX9_put 61 = .ok (.iload_n 2, 1) := by decide +kernel
theorem dX9_put_62 : decode cX9_put 62 = .ok (.aload 4, 2) := by decide +kernel
theorem dX9_put_64 : decode cX9_put 64 = .ok (.iload_n 3, 1) := by decide +kernel
theorem dX9_put_65 : decode cX9_put 65 = .ok (.invokevirtual 292, 3) := by decide +kernel
theorem dX9_put_68 : decode cX9_put 68 = .ok (.iastore, 1) := by decide +kernel
theorem dX9_put_69 : decode cX9_put 69 = .ok (.iconst 1, 1) := by decide +kernel
theorem dX9_put_70 : decode cX9_put 70 = .ok (.ireturn, 1) := by decide +kernel
theorem dX9_move_0 : decode cX9_move 0 = .ok (.iload_n 1, 1) := by decide +kernel
theorem dX9_move_1 : decode cX9_move 1 = .ok (.invokestatic 252, 3) := by decide +kernel
theorem dX9_move_4 : decode cX9_move 4 = .ok (.ifCond .eq 10, 3) := by decide +kernel
theorem dX9_move_7 : decode cX9_move 7 = .ok (.iload_n 3, 1) := by decide +kernel
theorem dX9_move_8 : decode cX9_move 8 = .ok (.invokestatic 252, 3) := by decide +kernel
theorem dX9_move_11 : decode cX9_move 11 = .ok (.ifCond .ne 9, 3) := by decide +kernel
theorem dX9_move_14 : decode cX9_move 14 = .ok (.aload_n 0, 1) := by decide +kernel
theorem dX9_move_15 : decode cX9_move 15 = .ok (.iconst 1, 1) := by decide +kernel
theorem dX9_move_16 : decode cX9_move 16 = .ok (.invokevirtual 80, 3) := by decide +kernel
theorem dX9_move_19 : decode cX9_move 19 = .ok (.ireturn, 1) := by decide +kernel
theorem dX9_move_20 : decode cX9_move 20 = .ok (.aload_n 0, 1) := by decide +kernel
theorem dX9_move_21 : decode cX9_move 21 = .ok (.getfield 64, 3) := by decide +kernel
theorem dX9_move_24 : decode cX9_move 24 = .ok (.iload_n 1, 1) := by decide +kernel
theorem dX9_move_25 : decode cX9_move 25 = .ok (.aaload, 1) := by decide +kernel
theorem dX9_move_26 : decode cX9_move 26 = .ok (.astore 6, 2) := by decide +kernel
theorem dX9_move_28 : decode cX9_move 28 = .ok (.aload_n 0, 1) := by decide +kernel
theorem dX9_move_29 : decode cX9_move 29 = .ok (.getfield 64, 3) := by decide +kernel
theorem dX9_move_32 : decode cX9_move 32 = .ok (.iload_n 3, 1) := by decide +kernel
theorem dX9_move_33 : decode cX9_move 33 = .ok (.aaload, 1) := by decide +kernel
theorem dX9_move_34 : decode cX9_move 34 = .ok (.astore 7, 2) := by decide +kernel
theorem dX9_move_36 : decode cX9_move 36 = .ok (.aload 6, 2) := by decide +kernel
theorem dX9_move_38 : decode cX9_move 38 = .ok (.invokevirtual 255, 3) := by decide +kernel
theorem dX9_move_41 : decode cX9_move 41 = .ok (.ifCond .ne 11, 3) := by decide +kernel
theorem dX9_move_44 : decode cX9_move 44 = .ok (.aload 7, 2) := by decide +kernel
theorem dX9_move_46 : decode cX9_move 46 = .ok (.invokevirtual 255, 3) := by decide +kernel
theorem dX9_move_49 : decode cX9_move 49 = .ok (.ifCond .eq 9, 3) := by decide +kernel
theorem dX9_move_52 : decode cX9_move 52 = .ok (.aload_n 0, 1) := by decide +kernel
theorem dX9_move_53 : decode cX9_move 53 = .ok (.iconst 2, 1) := by decide +kernel
theorem dX9_move_54 : decode cX9_move 54 = .ok (.invokevirtual 80, 3) := by decide +kernel
theorem dX9_move_57 : decode cX9_move 57 = .ok (.ireturn, 1) := by decide +kernel
theorem dX9_move_58 : decode cX9_move 58 = .ok (.aload 6, 2) := by decide +kernel
theorem dX9_move_60 : decode cX9_move 60 = .ok (.getfield 295, 3) := by decide +kernel
theorem dX9_move_63 : decode cX9_move 63 = .ok (.aload 7, 2) := by decide +kernel
theorem dX9_move_65 : decode cX9_move 65 = .ok (.getfield 295, 3) := by decide +kernel
theorem dX9_move_68 : decode cX9_move 68 = .ok (.if_icmp .eq 9, 3) := by decide +kernel
theorem dX9_move_71 : decode cX9_move 71 = .ok (.aload_n 0, 1) := by decide +kernel
theorem dX9_move_72 : decode cX9_move 72 = .ok (.iconst 5, 1) := by decide +kernel
theorem dX9_move_73 : decode cX9_move 73 = .ok (.invokevirtual 80, 3) := by decide +kernel
theorem dX9_move_76 : decode cX9_move 76 = .ok (.ireturn, 1) := by decide +kernel
theorem dX9_move_77 : decode cX9_move 77 = .ok (.aload 6, 2) := by decide +kernel
theorem dX9_move_79 : decode cX9_move 79 = .ok (.iload_n 2, 1) := by decide +kernel
theorem dX9_move_80 : decode cX9_move 80 = .ok (.iload 5, 2) := by decide +kernel
theorem dX9_move_82 : decode cX9_move 82 = .ok (.invokevirtual 298, 3) := by decide +kernel
theorem dX9_move_85 : decode cX9_move 85 = .ok (.ifCond .eq 15, 3) := by decide +kernel
theorem dX9_move_88 : decode cX9_move 88 = .ok (.aload 7, 2) := by decide +kernel
theorem dX9_move_90 : decode cX9_move 90 = .ok (.iload 4, 2) := by decide +kernel
theorem dX9_move_92 : decode cX9_move 92 = .ok (.iload 5, 2) := by decide +kernel
theorem dX9_move_94 : decode cX9_move 94 = .ok (.invokevirtual 298, 3) := by decide +kernel
theorem dX9_move_97 : decode cX9_move 97 = .ok (.ifCond .ne 9, 3) := by decide +kernel
theorem dX9_move_100 : decode cX9_move 100 = .ok (.aload_n 0, 1) := by decide +kernel
theorem dX9_move_101 : decode cX9_move 101 = .ok (.iconst 1, 1) := by decide +kernel
theorem dX9_move_102 : decode cX9_move 102 = .ok (.invokevirtual 80, 3) := by decide +kernel
theorem dX9_move_105 : decode cX9_move 105 = .ok (.ireturn, 1) := by decide +kernel
theorem dX9_move_106 : decode cX9_move 106 = .ok (.aload 6, 2) := by decide +kernel
theorem dX9_move_108 : decode cX9_move 108 = .ok (.getfield 289, 3) := by decide +kernel
theorem dX9_move_111 : decode cX9_move 111 = .ok (.iload_n 2, 1) := by decide +kernel
theorem dX9_move_112 : decode cX9_move 112 = .ok (.aload 7, 2) := by decide +kernel
theorem dX9_move_114 : decode cX9_move 114 = .ok (.getfield 289, 3) := by decide +kernel
theorem dX9_move_117 : decode cX9_move 117 = .ok (.iload 4, 2) := by decide +kernel
theorem dX9_move_119 : decode cX9_move 119 = .ok (.iload 5, 2) := by decide +kernel
theorem dX9_move_121 : decode cX9_move 121 = .ok (.invokestatic 301, 3) := by decide +kernel
theorem dX9_move_124 : decode cX9_move 124 = .ok (.iload 5, 2) := by decide +kernel
theorem dX9_move_126 : decode cX9_move 126 = .ok (.ireturn, 1) := by decide +kernel
theorem dX9_pushes_0 : decode cX9_pushes 0 = .ok (.iload_n 1, 1) := by decide +kernel
theorem dX9_pushes_1 : decode cX9_pushes 1 = .ok (.invokestatic 252, 3) := by decide +kernel
theorem dX9_pushes_4 : decode cX9_pushes 4 = .ok (.ifCond .ne 9, 3) := by decide +kernel
theorem dX9_pushes_7 : decode cX9_pushes 7 = .ok (.aload_n 0, 1) := by decide +kernel
theorem dX9_pushes_8 : decode cX9_pushes 8 = .ok (.iconst 1, 1) := by decide +kernel
theorem dX9_pushes_9 : decode cX9_pushes 9 = .ok (.invokevirtual 80, 3) := by decide +kernel
theorem dX9_pushes_12 : decode cX9_pushes 12 = .ok (.ireturn, 1) := by decide +kernel
theorem dX9_pushes_13 : decode cX9_pushes 13 = .ok (.aload_n 0, 1) := by decide +kernel
theorem dX9_pushes_14 : decode cX9_pushes 14 = .ok (.getfield 64, 3) := by decide +kernel
theorem dX9_pushes_17 : decode cX9_pushes 17 = .ok (.iload_n 1, 1) := by decide +kernel
theorem dX9_pushes_18 : decode cX9_pushes 18 = .ok (.aaload, 1) := by decide +kernel
theorem dX9_pushes_19 : decode cX9_pushes 19 = .ok (.astore_n 2, 1) := by decide +kernel
theorem dX9_pushes_20 : decode cX9_pushes 20 = .ok (.aload_n 2, 1) := by decide +kernel
theorem dX9_pushes_21 : decode cX9_pushes 21 = .ok (.invokevirtual 255, 3) := by decide +kernel
theorem dX9_pushes_24 : decode cX9_pushes 24 = .ok (.ifCond .eq 9, 3) := by decide +kernel
theorem dX9_pushes_27 : decode cX9_pushes 27 = .ok (.aload_n 0, 1) := by decide +kernel
theorem dX9_pushes_28 : decode cX9_pushes 28 = .ok (.iconst 2, 1) := by decide +kernel
theorem dX9_pushes_29 : decode cX9_pushes 29 = .ok (.invokevirtual 80, 3) := by decide +kernel
theorem dX9_pushes_32 : decode cX9_pushes 32 = .ok (.ireturn, 1) := by decide +kernel
theorem dX9_pushes_33 : decode cX9_pushes 33 = .ok (.aload_n 2, 1) := by decide +kernel
theorem dX9_pushes_34 : decode cX9_pushes 34 = .ok (.getfield 286, 3) := by decide +kernel
theorem dX9_pushes_37 : decode cX9_pushes 37 = .ok (.aload_n 0, 1) := by decide +kernel
theorem dX9_pushes_38 : decode cX9_pushes 38 = .ok (.getfield 10, 3) := by decide +kernel
theorem dX9_pushes_41 : decode cX9_pushes 41 = .ok (.getfield 84, 3) := by decide +kernel
theorem dX9_pushes_44 : decode cX9_pushes 44 = .ok (.invokestatic 307, 3) := by decide +kernel
theorem dX9_pushes_47 : decode cX9_pushes 47 = .ok (.istore_n 3, 1) := by decide +kernel
theorem dX9_pushes_48 : decode cX9_pushes 48 = .ok (.iconst 0, 1) := by decide +kernel
theorem dX9_pushes_49 : decode cX9_pushes 49 = .ok (.istore 4, 2) := by decide +kernel
theorem dX9_pushes_51 : decode cX9_pushes 51 = .ok (.iload 4, 2) := by decide +kernel
theorem dX9_pushes_53 : decode cX9_pushes 53 = .ok (.iload_n 3, 1) := by decide +kernel
theorem dX9_pushes_54 : decode cX9_pushes 54 = .ok (.if_icmp .ge 45, 3) := by decide +kernel
theorem dX9_pushes_57 : decode cX9_pushes 57 = .ok (.aload_n 2, 1) := by decide +kernel
theorem dX9_pushes_58 : decode cX9_pushes 58 = .ok (.getfield 289, 3) := by decide +kernel
theorem dX9_pushes_61 : decode cX9_pushes 61 = .ok (.iload 4, 2) := by decide +kernel
theorem dX9_pushes_63 : decode cX9_pushes 63 = .ok (.iaload, 1) := by decide +kernel
theorem dX9_pushes_64 : decode cX9_pushes 64 = .ok (.invokestatic 148, 3) := by decide +kernel
theorem dX9_pushes_67 : decode cX9_pushes 67 = .ok (.ifCond .ne 6, 3) := by decide +kernel
theorem dX9_pushes_70 : decode cX9_pushes 70 = .ok (.iload 4, 2) := by decide +kernel
theorem dX9_pushes_72 : decode cX9_pushes 72 = .ok (.ireturn, 1) := by decide +kernel
theorem dX9_pushes_73 : decode cX9_pushes 73 = .ok (.aload_n 0, 1) := by decide +kernel
theorem dX9_pushes_74 : decode cX9_pushes 74 = .ok (.getfield 10, 3) := by decide +kernel
theorem dX9_pushes_77 : decode cX9_pushes 77 = .ok (.getfield 88, 3) := by decide +kernel
theorem dX9_pushes_80 : decode cX9_pushes 80 = .ok (.iload 4, 2) := by decide +kernel
theorem dX9_pushes_82 : decode cX9_pushes 82 = .ok (.aaload, 1) := by decide +kernel
theorem dX9_pushes_83 : decode cX9_pushes 83 = .ok (.aload_n 2, 1) := by decide +kernel
theorem dX9_pushes_84 : decode cX9_pushes 84 = .ok (.getfield 289, 3) := by decide +kernel
theorem dX9_pushes_87 : decode cX9_pushes 87 = .ok (.iload 4, 2) := by decide +kernel
theorem dX9_pushes_89 : decode cX9_pushes 89 = .ok (.iaload, 1) := by decide +kernel
theorem dX9_pushes_90 : decode cX9_pushes 90 = .ok (.invokevirtual 151, 3) := by decide +kernel
theorem dX9_pushes_93 : decode cX9_pushes 93 = .ok (.iinc 4 1, 3) := by decide +kernel
theorem dX9_pushes_96 : decode cX9_pushes 96 = .ok (.goto (-45), 3) := by decide +kernel
theorem dX9_pushes_99 : decode cX9_pushes 99 = .ok (.iload_n 3, 1) := by decide +kernel
theorem dX9_pushes_100 : decode cX9_pushes 100 = .ok (.ireturn, 1) := by decide +kernel
theorem dX9_judge_0 : decode cX9_judge 0 = .ok (.iload_n 1, 1) := by decide +kernel
theorem dX9_judge_1 : decode cX9_judge 1 = .ok (.invokestatic 252, 3) := by decide +kernel
theorem dX9_judge_4 : decode cX9_judge 4 = .ok (.ifCond .ne 9, 3) := by decide +kernel
theorem dX9_judge_7 : decode cX9_judge 7 = .ok (.aload_n 0, 1) := by decide +kernel
theorem dX9_judge_8 : decode cX9_judge 8 = .ok (.iconst 1, 1) := by decide +kernel
theorem dX9_judge_9 : decode cX9_judge 9 = .ok (.invokevirtual 80, 3) := by decide +kernel
theorem dX9_judge_12 : decode cX9_judge 12 = .ok (.ireturn, 1) := by decide +kernel
theorem dX9_judge_13 : decode cX9_judge 13 = .ok (.aload_n 0, 1) := by decide +kernel
theorem dX9_judge_14 : decode cX9_judge 14 = .ok (.getfield 64, 3) := by decide +kernel
theorem dX9_judge_17 : decode cX9_judge 17 = .ok (.iload_n 1, 1) := by decide +kernel
theorem dX9_judge_18 : decode cX9_judge 18 = .ok (.aaload, 1) := by decide +kernel
theorem dX9_judge_19 : decode cX9_judge 19 = .ok (.astore_n 2, 1) := by decide +kernel
theorem dX9_judge_20 : decode cX9_judge 20 = .ok (.aload_n 2, 1) := by decide +kernel
theorem dX9_judge_21 : decode cX9_judge 21 = .ok (.invokevirtual 255, 3) := by decide +kernel
theorem dX9_judge_24 : decode cX9_judge 24 = .ok (.ifCond .eq 9, 3) := by decide +kernel
theorem dX9_judge_27 : decode cX9_judge 27 = .ok (.aload_n 0, 1) := by decide +kernel
theorem dX9_judge_28 : decode cX9_judge 28 = .ok (.iconst 2, 1) := by decide +kernel
theorem dX9_judge_29 : decode cX9_judge 29 = .ok (.invokevirtual 80, 3) := by decide +kernel
theorem dX9_judge_32 : decode cX9_judge 32 = .ok (.ireturn, 1) := by decide +kernel
theorem dX9_judge_33 : decode cX9_judge 33 = .ok (.aload_n 2, 1) := by decide +kernel
theorem dX9_judge_34 : decode cX9_judge 34 = .ok (.getfield 286, 3) := by decide +kernel
theorem dX9_judge_37 : decode cX9_judge 37 = .ok (.aload_n 0, 1) := by decide +kernel
theorem dX9_judge_38 : decode cX9_judge 38 = .ok (.getfield 10, 3) := by decide +kernel
theorem dX9_judge_41 : decode cX9_judge 41 = .ok (.getfield 84, 3) := by decide +kernel
theorem dX9_judge_44 : decode cX9_judge 44 = .ok (.invokestatic 307, 3) := by decide +kernel
theorem dX9_judge_47 : decode cX9_judge 47 = .ok (.istore_n 3, 1) := by decide +kernel
theorem dX9_judge_48 : decode cX9_judge 48 = .ok (.iconst 0, 1) := by decide +kernel
theorem dX9_judge_49 : decode cX9_judge 49 = .ok (.istore 4, 2) := by decide +kernel
theorem dX9_judge_51 : decode cX9_judge 51 = .ok (.iload 4, 2) := by decide +kernel
theorem dX9_judge_53 : decode cX9_judge 53 = .ok (.iload_n 3, 1) := by decide +kernel
theorem dX9_judge_54 : decode cX9_judge 54 = .ok (.if_icmp .ge 35, 3) := by decide +kernel
theorem dX9_judge_57 : decode cX9_judge 57 = .ok (.aload_n 2, 1) := by decide +kernel
theorem dX9_judge_58 : decode cX9_judge 58 = .ok (.getfield 289, 3) := by decide +kernel
theorem dX9_judge_61 : decode cX9_judge 61 = .ok (.iload 4, 2) := by decide +kernel
theorem dX9_judge_63 : decode cX9_judge 63 = .ok (.iaload, 1) := by decide +kernel
theorem dX9_judge_64 : decode cX9_judge 64 = .ok (.aload_n 0, 1) := by decide +kernel
theorem dX9_judge_65 : decode cX9_judge 65 = .ok (.getfield 10, 3) := by decide +kernel
theorem dX9_judge_68 : decode cX9_judge 68 = .ok (.getfield 88, 3) := by decide +kernel
theorem dX9_judge_71 : decode cX9_judge 71 = .ok (.iload 4, 2) := by decide +kernel
theorem dX9_judge_73 : decode cX9_judge 73 = .ok (.aaload, 1) := by decide +kernel
theorem dX9_judge_74 : decode cX9_judge 74 = .ok (.getfield 114, 3) := by decide +kernel
theorem dX9_judge_77 : decode cX9_judge 77 = .ok (.if_icmp .eq 6, 3) := by decide +kernel
theorem dX9_judge_80 : decode cX9_judge 80 = .ok (.iload 4, 2) := by decide +kernel
theorem dX9_judge_82 : decode cX9_judge 82 = .ok (.ireturn, 1) := by decide +kernel
theorem dX9_judge_83 : decode cX9_judge 83 = .ok (.iinc 4 1, 3) := by decide +kernel
theorem dX9_judge_86 : decode cX9_judge 86 = .ok (.goto (-35), 3) := by decide +kernel
theorem dX9_judge_89 : decode cX9_judge 89 = .ok (.aload_n 2, 1) := by decide +kernel
theorem dX9_judge_90 : decode cX9_judge 90 = .ok (.getfield 286, 3) := by decide +kernel
theorem dX9_judge_93 : decode cX9_judge 93 = .ok (.aload_n 0, 1) := by decide +kernel
theorem dX9_judge_94 : decode cX9_judge 94 = .ok (.getfield 10, 3) := by decide +kernel
theorem dX9_judge_97 : decode cX9_judge 97 = .ok (.getfield 84, 3) := by decide +kernel
theorem dX9_judge_100 : decode cX9_judge 100 = .ok (.if_icmp .ne 7, 3) := by decide +kernel
theorem dX9_judge_103 : decode cX9_judge 103 = .ok (.iconst (-1), 1) := by decide +kernel
theorem dX9_judge_104 : decode cX9_judge 104 = .ok (.goto 4, 3) := by decide +kernel
theorem dX9_judge_107 : decode cX9_judge 107 = .ok (.iload_n 3, 1) := by decide +kernel
theorem dX9_judge_108 : decode cX9_judge 108 = .ok (.ireturn, 1) := by decide +kernel
theorem dX9_image_0 : decode cX9_image 0 = .ok (.aload_n 0, 1) := by decide +kernel
theorem dX9_image_1 : decode cX9_image 1 = .ok (.getfield 23, 3) := by decide +kernel
theorem dX9_image_4 : decode cX9_image 4 = .ok (.aload_n 0, 1) := by decide +kernel
theorem dX9_image_5 : decode cX9_image 5 = .ok (.getfield 10, 3) := by decide +kernel
theorem dX9_image_8 : decode cX9_image 8 = .ok (.invokevirtual 216, 3) := by decide +kernel
theorem dX9_image_11 : decode cX9_image 11 = .ok (.aload_n 0, 1) := by decide +kernel
theorem dX9_image_12 : decode cX9_image 12 = .ok (.getfield 26, 3) := by decide +kernel
theorem dX9_image_15 : decode cX9_image 15 = .ok (.aload_n 0, 1) := by decide +kernel
theorem dX9_image_16 : decode cX9_image 16 = .ok (.getfield 19, 3) := by decide +kernel
theorem dX9_image_19 : decode cX9_image 19 = .ok (.invokevirtual 313, 3) := by decide +kernel
theorem dX9_image_22 : decode cX9_image 22 = .ok (.aload_n 0, 1) := by decide +kernel
theorem dX9_image_23 : decode cX9_image 23 = .ok (.dup, 1) := by decide +kernel
theorem dX9_image_24 : decode cX9_image 24 = .ok (.getfield 315, 3) := by decide +kernel
theorem dX9_image_27 : decode cX9_image 27 = .ok (.iconst 1, 1) := by decide +kernel
theorem dX9_image_28 : decode cX9_image 28 = .ok (.iadd, 1) := by decide +kernel
theorem dX9_image_29 : decode cX9_image 29 = .ok (.putfield 315, 3) := by decide +kernel
theorem dX9_image_32 : decode cX9_image 32 = .ok (.aload_n 0, 1) := by decide +kernel
theorem dX9_image_33 : decode cX9_image 33 = .ok (.getfield 315, 3) := by decide +kernel
theorem dX9_image_36 : decode cX9_image 36 = .ok (.ireturn, 1) := by decide +kernel
theorem dX9_restore_0 : decode cX9_restore 0 = .ok (.aload_n 0, 1) := by decide +kernel
theorem dX9_restore_1 : decode cX9_restore 1 = .ok (.getfield 315, 3) := by decide +kernel
theorem dX9_restore_4 : decode cX9_restore 4 = .ok (.ifCond .ne 9, 3) := by decide +kernel
theorem dX9_restore_7 : decode cX9_restore 7 = .ok (.aload_n 0, 1) := by decide +kernel
theorem dX9_restore_8 : decode cX9_restore 8 = .ok (.iconst 2, 1) := by decide +kernel
theorem dX9_restore_9 : decode cX9_restore 9 = .ok (.invokevirtual 80, 3) := by decide +kernel
theorem dX9_restore_12 : decode cX9_restore 12 = .ok (.ireturn, 1) := by decide +kernel
theorem dX9_restore_13 : decode cX9_restore 13 = .ok (.aload_n 0, 1) := by decide +kernel
theorem dX9_restore_14 : decode cX9_restore 14 = .ok (.getfield 10, 3) := by decide +kernel
theorem dX9_restore_17 : decode cX9_restore 17 = .ok (.aload_n 0, 1) := by decide +kernel
theorem dX9_restore_18 : decode cX9_restore 18 = .ok (.getfield 23, 3) := by decide +kernel
theorem dX9_restore_21 : decode cX9_restore 21 = .ok (.invokevirtual 216, 3) := by decide +kernel
theorem dX9_restore_24 : decode cX9_restore 24 = .ok (.aload_n 0, 1) := by decide +kernel
theorem dX9_restore_25 : decode cX9_restore 25 = .ok (.getfield 19, 3) := by decide +kernel
theorem dX9_restore_28 : decode cX9_restore 28 = .ok (.aload_n 0, 1) := by decide +kernel
theorem dX9_restore_29 : decode cX9_restore 29 = .ok (.getfield 26, 3) := by decide +kernel
theorem dX9_restore_32 : decode cX9_restore 32 = .ok (.invokevirtual 313, 3) := by decide +kernel
theorem dX9_restore_35 : decode cX9_restore 35 = .ok (.aload_n 0, 1) := by decide +kernel
theorem dX9_restore_36 : decode cX9_restore 36 = .ok (.getfield 10, 3) := by decide +kernel
theorem dX9_restore_39 : decode cX9_restore 39 = .ok (.getfield 166, 3) := by decide +kernel
theorem dX9_restore_42 : decode cX9_restore 42 = .ok (.ireturn, 1) := by decide +kernel
theorem dX9_tell_0 : decode cX9_tell 0 = .ok (.aload_n 0, 1) := by decide +kernel
theorem dX9_tell_1 : decode cX9_tell 1 = .ok (.getfield 19, 3) := by decide +kernel
theorem dX9_tell_4 : decode cX9_tell 4 = .ok (.getfield 318, 3) := by decide +kernel
theorem dX9_tell_7 : decode cX9_tell 7 = .ok (.bipush 20, 2) := by decide +kernel
theorem dX9_tell_9 : decode cX9_tell 9 = .ok (.if_icmp .lt 9, 3) := by decide +kernel
theorem dX9_tell_12 : decode cX9_tell 12 = .ok (.aload_n 0, 1) := by decide +kernel
theorem dX9_tell_13 : decode cX9_tell 13 = .ok (.iconst 4, 1) := by decide +kernel
theorem dX9_tell_14 : decode cX9_tell 14 = .ok (.invokevirtual 80, 3) := by decide +kernel
theorem dX9_tell_17 : decode cX9_tell 17 = .ok (.ireturn, 1) := by decide +kernel
theorem dX9_tell_18 : decode cX9_tell 18 = .ok (.aload_n 0, 1) := by decide +kernel
theorem dX9_tell_19 : decode cX9_tell 19 = .ok (.getfield 19, 3) := by decide +kernel
theorem dX9_tell_22 : decode cX9_tell 22 = .ok (.getfield 321, 3) := by decide +kernel
theorem dX9_tell_25 : decode cX9_tell 25 = .ok (.aload_n 0, 1) := by decide +kernel
theorem dX9_tell_26 : decode cX9_tell 26 = .ok (.getfield 19, 3) := by decide +kernel
theorem dX9_tell_29 : decode cX9_tell 29 = .ok (.getfield 318, 3) := by decide +kernel
theorem dX9_tell_32 : decode cX9_tell 32 = .ok (.iload_n 1, 1) := by decide +kernel
theorem dX9_tell_33 : decode cX9_tell 33 = .ok (.iastore, 1) := by decide +kernel
theorem dX9_tell_34 : decode cX9_tell 34 = .ok (.aload_n 0, 1) := by decide +kernel
theorem dX9_tell_35 : decode cX9_tell 35 = .ok (.getfield 19, 3) := by decide +kernel
theorem dX9_tell_38 : decode cX9_tell 38 = .ok (.dup, 1) := by decide +kernel
theorem dX9_tell_39 : decode cX9_tell 39 = .ok (.getfield 318, 3) := by decide +kernel
theorem dX9_tell_42 : decode cX9_tell 42 = .ok (.iconst 1, 1) := by decide +kernel
theorem dX9_tell_43 : decode cX9_tell 43 = .ok (.iadd, 1) := by decide +kernel
theorem dX9_tell_44 : decode cX9_tell 44 = .ok (.putfield 318, 3) := by decide +kernel
theorem dX9_tell_47 : decode cX9_tell 47 = .ok (.aload_n 0, 1) := by decide +kernel
theorem dX9_tell_48 : decode cX9_tell 48 = .ok (.getfield 19, 3) := by decide +kernel
theorem dX9_tell_51 : decode cX9_tell 51 = .ok (.getfield 318, 3) := by decide +kernel
theorem dX9_tell_54 : decode cX9_tell 54 = .ok (.ireturn, 1) := by decide +kernel
theorem dX9_check_0 : decode cX9_check 0 = .ok (.aload_n 0, 1) := by decide +kernel
theorem dX9_check_1 : decode cX9_check 1 = .ok (.getfield 19, 3) := by decide +kernel
theorem dX9_check_4 : decode cX9_check 4 = .ok (.getfield 318, 3) := by decide +kernel
theorem dX9_check_7 : decode cX9_check 7 = .ok (.istore_n 1, 1) := by decide +kernel
theorem dX9_check_8 : decode cX9_check 8 = .ok (.aload_n 0, 1) := by decide +kernel
theorem dX9_check_9 : decode cX9_check 9 = .ok (.getfield 19, 3) := by decide +kernel
theorem dX9_check_12 : decode cX9_check 12 = .ok (.iconst 0, 1) := by decide +kernel
theorem dX9_check_13 : decode cX9_check 13 = .ok (.putfield 318, 3) := by decide +kernel
theorem dX9_check_16 : decode cX9_check 16 = .ok (.aload_n 0, 1) := by decide +kernel
theorem dX9_check_17 : decode cX9_check 17 = .ok (.getfield 29, 3) := by decide +kernel
theorem dX9_check_20 : decode cX9_check 20 = .ok (.aload_n 0, 1) := by decide +kernel
theorem dX9_check_21 : decode cX9_check 21 = .ok (.getfield 10, 3) := by decide +kernel
theorem dX9_check_24 : decode cX9_check 24 = .ok (.invokevirtual 216, 3) := by decide +kernel
theorem dX9_check_27 : decode cX9_check 27 = .ok (.iconst 0, 1) := by decide +kernel
theorem dX9_check_28 : decode cX9_check 28 = .ok (.istore_n 2, 1) := by decide +kernel
theorem dX9_check_29 : decode cX9_check 29 = .ok (.iload_n 2, 1) := by decide +kernel
theorem dX9_check_30 : decode cX9_check 30 = .ok (.iload_n 1, 1) := by decide +kernel
theorem dX9_check_31 : decode cX9_check 31 = .ok (.if_icmp .ge 43, 3) := by decide +kernel
theorem dX9_check_34 : decode cX9_check 34 = .ok (.aload_n 0, 1) := by decide +kernel
theorem dX9_check_35 : decode cX9_check 35 = .ok (.getfield 29, 3) := by decide +kernel
theorem dX9_check_38 : decode cX9_check 38 = .ok (.aload_n 0, 1) := by decide +kernel
theorem dX9_check_39 : decode cX9_check 39 = .ok (.getfield 19, 3) := by decide +kernel
theorem dX9_check_42 : decode cX9_check 42 = .ok (.invokevirtual 207, 3) := by decide +kernel
theorem dX9_check_45 : decode cX9_check 45 = .ok (.aload_n 0, 1) := by decide +kernel
theorem dX9_check_46 : decode cX9_check 46 = .ok (.getfield 29, 3) := by decide +kernel
theorem dX9_check_49 : decode cX9_check 49 = .ok (.invokevirtual 324, 3) := by decide +kernel
theorem dX9_check_52 : decode cX9_check 52 = .ok (.aload_n 0, 1) := by decide +kernel
theorem dX9_check_53 : decode cX9_check 53 = .ok (.getfield 19, 3) := by decide +kernel
theorem dX9_check_56 : decode cX9_check 56 = .ok (.getfield 321, 3) := by decide +kernel
theorem dX9_check_59 : decode cX9_check 59 = .ok (.iload_n 2, 1) := by decide +kernel
theorem dX9_check_60 : decode cX9_check 60 = .ok (.iaload, 1) := by decide +kernel
theorem dX9_check_61 : decode cX9_check 61 = .ok (.if_icmp .eq 7, 3) := by decide +kernel
theorem dX9_check_64 : decode cX9_check 64 = .ok (.iconst 1, 1) := by decide +kernel
theorem dX9_check_65 : decode cX9_check 65 = .ok (.iload_n 2, 1) := by decide +kernel
theorem dX9_check_66 : decode cX9_check 66 = .ok (.iadd, 1) := by decide +kernel
theorem dX9_check_67 : decode cX9_check 67 = .ok (.ireturn, 1) := by decide +kernel
theorem dX9_check_68 : decode cX9_check 68 = .ok (.iinc 2 1, 3) := by decide +kernel
theorem dX9_check_71 : decode cX9_check 71 = .ok (.goto (-42), 3) := by decide +kernel
theorem dX9_check_74 : decode cX9_check 74 = .ok (.iconst 0, 1) := by decide +kernel
theorem dX9_check_75 : decode cX9_check 75 = .ok (.ireturn, 1) := by decide +kernel
theorem dX9_count_0 : decode cX9_count 0 = .ok (.iload_n 1, 1) := by decide +kernel
theorem dX9_count_1 : decode cX9_count 1 = .ok (.tableswitch 154 0 10 #[59, 67, 75, 83, 93, 105, 117, 122, 130, 138, 146], 59) := by decide +kernel
theorem dX9_count_60 : decode cX9_count 60 = .ok (.aload_n 0, 1) := by decide +kernel
theorem dX9_count_61 : decode cX9_count 61 = .ok (.getfield 10, 3) := by decide +kernel
theorem dX9_count_64 : decode cX9_count 64 = .ok (.getfield 84, 3) := by decide +kernel
theorem dX9_count_67 : decode cX9_count 67 = .ok (.ireturn, 1) := by decide +kernel
theorem dX9_count_68 : decode cX9_count 68 = .ok (.aload_n 0, 1) := by decide +kernel
theorem dX9_count_69 : decode cX9_count 69 = .ok (.getfield 10, 3) := by decide +kernel
theorem dX9_count_72 : decode cX9_count 72 = .ok (.getfield 166, 3) := by decide +kernel
theorem dX9_count_75 : decode cX9_count 75 = .ok (.ireturn, 1) := by decide +kernel
theorem dX9_count_76 : decode cX9_count 76 = .ok (.aload_n 0, 1) := by decide +kernel
theorem dX9_count_77 : decode cX9_count 77 = .ok (.getfield 10, 3) := by decide +kernel
theorem dX9_count_80 : decode cX9_count 80 = .ok (.getfield 220, 3) := by decide +kernel
theorem dX9_count_83 : decode cX9_count 83 = .ok (.ireturn, 1) := by decide +kernel
theorem dX9_count_84 : decode cX9_count 84 = .ok (.aload_n 0, 1) := by decide +kernel
theorem dX9_count_85 : decode cX9_count 85 = .ok (.getfield 10, 3) := by decide +kernel
theorem dX9_count_88 : decode cX9_count 88 = .ok (.iconst 0, 1) := by decide +kernel
theorem dX9_count_89 : decode cX9_count 89 = .ok (.iconst 0, 1) := by decide +kernel
theorem dX9_count_90 : decode cX9_count 90 = .ok (.invokevirtual 327, 3) := by decide +kernel
theorem dX9_count_93 : decode cX9_count 93 = .ok (.ireturn, 1) := by decide +kernel
theorem dX9_count_94 : decode cX9_count 94 = .ok (.aload_n 0, 1) := by decide +kernel
theorem dX9_count_95 : decode cX9_count 95 = .ok (.getfield 10, 3) := by decide +kernel
theorem dX9_count_98 : decode cX9_count 98 = .ok (.bipush 40, 2) := by decide +kernel
theorem dX9_count_100 : decode cX9_count 100 = .ok (.bipush 40, 2) := by decide +kernel
theorem dX9_count_102 : decode cX9_count 102 = .ok (.invokevirtual 327, 3) := by decide +kernel
theorem dX9_count_105 : decode cX9_count 105 = .ok (.ireturn, 1) := by decide +kernel
theorem dX9_count_106 : decode cX9_count 106 = .ok (.aload_n 0, 1) := by decide +kernel
theorem dX9_count_107 : decode cX9_count 107 = .ok (.getfield 10, 3) := by decide +kernel
theorem dX9_count_110 : decode cX9_count 110 = .ok (.bipush 16, 2) := by decide +kernel
theorem dX9_count_112 : decode cX9_count 112 = .ok (.bipush 24, 2) := by decide +kernel
theorem dX9_count_114 : decode cX9_count 114 = .ok (.invokevirtual 327, 3) := by decide +kernel
theorem dX9_count_117 : decode cX9_count 117 = .ok (.ireturn, 1) := by decide +kernel
theorem dX9_count_118 : decode cX9_count 118 = .ok (.aload_n 0, 1) := by decide +kernel
theorem dX9_count_119 : decode cX9_count 119 = .ok (.invokevirtual 210, 3) := by decide +kernel
theorem dX9_count_122 : decode cX9_count 122 = .ok (.ireturn, 1) := by decide +kernel
theorem dX9_count_123 : decode cX9_count 123 = .ok (.aload_n 0, 1) := by decide +kernel
theorem dX9_count_124 : decode cX9_count 124 = .ok (.getfield 19, 3) := by decide +kernel
theorem dX9_count_127 : decode cX9_count 127 = .ok (.getfield 173, 3) := by decide +kernel
theorem dX9_count_130 : decode cX9_count 130 = .ok (.ireturn, 1) := by decide +kernel
theorem dX9_count_131 : decode cX9_count 131 = .ok (.aload_n 0, 1) := by decide +kernel
theorem dX9_count_132 : decode cX9_count 132 = .ok (.getfield 19, 3) := by decide +kernel
theorem dX9_count_135 : decode cX9_count 135 = .ok (.getfield 318, 3) := by decide +kernel
theorem dX9_count_138 : decode cX9_count 138 = .ok (.ireturn, 1) := by decide +kernel
theorem dX9_count_139 : decode cX9_count 139 = .ok (.aload_n 0, 1) := by decide +kernel
theorem dX9_count_140 : decode cX9_count 140 = .ok (.getfield 58, 3) := by decide +kernel
theorem dX9_count_143 : decode cX9_count 143 = .ok (.getfield 276, 3) := by decide +kernel
theorem dX9_count_146 : decode cX9_count 146 = .ok (.ireturn, 1) := by decide +kernel
theorem dX9_count_147 : decode cX9_count 147 = .ok (.aload_n 0, 1) := by decide +kernel
theorem dX9_count_148 : decode cX9_count 148 = .ok (.getfield 19, 3) := by decide +kernel
theorem dX9_count_151 : decode cX9_count 151 = .ok (.getfield 270, 3) := by decide +kernel
theorem dX9_count_154 : decode cX9_count 154 = .ok (.ireturn, 1) := by decide +kernel
theorem dX9_count_155 : decode cX9_count 155 = .ok (.aload_n 0, 1) := by decide +kernel
theorem dX9_count_156 : decode cX9_count 156 = .ok (.iconst 1, 1) := by decide +kernel
theorem dX9_count_157 : decode cX9_count 157 = .ok (.invokevirtual 80, 3) := by decide +kernel
theorem dX9_count_160 : decode cX9_count 160 = .ok (.ireturn, 1) := by decide +kernel
theorem dX9_told_0 : decode cX9_told 0 = .ok (.iload_n 1, 1) := by decide +kernel
theorem dX9_told_1 : decode cX9_told 1 = .ok (.iconst 1, 1) := by decide +kernel
theorem dX9_told_2 : decode cX9_told 2 = .ok (.iconst 5, 1) := by decide +kernel
theorem dX9_told_3 : decode cX9_told 3 = .ok (.invokestatic 104, 3) := by decide +kernel
theorem dX9_told_6 : decode cX9_told 6 = .ok (.ifCond .eq 12, 3) := by decide +kernel
theorem dX9_told_9 : decode cX9_told 9 = .ok (.aload_n 0, 1) := by decide +kernel
theorem dX9_told_10 : decode cX9_told 10 = .ok (.getfield 68, 3) := by decide +kernel
theorem dX9_told_13 : decode cX9_told 13 = .ok (.iload_n 1, 1) := by decide +kernel
theorem dX9_told_14 : decode cX9_told 14 = .ok (.iaload, 1) := by decide +kernel
theorem dX9_told_15 : decode cX9_told 15 = .ok (.goto 8, 3) := by decide +kernel
theorem dX9_told_18 : decode cX9_told 18 = .ok (.aload_n 0, 1) := by decide +kernel
theorem dX9_told_19 : decode cX9_told 19 = .ok (.iconst 1, 1) := by decide +kernel
theorem dX9_told_20 : decode cX9_told 20 = .ok (.invokevirtual 80, 3) := by decide +kernel
theorem dX9_told_23 : decode cX9_told 23 = .ok (.ireturn, 1) := by decide +kernel
theorem dX9_error_0 : decode cX9_error 0 = .ok (.aload_n 0, 1) := by decide +kernel
theorem dX9_error_1 : decode cX9_error 1 = .ok (.getfield 68, 3) := by decide +kernel
theorem dX9_error_4 : decode cX9_error 4 = .ok (.iload_n 1, 1) := by decide +kernel
theorem dX9_error_5 : decode cX9_error 5 = .ok (.dup2, 1) := by decide +kernel
theorem dX9_error_6 : decode cX9_error 6 = .ok (.iaload, 1) := by decide +kernel
theorem dX9_error_7 : decode cX9_error 7 = .ok (.iconst 1, 1) := by decide +kernel
theorem dX9_error_8 : decode cX9_error 8 = .ok (.iadd, 1) := by decide +kernel
theorem dX9_error_9 : decode cX9_error 9 = .ok (.iastore, 1) := by decide +kernel
theorem dX9_error_10 : decode cX9_error 10 = .ok (.ldc_w 330, 3) := by decide +kernel
theorem dX9_error_13 : decode cX9_error 13 = .ok (.iload_n 1, 1) := by decide +kernel
theorem dX9_error_14 : decode cX9_error 14 = .ok (.isub, 1) := by decide +kernel
theorem dX9_error_15 : decode cX9_error 15 = .ok (.ireturn, 1) := by decide +kernel
theorem dX9_howManyRest_0 : decode cX9_howManyRest 0 = .ok (.iconst 0, 1) := by decide +kernel
theorem dX9_howManyRest_1 : decode cX9_howManyRest 1 = .ok (.istore_n 1, 1) := by decide +kernel
theorem dX9_howManyRest_2 : decode cX9_howManyRest 2 = .ok (.iconst 0, 1) := by decide +kernel
theorem dX9_howManyRest_3 : decode cX9_howManyRest 3 = .ok (.istore_n 2, 1) := by decide +kernel
theorem dX9_howManyRest_4 : decode cX9_howManyRest 4 = .ok (.iload_n 2, 1) := by decide +kernel
theorem dX9_howManyRest_5 : decode cX9_howManyRest 5 = .ok (.aload_n 0, 1) := by decide +kernel
theorem dX9_howManyRest_6 : decode cX9_howManyRest 6 = .ok (.getfield 10, 3) := by decide +kernel
theorem dX9_howManyRest_9 : decode cX9_howManyRest 9 = .ok (.getfield 84, 3) := by decide +kernel
theorem dX9_howManyRest_12 : decode cX9_howManyRest 12 = .ok (.if_icmp .ge 36, 3) := by decide +kernel
theorem dX9_howManyRest_15 : decode cX9_howManyRest 15 = .ok (.iload_n 1, 1) := by decide +kernel
theorem dX9_howManyRest_16 : decode cX9_howManyRest 16 = .ok (.aload_n 0, 1) := by decide +kernel
theorem dX9_howManyRest_17 : decode cX9_howManyRest 17 = .ok (.getfield 37, 3) := by decide +kernel
theorem dX9_howManyRest_20 : decode cX9_howManyRest 20 = .ok (.aload_n 0, 1) := by decide +kernel
theorem dX9_howManyRest_21 : decode cX9_howManyRest 21 = .ok (.getfield 10, 3) := by decide +kernel
theorem dX9_howManyRest_24 : decode cX9_howManyRest 24 = .ok (.getfield 88, 3) := by decide +kernel
theorem dX9_howManyRest_27 : decode cX9_howManyRest 27 = .ok (.iload_n 2, 1) := by decide +kernel
theorem dX9_howManyRest_28 : decode cX9_howManyRest 28 = .ok (.aaload, 1) := by decide +kernel
theorem dX9_howManyRest_29 : decode cX9_howManyRest 29 = .ok (.invokevirtual 140, 3) := by decide +kernel
theorem dX9_howManyRest_32 : decode cX9_howManyRest 32 = .ok (.ifCond .eq 7, 3) := by decide +kernel
theorem dX9_howManyRest_35 : decode cX9_howManyRest 35 = .ok (.iconst 1, 1) := by decide +kernel
theorem dX9_howManyRest_36 : decode cX9_howManyRest 36 = .ok (.goto 4, 3) := by decide +kernel
theorem dX9_howManyRest_39 : decode cX9_howManyRest 39 = .ok (.iconst 0, 1) := by decide +kernel
theorem dX9_howManyRest_40 : decode cX9_howManyRest 40 = .ok (.iadd, 1) := by decide +kernel
theorem dX9_howManyRest_41 : decode cX9_howManyRest 41 = .ok (.istore_n 1, 1) := by decide +kernel
theorem dX9_howManyRest_42 : decode cX9_howManyRest 42 = .ok (.iinc 2 1, 3) := by decide +kernel
theorem dX9_howManyRest_45 : decode cX9_howManyRest 45 = .ok (.goto (-41), 3) := by decide +kernel
theorem dX9_howManyRest_48 : decode cX9_howManyRest 48 = .ok (.iload_n 1, 1) := by decide +kernel
theorem dX9_howManyRest_49 : decode cX9_howManyRest 49 = .ok (.ireturn, 1) := by decide +kernel
theorem dX9_isGood_0 : decode cX9_isGood 0 = .ok (.iload_n 1, 1) := by decide +kernel
theorem dX9_isGood_1 : decode cX9_isGood 1 = .ok (.iconst 0, 1) := by decide +kernel
theorem dX9_isGood_2 : decode cX9_isGood 2 = .ok (.aload_n 0, 1) := by decide +kernel
theorem dX9_isGood_3 : decode cX9_isGood 3 = .ok (.getfield 10, 3) := by decide +kernel
theorem dX9_isGood_6 : decode cX9_isGood 6 = .ok (.getfield 84, 3) := by decide +kernel
theorem dX9_isGood_9 : decode cX9_isGood 9 = .ok (.iconst 1, 1) := by decide +kernel
theorem dX9_isGood_10 : decode cX9_isGood 10 = .ok (.isub, 1) := by decide +kernel
theorem dX9_isGood_11 : decode cX9_isGood 11 = .ok (.invokestatic 104, 3) := by decide +kernel
theorem dX9_isGood_14 : decode cX9_isGood 14 = .ok (.ireturn, 1) := by decide +kernel
theorem dX9_isDoor_0 : decode cX9_isDoor 0 = .ok (.iload_n 1, 1) := by decide +kernel
theorem dX9_isDoor_1 : decode cX9_isDoor 1 = .ok (.iconst 0, 1) := by decide +kernel
theorem dX9_isDoor_2 : decode cX9_isDoor 2 = .ok (.aload_n 0, 1) := by decide +kernel
theorem dX9_isDoor_3 : decode cX9_isDoor 3 = .ok (.getfield 19, 3) := by decide +kernel
theorem dX9_isDoor_6 : decode cX9_isDoor 6 = .ok (.getfield 154, 3) := by decide +kernel
theorem dX9_isDoor_9 : decode cX9_isDoor 9 = .ok (.iconst 1, 1) := by decide +kernel
theorem dX9_isDoor_10 : decode cX9_isDoor 10 = .ok (.isub, 1) := by decide +kernel
theorem dX9_isDoor_11 : decode cX9_isDoor 11 = .ok (.invokestatic 104, 3) := by decide +kernel
theorem dX9_isDoor_14 : decode cX9_isDoor 14 = .ok (.ireturn, 1) := by decide +kernel
theorem dX9_isKm_0 : decode cX9_isKm 0 = .ok (.iload_n 0, 1) := by decide +kernel
theorem dX9_isKm_1 : decode cX9_isKm 1 = .ok (.iconst 0, 1) := by decide +kernel
theorem dX9_isKm_2 : decode cX9_isKm 2 = .ok (.bipush 69, 2) := by decide +kernel
theorem dX9_isKm_4 : decode cX9_isKm 4 = .ok (.invokestatic 104, 3) := by decide +kernel
theorem dX9_isKm_7 : decode cX9_isKm 7 = .ok (.ireturn, 1) := by decide +kernel
theorem dX9_isFloor_0 : decode cX9_isFloor 0 = .ok (.iload_n 0, 1) := by decide +kernel
theorem dX9_isFloor_1 : decode cX9_isFloor 1 = .ok (.iconst 0, 1) := by decide +kernel
theorem dX9_isFloor_2 : decode cX9_isFloor 2 = .ok (.bipush 40, 2) := by decide +kernel
theorem dX9_isFloor_4 : decode cX9_isFloor 4 = .ok (.invokestatic 104, 3) := by decide +kernel
theorem dX9_isFloor_7 : decode cX9_isFloor 7 = .ok (.ireturn, 1) := by decide +kernel
theorem dX9_isMiddle_0 : decode cX9_isMiddle 0 = .ok (.iload_n 0, 1) := by decide +kernel
theorem dX9_isMiddle_1 : decode cX9_isMiddle 1 = .ok (.bipush 16, 2) := by decide +kernel
theorem dX9_isMiddle_3 : decode cX9_isMiddle 3 = .ok (.bipush 24, 2) := by decide +kernel
theorem dX9_isMiddle_5 : decode cX9_isMiddle 5 = .ok (.invokestatic 104, 3) := by decide +kernel
theorem dX9_isMiddle_8 : decode cX9_isMiddle 8 = .ok (.ireturn, 1) := by decide +kernel
theorem dX9_isPush_0 : decode cX9_isPush 0 = .ok (.iload_n 0, 1) := by decide +kernel
theorem dX9_isPush_1 : decode cX9_isPush 1 = .ok (.bipush (-9), 2) := by decide +kernel
theorem dX9_isPush_3 : decode cX9_isPush 3 = .ok (.bipush 9, 2) := by decide +kernel
theorem dX9_isPush_5 : decode cX9_isPush 5 = .ok (.invokestatic 104, 3) := by decide +kernel
theorem dX9_isPush_8 : decode cX9_isPush 8 = .ok (.ireturn, 1) := by decide +kernel
theorem dX9_isSide_0 : decode cX9_isSide 0 = .ok (.iload_n 0, 1) := by decide +kernel
theorem dX9_isSide_1 : decode cX9_isSide 1 = .ok (.iconst 0, 1) := by decide +kernel
theorem dX9_isSide_2 : decode cX9_isSide 2 = .ok (.iconst 1, 1) := by decide +kernel
theorem dX9_isSide_3 : decode cX9_isSide 3 = .ok (.invokestatic 104, 3) := by decide +kernel
theorem dX9_isSide_6 : decode cX9_isSide 6 = .ok (.ireturn, 1) := by decide +kernel
theorem dX9_isUse_0 : decode cX9_isUse 0 = .ok (.iload_n 0, 1) := by decide +kernel
theorem dX9_isUse_1 : decode cX9_isUse 1 = .ok (.iconst 0, 1) := by decide +kernel
theorem dX9_isUse_2 : decode cX9_isUse 2 = .ok (.iconst 1, 1) := by decide +kernel
theorem dX9_isUse_3 : decode cX9_isUse 3 = .ok (.invokestatic 104, 3) := by decide +kernel
theorem dX9_isUse_6 : decode cX9_isUse 6 = .ok (.ireturn, 1) := by decide +kernel
theorem dX9_isSheet_0 : decode cX9_isSheet 0 = .ok (.iload_n 0, 1) := by decide +kernel
theorem dX9_isSheet_1 : decode cX9_isSheet 1 = .ok (.iconst 0, 1) := by decide +kernel
theorem dX9_isSheet_2 : decode cX9_isSheet 2 = .ok (.iconst 3, 1) := by decide +kernel
theorem dX9_isSheet_3 : decode cX9_isSheet 3 = .ok (.invokestatic 104, 3) := by decide +kernel
theorem dX9_isSheet_6 : decode cX9_isSheet 6 = .ok (.ireturn, 1) := by decide +kernel
theorem dX9_isUnder_0 : decode cX9_isUnder 0 = .ok (.iload_n 0, 1) := by decide +kernel
theorem dX9_isUnder_1 : decode cX9_isUnder 1 = .ok (.istore_n 2, 1) := by decide +kernel
theorem dX9_isUnder_2 : decode cX9_isUnder 2 = .ok (.iconst 0, 1) := by decide +kernel
theorem dX9_isUnder_3 : decode cX9_isUnder 3 = .ok (.istore_n 3, 1) := by decide +kernel
theorem dX9_isUnder_4 : decode cX9_isUnder 4 = .ok (.iload_n 3, 1) := by decide +kernel
theorem dX9_isUnder_5 : decode cX9_isUnder 5 = .ok (.bipush 7, 2) := by decide +kernel
theorem dX9_isUnder_7 : decode cX9_isUnder 7 = .ok (.if_icmp .ge 26, 3) := by decide +kernel
theorem dX9_isUnder_10 : decode cX9_isUnder 10 = .ok (.iload_n 2, 1) := by decide +kernel
theorem dX9_isUnder_11 : decode cX9_isUnder 11 = .ok (.ifCond .lt 22, 3) := by decide +kernel
theorem dX9_isUnder_14 : decode cX9_isUnder 14 = .ok (.iload_n 2, 1) := by decide +kernel
theorem dX9_isUnder_15 : decode cX9_isUnder 15 = .ok (.iload_n 1, 1) := by decide +kernel
theorem dX9_isUnder_16 : decode cX9_isUnder 16 = .ok (.if_icmp .ne 5, 3) := by decide +kernel
theorem dX9_isUnder_19 : decode cX9_isUnder 19 = .ok (.iconst 1, 1) := by decide +kernel
theorem dX9_isUnder_20 : decode cX9_isUnder 20 = .ok (.ireturn, 1) := by decide +kernel
theorem dX9_isUnder_21 : decode cX9_isUnder 21 = .ok (.getstatic 331, 3) := by decide +kernel
theorem dX9_isUnder_24 : decode cX9_isUnder 24 = .ok (.iload_n 2, 1) := by decide +kernel
theorem dX9_isUnder_25 : decode cX9_isUnder 25 = .ok (.iaload, 1) := by decide +kernel
theorem dX9_isUnder_26 : decode cX9_isUnder 26 = .ok (.istore_n 2, 1) := by decide +kernel
theorem dX9_isUnder_27 : decode cX9_isUnder 27 = .ok (.iinc 3 1, 3) := by decide +kernel
theorem dX9_isUnder_30 : decode cX9_isUnder 30 = .ok (.goto (-26), 3) := by decide +kernel
theorem dX9_isUnder_33 : decode cX9_isUnder 33 = .ok (.iconst 0, 1) := by decide +kernel
theorem dX9_isUnder_34 : decode cX9_isUnder 34 = .ok (.ireturn, 1) := by decide +kernel
theorem dX9_pushBySize_0 : decode cX9_pushBySize 0 = .ok (.iload_n 0, 1) := by decide +kernel
theorem dX9_pushBySize_1 : decode cX9_pushBySize 1 = .ok (.iconst 2, 1) := by decide +kernel
theorem dX9_pushBySize_2 : decode cX9_pushBySize 2 = .ok (.irem, 1) := by decide +kernel
theorem dX9_pushBySize_3 : decode cX9_pushBySize 3 = .ok (.iconst 1, 1) := by decide +kernel
theorem dX9_pushBySize_4 : decode cX9_pushBySize 4 = .ok (.if_icmp .ne 12, 3) := by decide +kernel
theorem dX9_pushBySize_7 : decode cX9_pushBySize 7 = .ok (.iload_n 0, 1) := by decide +kernel
theorem dX9_pushBySize_8 : decode cX9_pushBySize 8 = .ok (.iconst 1, 1) := by decide +kernel
theorem dX9_pushBySize_9 : decode cX9_pushBySize 9 = .ok (.iadd, 1) := by decide +kernel
theorem dX9_pushBySize_10 : decode cX9_pushBySize 10 = .ok (.ineg, 1) := by decide +kernel
theorem dX9_pushBySize_11 : decode cX9_pushBySize 11 = .ok (.iconst 2, 1) := by decide +kernel
theorem dX9_pushBySize_12 : decode cX9_pushBySize 12 = .ok (.idiv, 1) := by decide +kernel
theorem dX9_pushBySize_13 : decode cX9_pushBySize 13 = .ok (.goto 6, 3) := by decide +kernel
theorem dX9_pushBySize_16 : decode cX9_pushBySize 16 = .ok (.iload_n 0, 1) := by decide +kernel
theorem dX9_pushBySize_17 : decode cX9_pushBySize 17 = .ok (.iconst 2, 1) := by decide +kernel
theorem dX9_pushBySize_18 : decode cX9_pushBySize 18 = .ok (.idiv, 1) := by decide +kernel
theorem dX9_pushBySize_19 : decode cX9_pushBySize 19 = .ok (.ireturn, 1) := by decide +kernel
theorem dX9_within_0 : decode cX9_within 0 = .ok (.iload_n 0, 1) := by decide +kernel
theorem dX9_within_1 : decode cX9_within 1 = .ok (.iload_n 1, 1) := by decide +kernel
theorem dX9_within_2 : decode cX9_within 2 = .ok (.if_icmp .lt 12, 3) := by decide +kernel
theorem dX9_within_5 : decode cX9_within 5 = .ok (.iload_n 0, 1) := by decide +kernel
theorem dX9_within_6 : decode cX9_within 6 = .ok (.iload_n 2, 1) := by decide +kernel
theorem dX9_within_7 : decode cX9_within 7 = .ok (.if_icmp .gt 7, 3) := by decide +kernel
theorem dX9_within_10 : decode cX9_within 10 = .ok (.iconst 1, 1) := by decide +kernel
theorem dX9_within_11 : decode cX9_within 11 = .ok (.goto 4, 3) := by decide +kernel
theorem dX9_within_14 : decode cX9_within 14 = .ok (.iconst 0, 1) := by decide +kernel
theorem dX9_within_15 : decode cX9_within 15 = .ok (.ireturn, 1) := by decide +kernel
theorem dX9_held_0 : decode cX9_held 0 = .ok (.iload_n 1, 1) := by decide +kernel
theorem dX9_held_1 : decode cX9_held 1 = .ok (.iload_n 2, 1) := by decide +kernel
theorem dX9_held_2 : decode cX9_held 2 = .ok (.iload_n 0, 1) := by decide +kernel
theorem dX9_held_3 : decode cX9_held 3 = .ok (.invokestatic 307, 3) := by decide +kernel
theorem dX9_held_6 : decode cX9_held 6 = .ok (.invokestatic 334, 3) := by decide +kernel
theorem dX9_held_9 : decode cX9_held 9 = .ok (.ireturn, 1) := by decide +kernel
theorem dX10_init_0 : decode cX10_init 0 = .ok (.aload_n 0, 1) := by decide +kernel
theorem dX10_init_1 : decode cX10_init 1 = .ok (.invokespecial 1, 3) := by decide +kernel
theorem dX10_init_4 : decode cX10_init 4 = .ok (.aload_n 0, 1) := by decide +kernel
theorem dX10_init_5 : decode cX10_init 5 = .ok (.sipush 322, 3) := by decide +kernel
theorem dX10_init_8 : decode cX10_init 8 = .ok (.newarray .int, 2) := by decide +kernel
theorem dX10_init_10 : decode cX10_init 10 = .ok (.putfield 9, 3) := by decide +kernel
theorem dX10_init_13 : decode cX10_init 13 = .ok (.aload_n 0, 1) := by decide +kernel
theorem dX10_init_14 : decode cX10_init 14 = .ok (.sipush 322, 3) := by decide +kernel
theorem dX10_init_17 : decode cX10_init 17 = .ok (.newarray .int, 2) := by decide +kernel
theorem dX10_init_19 : decode cX10_init 19 = .ok (.putfield 13, 3) := by decide +kernel
theorem dX10_init_22 : decode cX10_init 22 = .ok (.aload_n 0, 1) := by decide +kernel
theorem dX10_init_23 : decode cX10_init 23 = .ok (.bipush 6, 2) := by decide +kernel
theorem dX10_init_25 : decode cX10_init 25 = .ok (.newarray .int, 2) := by decide +kernel
theorem dX10_init_27 : decode cX10_init 27 = .ok (.putfield 16, 3) := by decide +kernel
theorem dX10_init_30 : decode cX10_init 30 = .ok (.aload_n 0, 1) := by decide +kernel
theorem dX10_init_31 : decode cX10_init 31 = .ok (.bipush 100, 2) := by decide +kernel
theorem dX10_init_33 : decode cX10_init 33 = .ok (.newarray .int, 2) := by decide +kernel
theorem dX10_init_35 : decode cX10_init 35 = .ok (.putfield 19, 3) := by decide +kernel
theorem dX10_init_38 : decode cX10_init 38 = .ok (.aload_n 0, 1) := by decide +kernel
theorem dX10_init_39 : decode cX10_init 39 = .ok (.bipush 50, 2) := by decide +kernel
theorem dX10_init_41 : decode cX10_init 41 = .ok (.newarray .int, 2) := by decide +kernel
theorem dX10_init_43 : decode cX10_init 43 = .ok (.putfield 22, 3) := by decide +kernel
theorem dX10_init_46 : decode cX10_init 46 = .ok (.aload_n 0, 1) := by decide +kernel
theorem dX10_init_47 : decode cX10_init 47 = .ok (.iconst 3, 1) := by decide +kernel
theorem dX10_init_48 : decode cX10_init 48 = .ok (.newarray .int, 2) := by decide +kernel
theorem dX10_init_50 : decode cX10_init 50 = .ok (.putfield 25, 3) := by decide +kernel
theorem dX10_init_53 : decode cX10_init 53 = .ok (.aload_n 0, 1) := by decide +kernel
theorem dX10_init_54 : decode cX10_init 54 = .ok (.bipush 42, 2) := by decide +kernel
theorem dX10_init_56 : decode cX10_init 56 = .ok (.newarray .int, 2) := by decide +kernel
theorem dX10_init_58 : decode cX10_init 58 = .ok (.putfield 28, 3) := by decide +kernel
theorem dX10_init_61 : decode cX10_init 61 = .ok (.aload_n 0, 1) := by decide +kernel
theorem dX10_init_62 : decode cX10_init 62 = .ok (.bipush 8, 2) := by decide +kernel
theorem dX10_init_64 : decode cX10_init 64 = .ok (.newarray .int, 2) := by decide +kernel
theorem dX10_init_66 : decode cX10_init 66 = .ok (.putfield 31, 3) := by decide +kernel
theorem dX10_init_69 : decode cX10_init 69 = .ok (.aload_n 0, 1) := by decide +kernel
theorem dX10_init_70 : decode cX10_init 70 = .ok (.bipush 8, 2) := by decide +kernel
theorem dX10_init_72 : decode cX10_init 72 = .ok (.newarray .int, 2) := by decide +kernel
theorem dX10_init_74 : decode cX10_init 74 = .ok (.putfield 34, 3) := by decide +kernel
theorem dX10_init_77 : decode cX10_init 77 = .ok (.aload_n 0, 1) := by decide +kernel
theorem dX10_init_78 : decode cX10_init 78 = .ok (.iconst 4, 1) := by decide +kernel
theorem dX10_init_79 : decode cX10_init 79 = .ok (.newarray .int, 2) := by decide +kernel
theorem dX10_init_81 : decode cX10_init 81 = .ok (.putfield 37, 3) := by decide +kernel
theorem dX10_init_84 : decode cX10_init 84 = .ok (.aload_n 0, 1) := by decide +kernel
theorem dX10_init_85 : decode cX10_init 85 = .ok (.iconst 4, 1) := by decide +kernel
theorem dX10_init_86 : decode cX10_init 86 = .ok (.newarray .int, 2) := by decide +kernel
theorem dX10_init_88 : decode cX10_init 88 = .ok (.putfield 40, 3) := by decide +kernel
theorem dX10_init_91 : decode cX10_init 91 = .ok (.aload_n 0, 1) := by decide +kernel
theorem dX10_init_92 : decode cX10_init 92 = .ok (.sipush 160, 3) := by decide +kernel
theorem dX10_init_95 : decode cX10_init 95 = .ok (.newarray .int, 2) := by decide +kernel
theorem dX10_init_97 : decode cX10_init 97 = .ok (.putfield 43, 3) := by decide +kernel
theorem dX10_init_100 : decode cX10_init 100 = .ok (.aload_n 0, 1) := by decide +kernel
theorem dX10_init_101 : decode cX10_init 101 = .ok (.bipush 40, 2) := by decide +kernel
theorem dX10_init_103 : decode cX10_init 103 = .ok (.newarray .int, 2) := by decide +kernel
theorem dX10_init_105 : decode cX10_init 105 = .ok (.putfield 46, 3) := by decide +kernel
theorem dX10_init_108 : decode cX10_init 108 = .ok (.aload_n 0, 1) := by decide +kernel
theorem dX10_init_109 : decode cX10_init 109 = .ok (.bipush 40, 2) := by decide +kernel
theorem dX10_init_111 : decode cX10_init 111 = .ok (.newarray .int, 2) := by decide +kernel
theorem dX10_init_113 : decode cX10_init 113 = .ok (.putfield 49, 3) := by decide +kernel
theorem dX10_init_116 : decode cX10_init 116 = .ok (.aload_n 0, 1) := by decide +kernel
theorem dX10_init_117 : decode cX10_init 117 = .ok (.getfield 9, 3) := by decide +kernel
theorem dX10_init_120 : decode cX10_init 120 = .ok (.iconst 2, 1) := by decide +kernel
theorem dX10_init_121 : decode cX10_init 121 = .ok (.bipush 12, 2) := by decide +kernel
theorem dX10_init_123 : decode cX10_init 123 = .ok (.iastore, 1) := by decide +kernel
theorem dX10_init_124 : decode cX10_init 124 = .ok (.aload_n 0, 1) := by decide +kernel
theorem dX10_init_125 : decode cX10_init 125 = .ok (.getfield 9, 3) := by decide +kernel
theorem dX10_init_128 : decode cX10_init 128 = .ok (.iconst 3, 1) := by decide +kernel
theorem dX10_init_129 : decode cX10_init 129 = .ok (.iconst 1, 1) := by decide +kernel
theorem dX10_init_130 : decode cX10_init 130 = .ok (.iastore, 1) := by decide +kernel
theorem dX10_init_131 : decode cX10_init 131 = .ok (.aload_n 0, 1) := by decide +kernel
theorem dX10_init_132 : decode cX10_init 132 = .ok (.getfield 9, 3) := by decide +kernel
theorem dX10_init_135 : decode cX10_init 135 = .ok (.iconst 4, 1) := by decide +kernel
theorem dX10_init_136 : decode cX10_init 136 = .ok (.iconst (-1), 1) := by decide +kernel
theorem dX10_init_137 : decode cX10_init 137 = .ok (.iastore, 1) := by decide +kernel
theorem dX10_init_138 : decode cX10_init 138 = .ok (.aload_n 0, 1) := by decide +kernel
theorem dX10_init_139 : decode cX10_init 139 = .ok (.getfield 9, 3) := by decide +kernel
theorem dX10_init_142 : decode cX10_init 142 = .ok (.iconst 5, 1) := by decide +kernel
theorem dX10_init_143 : decode cX10_init 143 = .ok (.iconst 1, 1) := by decide +kernel
theorem dX10_init_144 : decode cX10_init 144 = .ok (.iastore, 1) := by decide +kernel
theorem dX10_init_145 : decode cX10_init 145 = .ok (.aload_n 0, 1) := by decide +kernel
theorem dX10_init_146 : decode cX10_init 146 = .ok (.getfield 9, 3) := by decide +kernel
theorem dX10_init_149 : decode cX10_init 149 = .ok (.bipush 120, 2) := by decide +kernel
theorem dX10_init_151 : decode cX10_init 151 = .ok (.iconst (-1), 1) := by decide +kernel
theorem dX10_init_152 : decode cX10_init 152 = .ok (.iastore, 1) := by decide +kernel
theorem dX10_init_153 : decode cX10_init 153 = .ok (.aload_n 0, 1) := by decide +kernel
theorem dX10_init_154 : decode cX10_init 154 = .ok (.getfield 9, 3) := by decide +kernel
theorem dX10_init_157 : decode cX10_init 157 = .ok (.sipush 221, 3) := by decide +kernel
theorem dX10_init_160 : decode cX10_init 160 = .ok (.iconst (-1), 1) := by decide +kernel
theorem dX10_init_161 : decode cX10_init 161 = .ok (.iastore, 1) := by decide +kernel
theorem dX10_init_162 : decode cX10_init 162 = .ok (.return_, 1) := by decide +kernel
theorem dX10_error_0 : decode cX10_error 0 = .ok (.aload_n 0, 1) := by decide +kernel
theorem dX10_error_1 : decode cX10_error 1 = .ok (.getfield 16, 3) := by decide +kernel
theorem dX10_error_4 : decode cX10_error 4 = .ok (.iload_n 1, 1) := by decide +kernel
theorem dX10_error_5 : decode cX10_error 5 = .ok (.dup2, 1) := by decide +kernel
theorem dX10_error_6 : decode cX10_error 6 = .ok (.iaload, 1) := by decide +kernel
theorem dX10_error_7 : decode cX10_error 7 = .ok (.iconst 1, 1) := by decide +kernel
theorem dX10_error_8 : decode cX10_error 8 = .ok (.iadd, 1) := by decide +kernel
theorem dX10_error_9 : decode cX10_error 9 = .ok (.iastore, 1) := by decide +kernel
theorem dX10_error_10 : decode cX10_error 10 = .ok (.ldc 52, 2) := by decide +kernel
theorem dX10_error_12 : decode cX10_error 12 = .ok (.iload_n 1, 1) := by decide +kernel
theorem dX10_error_13 : decode cX10_error 13 = .ok (.isub, 1) := by decide +kernel
theorem dX10_error_14 : decode cX10_error 14 = .ok (.ireturn, 1) := by decide +kernel
theorem dX10_isIn_0 : decode cX10_isIn 0 = .ok (.lload_n 0, 1) := by decide +kernel
theorem dX10_isIn_1 : decode cX10_isIn 1 = .ok (.lload_n 2, 1) := by decide +kernel
theorem dX10_isIn_2 : decode cX10_isIn 2 = .ok (.lcmp, 1) := by decide +kernel
theorem dX10_isIn_3 : decode cX10_isIn 3 = .ok (.ifCond .lt 14, 3) := by decide +kernel
theorem dX10_isIn_6 : decode cX10_isIn 6 = .ok (.lload_n 0, 1) := by decide +kernel
theorem dX10_isIn_7 : decode cX10_isIn 7 = .ok (.lload 4, 2) := by decide +kernel
theorem dX10_isIn_9 : decode cX10_isIn 9 = .ok (.lcmp, 1) := by decide +kernel
theorem dX10_isIn_10 : decode cX10_isIn 10 = .ok (.ifCond .gt 7, 3) := by decide +kernel
theorem dX10_isIn_13 : decode cX10_isIn 13 = .ok (.iconst 1, 1) := by decide +kernel
theorem dX10_isIn_14 : decode cX10_isIn 14 = .ok (.goto 4, 3) := by decide +kernel
theorem dX10_isIn_17 : decode cX10_isIn 17 = .ok (.iconst 0, 1) := by decide +kernel
theorem dX10_isIn_18 : decode cX10_isIn 18 = .ok (.ireturn, 1) := by decide +kernel
theorem dX10_within_0 : decode cX10_within 0 = .ok (.iload_n 0, 1) := by decide +kernel
theorem dX10_within_1 : decode cX10_within 1 = .ok (.iload_n 1, 1) := by decide +kernel
theorem dX10_within_2 : decode cX10_within 2 = .ok (.if_icmp .ge 7, 3) := by decide +kernel
theorem dX10_within_5 : decode cX10_within 5 = .ok (.iload_n 1, 1) := by decide +kernel
theorem dX10_within_6 : decode cX10_within 6 = .ok (.goto 13, 3) := by decide +kernel
theorem dX10_within_9 : decode cX10_within 9 = .ok (.iload_n 0, 1) := by decide +kernel
theorem dX10_within_10 : decode cX10_within 10 = .ok (.iload_n 2, 1) := by decide +kernel
theorem dX10_within_11 : decode cX10_within 11 = .ok (.if_icmp .le 7, 3) := by decide +kernel
theorem dX10_within_14 : decode cX10_within 14 = .ok (.iload_n 2, 1) := by decide +kernel
theorem dX10_within_15 : decode cX10_within 15 = .ok (.goto 4, 3) := by decide +kernel
theorem dX10_within_18 : decode cX10_within 18 = .ok (.iload_n 0, 1) := by decide +kernel
theorem dX10_within_19 : decode cX10_within 19 = .ok (.ireturn, 1) := by decide +kernel
theorem dX10_size_0 : decode cX10_size 0 = .ok (.iload_n 0, 1) := by decide +kernel
theorem dX10_size_1 : decode cX10_size 1 = .ok (.ifCond .ge 8, 3) := by decide +kernel
theorem dX10_size_4 : decode cX10_size 4 = .ok (.iload_n 0, 1) := by decide +kernel
theorem dX10_size_5 : decode cX10_size 5 = .ok (.ineg, 1) := by decide +kernel
theorem dX10_size_6 : decode cX10_size 6 = .ok (.goto 4, 3) := by decide +kernel
theorem dX10_size_9 : decode cX10_size 9 = .ok (.iload_n 0, 1) := by decide +kernel
theorem dX10_size_10 : decode cX10_size 10 = .ok (.ireturn, 1) := by decide +kernel
theorem dX10_isGood_0 : decode cX10_isGood 0 = .ok (.iload_n 1, 1) := by decide +kernel
theorem dX10_isGood_1 : decode cX10_isGood 1 = .ok (.i2l, 1) := by decide +kernel
theorem dX10_isGood_2 : decode cX10_isGood 2 = .ok (.lconst 0, 1) := by decide +kernel
theorem dX10_isGood_3 : decode cX10_isGood 3 = .ok (.aload_n 0, 1) := by decide +kernel
theorem dX10_isGood_4 : decode cX10_isGood 4 = .ok (.getfield 9, 3) := by decide +kernel
theorem dX10_isGood_7 : decode cX10_isGood 7 = .ok (.bipush 6, 2) := by decide +kernel
theorem dX10_isGood_9 : decode cX10_isGood 9 = .ok (.iaload, 1) := by decide +kernel
theorem dX10_isGood_10 : decode cX10_isGood 10 = .ok (.iconst 1, 1) := by decide +kernel
theorem dX10_isGood_11 : decode cX10_isGood 11 = .ok (.isub, 1) := by decide +kernel
theorem dX10_isGood_12 : decode cX10_isGood 12 = .ok (.i2l, 1) := by decide +kernel
theorem dX10_isGood_13 : decode cX10_isGood 13 = .ok (.invokestatic 53, 3) := by decide +kernel
theorem dX10_isGood_16 : decode cX10_isGood 16 = .ok (.ireturn, 1) := by decide +kernel
theorem dX10_isSide_0 : decode cX10_isSide 0 = .ok (.iload_n 0, 1) := by decide +kernel
theorem dX10_isSide_1 : decode cX10_isSide 1 = .ok (.i2l, 1) := by decide +kernel
theorem dX10_isSide_2 : decode cX10_isSide 2 = .ok (.lconst 0, 1) := by decide +kernel
theorem dX10_isSide_3 : decode cX10_isSide 3 = .ok (.lconst 1, 1) := by decide +kernel
theorem dX10_isSide_4 : decode cX10_isSide 4 = .ok (.invokestatic 53, 3) := by decide +kernel
theorem dX10_isSide_7 : decode cX10_isSide 7 = .ok (.ireturn, 1) := by decide +kernel
theorem dX10_isPush_0 : decode cX10_isPush 0 = .ok (.iload_n 0, 1) := by decide +kernel
theorem dX10_isPush_1 : decode cX10_isPush 1 = .ok (.i2l, 1) := by decide +kernel
theorem dX10_isPush_2 : decode cX10_isPush 2 = .ok (.ldc2_w 57, 3) := by decide +kernel
theorem dX10_isPush_5 : decode cX10_isPush 5 = .ok (.ldc2_w 59, 3) := by decide +kernel
theorem dX10_isPush_8 : decode cX10_isPush 8 = .ok (.invokestatic 53, 3) := by decide +kernel
theorem dX10_isPush_11 : decode cX10_isPush 11 = .ok (.ireturn, 1) := by decide +kernel
theorem dX10_of_0 : decode cX10_of 0 = .ok (.aload_n 0, 1) := by decide +kernel
theorem dX10_of_1 : decode cX10_of 1 = .ok (.getfield 9, 3) := by decide +kernel
theorem dX10_of_4 : decode cX10_of 4 = .ok (.bipush 10, 2) := by decide +kernel
theorem dX10_of_6 : decode cX10_of 6 = .ok (.iconst 5, 1) := by decide +kernel
theorem dX10_of_7 : decode cX10_of 7 = .ok (.iload_n 1, 1) := by decide +kernel
theorem dX10_of_8 : decode cX10_of 8 = .ok (.imul, 1) := by decide +kernel
theorem dX10_of_9 : decode cX10_of 9 = .ok (.iadd, 1) := by decide +kernel
theorem dX10_of_10 : decode cX10_of 10 = .ok (.iload_n 2, 1) := by decide +kernel
theorem dX10_of_11 : decode cX10_of 11 = .ok (.iadd, 1) := by decide +kernel
theorem dX10_of_12 : decode cX10_of 12 = .ok (.iaload, 1) := by decide +kernel
theorem dX10_of_13 : decode cX10_of 13 = .ok (.ireturn, 1) := by decide +kernel
theorem dX10_sets_0 : decode cX10_sets 0 = .ok (.aload_n 0, 1) := by decide +kernel
theorem dX10_sets_1 : decode cX10_sets 1 = .ok (.getfield 9, 3) := by decide +kernel
theorem dX10_sets_4 : decode cX10_sets 4 = .ok (.bipush 10, 2) := by decide +kernel
theorem dX10_sets_6 : decode cX10_sets 6 = .ok (.iconst 5, 1) := by decide +kernel
theorem dX10_sets_7 : decode cX10_sets 7 = .ok (.iload_n 1, 1) := by decide +kernel
theorem dX10_sets_8 : decode cX10_sets 8 = .ok (.imul, 1) := by decide +kernel
theorem dX10_sets_9 : decode cX10_sets 9 = .ok (.iadd, 1) := by decide +kernel
theorem dX10_sets_10 : decode cX10_sets 10 = .ok (.iload_n 2, 1) := by decide +kernel
theorem dX10_sets_11 : decode cX10_sets 11 = .ok (.iadd, 1) := by decide +kernel
theorem dX10_sets_12 : decode cX10_sets 12 = .ok (.iload_n 3, 1) := by decide +kernel
theorem dX10_sets_13 : decode cX10_sets 13 = .ok (.iastore, 1) := by decide +kernel
theorem dX10_sets_14 : decode cX10_sets 14 = .ok (.return_, 1) := by decide +kernel
theorem dX10_isUnder_0 : decode cX10_isUnder 0 = .ok (.iload_n 1, 1) := by decide +kernel
theorem dX10_isUnder_1 : decode cX10_isUnder 1 = .ok (.ifCond .eq 39, 3) := by decide +kernel
theorem dX10_isUnder_4 : decode cX10_isUnder 4 = .ok (.iload_n 0, 1) := by decide +kernel
theorem dX10_isUnder_5 : decode cX10_isUnder 5 = .ok (.iload_n 1, 1) := by decide +kernel
theorem dX10_isUnder_6 : decode cX10_isUnder 6 = .ok (.if_icmp .eq 34, 3) := by decide +kernel
theorem dX10_isUnder_9 : decode cX10_isUnder 9 = .ok (.iload_n 1, 1) := by decide +kernel
theorem dX10_isUnder_10 : decode cX10_isUnder 10 = .ok (.iconst 1, 1) := by decide +kernel
theorem dX10_isUnder_11 : decode cX10_isUnder 11 = .ok (.if_icmp .ne 9, 3) := by decide +kernel
theorem dX10_isUnder_14 : decode cX10_isUnder 14 = .ok (.iload_n 0, 1) := by decide +kernel
theorem dX10_isUnder_15 : decode cX10_isUnder 15 = .ok (.bipush 6, 2) := by decide +kernel
theorem dX10_isUnder_17 : decode cX10_isUnder 17 = .ok (.if_icmp .eq 23, 3) := by decide +kernel
theorem dX10_isUnder_20 : decode cX10_isUnder 20 = .ok (.iload_n 1, 1) := by decide +kernel
theorem dX10_isUnder_21 : decode cX10_isUnder 21 = .ok (.iconst 2, 1) := by decide +kernel
theorem dX10_isUnder_22 : decode cX10_isUnder 22 = .ok (.if_icmp .ne 8, 3) := by decide +kernel
theorem dX10_isUnder_25 : decode cX10_isUnder 25 = .ok (.iload_n 0, 1) := by decide +kernel
theorem dX10_isUnder_26 : decode cX10_isUnder 26 = .ok (.iconst 4, 1) := by decide +kernel
theorem dX10_isUnder_27 : decode cX10_isUnder 27 = .ok (.if_icmp .eq 13, 3) := by decide +kernel
theorem dX10_isUnder_30 : decode cX10_isUnder 30 = .ok (.iload_n 1, 1) := by decide +kernel
theorem dX10_isUnder_31 : decode cX10_isUnder 31 = .ok (.iconst 3, 1) := by decide +kernel
theorem dX10_isUnder_32 : decode cX10_isUnder 32 = .ok (.if_icmp .ne 12, 3) := by decide +kernel
theorem dX10_isUnder_35 : decode cX10_isUnder 35 = .ok (.iload_n 0, 1) := by decide +kernel
theorem dX10_isUnder_36 : decode cX10_isUnder 36 = .ok (.iconst 5, 1) := by decide +kernel
theorem dX10_isUnder_37 : decode cX10_isUnder 37 = .ok (.if_icmp .ne 7, 3) := by decide +kernel
theorem dX10_isUnder_40 : decode cX10_isUnder 40 = .ok (.iconst 1, 1) := by decide +kernel
theorem dX10_isUnder_41 : decode cX10_isUnder 41 = .ok (.goto 4, 3) := by decide +kernel
theorem dX10_isUnder_44 : decode cX10_isUnder 44 = .ok (.iconst 0, 1) := by decide +kernel
theorem dX10_isUnder_45 : decode cX10_isUnder 45 = .ok (.ireturn, 1) := by decide +kernel
theorem dX10_load_0 : decode cX10_load 0 = .ok (.iload_n 0, 1) := by decide +kernel
theorem dX10_load_1 : decode cX10_load 1 = .ok (.tableswitch 63 1 6 #[39, 63, 45, 47, 52, 54], 39) := by decide +kernel
theorem dX10_load_40 : decode cX10_load 40 = .ok (.iconst 3, 1) := by decide +kernel
theorem dX10_load_41 : decode cX10_load 41 = .ok (.iload_n 1, 1) := by decide +kernel
theorem dX10_load_42 : decode cX10_load 42 = .ok (.iconst 1, 1) := by decide +kernel
theorem dX10_load_43 : decode cX10_load 43 = .ok (.iadd, 1) := by decide +kernel
theorem dX10_load_44 : decode cX10_load 44 = .ok (.imul, 1) := by decide +kernel
theorem dX10_load_45 : decode cX10_load 45 = .ok (.ireturn, 1) := by decide +kernel
theorem dX10_load_46 : decode cX10_load 46 = .ok (.iconst 0, 1) := by decide +kernel
theorem dX10_load_47 : decode cX10_load 47 = .ok (.ireturn, 1) := by decide +kernel
theorem dX10_load_48 : decode cX10_load 48 = .ok (.iload_n 1, 1) := by decide +kernel
theorem dX10_load_49 : decode cX10_load 49 = .ok (.bipush 6, 2) := by decide +kernel
theorem dX10_load_51 : decode cX10_load 51 = .ok (.iadd, 1) := by decide +kernel
theorem dX10_load_52 : decode cX10_load 52 = .ok (.ireturn, 1) := by decide +kernel
theorem dX10_load_53 : decode cX10_load 53 = .ok (.iload_n 1, 1) := by decide +kernel
theorem dX10_load_54 : decode cX10_load 54 = .ok (.ireturn, 1) := by decide +kernel
theorem dX10_load_55 : decode cX10_load 55 = .ok (.iconst 3, 1) := by decide +kernel
theorem dX10_load_56 : decode cX10_load 56 = .ok (.iload_n 1, 1) := by decide +kernel
theorem dX10_load_57 : decode cX10_load 57 = .ok (.iconst 1, 1) := by decide +kernel
theorem dX10_load_58 : decode cX10_load 58 = .ok (.iadd, 1) := by decide +kernel
theorem dX10_load_59 : decode cX10_load 59 = .ok (.imul, 1) := by decide +kernel
theorem dX10_load_60 : decode cX10_load 60 = .ok (.bipush 20, 2) := by decide +kernel
theorem dX10_load_62 : decode cX10_load 62 = .ok (.iadd, 1) := by decide +kernel
theorem dX10_load_63 : decode cX10_load 63 = .ok (.ireturn, 1) := by decide +kernel
theorem dX10_load_64 : decode cX10_load 64 = .ok (.iload_n 1, 1) := by decide +kernel
theorem dX10_load_65 : decode cX10_load 65 = .ok (.iconst 1, 1) := by decide +kernel
theorem dX10_load_66 : decode cX10_load 66 = .ok (.iadd, 1) := by decide +kernel
theorem dX10_load_67 : decode cX10_load 67 = .ok (.ireturn, 1) := by decide +kernel
theorem dX10_pulled_0 : decode cX10_pulled 0 = .ok (.iload_n 0, 1) := by decide +kernel
theorem dX10_pulled_1 : decode cX10_pulled 1 = .ok (.iconst 3, 1) := by decide +kernel
theorem dX10_pulled_2 : decode cX10_pulled 2 = .ok (.if_icmp .eq 8, 3) := by decide +kernel
theorem dX10_pulled_5 : decode cX10_pulled 5 = .ok (.iload_n 0, 1) := by decide +kernel
theorem dX10_pulled_6 : decode cX10_pulled 6 = .ok (.iconst 5, 1) := by decide +kernel
theorem dX10_pulled_7 : decode cX10_pulled 7 = .ok (.if_icmp .ne 10, 3) := by decide +kernel
theorem dX10_pulled_10 : decode cX10_pulled 10 = .ok (.iload_n 1, 1) := by decide +kernel
theorem dX10_pulled_11 : decode cX10_pulled 11 = .ok (.iconst 2, 1) := by decide +kernel
theorem dX10_pulled_12 : decode cX10_pulled 12 = .ok (.idiv, 1) := by decide +kernel
theorem dX10_pulled_13 : decode cX10_pulled 13 = .ok (.ineg, 1) := by decide +kernel
theorem dX10_pulled_14 : decode cX10_pulled 14 = .ok (.goto 16, 3) := by decide +kernel
theorem dX10_pulled_17 : decode cX10_pulled 17 = .ok (.iload_n 0, 1) := by decide +kernel
theorem dX10_pulled_18 : decode cX10_pulled 18 = .ok (.bipush 6, 2) := by decide +kernel
theorem dX10_pulled_20 : decode cX10_pulled 20 = .ok (.if_icmp .ne 9, 3) := by decide +kernel
theorem dX10_pulled_23 : decode cX10_pulled 23 = .ok (.iconst 2, 1) := by decide +kernel
theorem dX10_pulled_24 : decode cX10_pulled 24 = .ok (.iload_n 1, 1) := by decide +kernel
theorem dX10_pulled_25 : decode cX10_pulled 25 = .ok (.imul, 1) := by decide +kernel
theorem dX10_pulled_26 : decode cX10_pulled 26 = .ok (.goto 4, 3) := by decide +kernel
theorem dX10_pulled_29 : decode cX10_pulled 29 = .ok (.iload_n 1, 1) := by decide +kernel
theorem dX10_pulled_30 : decode cX10_pulled 30 = .ok (.ireturn, 1) := by decide +kernel
theorem dX10_drag_0 : decode cX10_drag 0 = .ok (.iload_n 0, 1) := by decide +kernel
theorem dX10_drag_1 : decode cX10_drag 1 = .ok (.iconst 1, 1) := by decide +kernel
theorem dX10_drag_2 : decode cX10_drag 2 = .ok (.if_icmp .eq 9, 3) := by decide +kernel
theorem dX10_drag_5 : decode cX10_drag 5 = .ok (.iload_n 0, 1) := by decide +kernel
theorem dX10_drag_6 : decode cX10_drag 6 = .ok (.bipush 6, 2) := by decide +kernel
theorem dX10_drag_8 : decode cX10_drag 8 = .ok (.if_icmp .ne 7, 3) := by decide +kernel
theorem dX10_drag_11 : decode cX10_drag 11 = .ok (.iconst 0, 1) := by decide +kernel
theorem dX10_drag_12 : decode cX10_drag 12 = .ok (.goto 24, 3) := by decide +kernel
theorem dX10_drag_15 : decode cX10_drag 15 = .ok (.iload_n 0, 1) := by decide +kernel
theorem dX10_drag_16 : decode cX10_drag 16 = .ok (.iconst 3, 1) := by decide +kernel
theorem dX10_drag_17 : decode cX10_drag 17 = .ok (.if_icmp .ne 7, 3) := by decide +kernel
theorem dX10_drag_20 : decode cX10_drag 20 = .ok (.iconst 2, 1) := by decide +kernel
theorem dX10_drag_21 : decode cX10_drag 21 = .ok (.goto 15, 3) := by decide +kernel
theorem dX10_drag_24 : decode cX10_drag 24 = .ok (.iload_n 0, 1) := by decide +kernel
theorem dX10_drag_25 : decode cX10_drag 25 = .ok (.iconst 5, 1) := by decide +kernel
theorem dX10_drag_26 : decode cX10_drag 26 = .ok (.if_icmp .ne 7, 3) := by decide +kernel
theorem dX10_drag_29 : decode cX10_drag 29 = .ok (.iconst 1, 1) := by decide +kernel
theorem dX10_drag_30 : decode cX10_drag 30 = .ok (.goto 6, 3) := by decide +kernel
theorem dX10_drag_33 : decode cX10_drag 33 = .ok (.iload_n 1, 1) := by decide +kernel
theorem dX10_drag_34 : decode cX10_drag 34 = .ok (.iconst 2, 1) := by decide +kernel
theorem dX10_drag_35 : decode cX10_drag 35 = .ok (.irem, 1) := by decide +kernel
theorem dX10_drag_36 : decode cX10_drag 36 = .ok (.ireturn, 1) := by decide +kernel
theorem dX10_reach_0 : decode cX10_reach 0 = .ok (.iload_n 0, 1) := by decide +kernel
theorem dX10_reach_1 : decode cX10_reach 1 = .ok (.iconst 2, 1) := by decide +kernel
theorem dX10_reach_2 : decode cX10_reach 2 = .ok (.if_icmp .ne 9, 3) := by decide +kernel
theorem dX10_reach_5 : decode cX10_reach 5 = .ok (.iload_n 1, 1) := by decide +kernel
theorem dX10_reach_6 : decode cX10_reach 6 = .ok (.iconst 2, 1) := by decide +kernel
theorem dX10_reach_7 : decode cX10_reach 7 = .ok (.iadd, 1) := by decide +kernel
theorem dX10_reach_8 : decode cX10_reach 8 = .ok (.goto 18, 3) := by decide +kernel
theorem dX10_reach_11 : decode cX10_reach 11 = .ok (.iload_n 0, 1) := by decide +kernel
theorem dX10_reach_12 : decode cX10_reach 12 = .ok (.iconst 4, 1) := by decide +kernel
theorem dX10_reach_13 : decode cX10_reach 13 = .ok (.if_icmp .ne 11, 3) := by decide +kernel
theorem dX10_reach_16 : decode cX10_reach 16 = .ok (.iload_n 1, 1) := by decide +kernel
theorem dX10_reach_17 : decode cX10_reach 17 = .ok (.iconst 2, 1) := by decide +kernel
theorem dX10_reach_18 : decode cX10_reach 18 = .ok (.iadd, 1) := by decide +kernel
theorem dX10_reach_19 : decode cX10_reach 19 = .ok (.iconst 2, 1) := by decide +kernel
theorem dX10_reach_20 : decode cX10_reach 20 = .ok (.idiv, 1) := by decide +kernel
theorem dX10_reach_21 : decode cX10_reach 21 = .ok (.goto 5, 3) := by decide +kernel
theorem dX10_reach_24 : decode cX10_reach 24 = .ok (.bipush 40, 2) := by decide +kernel
theorem dX10_reach_26 : decode cX10_reach 26 = .ok (.ireturn, 1) := by decide +kernel
theorem dX10_loadOf_0 : decode cX10_loadOf 0 = .ok (.aload_n 0, 1) := by decide +kernel
theorem dX10_loadOf_1 : decode cX10_loadOf 1 = .ok (.iload_n 1, 1) := by decide +kernel
theorem dX10_loadOf_2 : decode cX10_loadOf 2 = .ok (.iconst 0, 1) := by decide +kernel
theorem dX10_loadOf_3 : decode cX10_loadOf 3 = .ok (.invokevirtual 61, 3) := by decide +kernel
theorem dX10_loadOf_6 : decode cX10_loadOf 6 = .ok (.aload_n 0, 1) := by decide +kernel
theorem dX10_loadOf_7 : decode cX10_loadOf 7 = .ok (.iload_n 1, 1) := by decide +kernel
theorem dX10_loadOf_8 : decode cX10_loadOf 8 = .ok (.iconst 1, 1) := by decide +kernel
theorem dX10_loadOf_9 : decode cX10_loadOf 9 = .ok (.invokevirtual 61, 3) := by decide +kernel
theorem dX10_loadOf_12 : decode cX10_loadOf 12 = .ok (.invokestatic 65, 3) := by decide +kernel
theorem dX10_loadOf_15 : decode cX10_loadOf 15 = .ok (.ireturn, 1) := by decide +kernel
theorem dX10_pulledNow_0 : decode cX10_pulledNow 0 = .ok (.aload_n 0, 1) := by decide +kernel
theorem dX10_pulledNow_1 : decode cX10_pulledNow 1 = .ok (.iload_n 1, 1) := by decide +kernel
theorem dX10_pulledNow_2 : decode cX10_pulledNow 2 = .ok (.iconst 0, 1) := by decide +kernel
theorem dX10_pulledNow_3 : decode cX10_pulledNow 3 = .ok (.invokevirtual 61, 3) := by decide +kernel
theorem dX10_pulledNow_6 : decode cX10_pulledNow 6 = .ok (.aload_n 0, 1) := by decide +kernel
theorem dX10_pulledNow_7 : decode cX10_pulledNow 7 = .ok (.iconst 0, 1) := by decide +kernel
theorem dX10_pulledNow_8 : decode cX10_pulledNow 8 = .ok (.aload_n 0, 1) := by decide +kernel
theorem dX10_pulledNow_9 : decode cX10_pulledNow 9 = .ok (.iload_n 1, 1) := by decide +kernel
theorem dX10_pulledNow_10 : decode cX10_pulledNow 10 = .ok (.iconst 2, 1) := by decide +kernel
theorem dX10_pulledNow_11 : decode cX10_pulledNow 11 = .ok (.invokevirtual 61, 3) := by decide +kernel
theorem dX10_pulledNow_14 : decode cX10_pulledNow 14 = .ok (.aload_n 0, 1) := by decide +kernel
theorem dX10_pulledNow_15 : decode cX10_pulledNow 15 = .ok (.iload_n 1, 1) := by decide +kernel
theorem dX10_pulledNow_16 : decode cX10_pulledNow 16 = .ok (.iconst 1, 1) := by decide +kernel
theorem dX10_pulledNow_17 : decode cX10_pulledNow 17 = .ok (.invokevirtual 61, 3) := by decide +kernel
theorem dX10_pulledNow_20 : decode cX10_pulledNow 20 = .ok (.iconst 0, 1) := by decide +kernel
theorem dX10_pulledNow_21 : decode cX10_pulledNow 21 = .ok (.invokevirtual 68, 3) := by decide +kernel
theorem dX10_pulledNow_24 : decode cX10_pulledNow 24 = .ok (.invokestatic 72, 3) := by decide +kernel
theorem dX10_pulledNow_27 : decode cX10_pulledNow 27 = .ok (.ireturn, 1) := by decide +kernel
theorem dX10_good_0 : decode cX10_good 0 = .ok (.iload_n 1, 1) := by decide +kernel
theorem dX10_good_1 : decode cX10_good 1 = .ok (.i2l, 1) := by decide +kernel
theorem dX10_good_2 : decode cX10_good 2 = .ok (.lconst 0, 1) := by decide +kernel
theorem dX10_good_3 : decode cX10_good 3 = .ok (.ldc2_w 75, 3) := by decide +kernel
theorem dX10_good_6 : decode cX10_good 6 = .ok (.invokestatic 53, 3) := by decide +kernel
theorem dX10_good_9 : decode cX10_good 9 = .ok (.ifCond .eq 15, 3) := by decide +kernel
theorem dX10_good_12 : decode cX10_good 12 = .ok (.iload_n 2, 1) := by decide +kernel
theorem dX10_good_13 : decode cX10_good 13 = .ok (.i2l, 1) := by decide +kernel
theorem dX10_good_14 : decode cX10_good 14 = .ok (.lconst 0, 1) := by decide +kernel
theorem dX10_good_15 : decode cX10_good 15 = .ok (.ldc2_w 77, 3) := by decide +kernel
theorem dX10_good_18 : decode cX10_good 18 = .ok (.invokestatic 53, 3) := by decide +kernel
theorem dX10_good_21 : decode cX10_good 21 = .ok (.ifCond .ne 9, 3) := by decide +kernel
theorem dX10_good_24 : decode cX10_good 24 = .ok (.aload_n 0, 1) := by decide +kernel
theorem dX10_good_25 : decode cX10_good 25 = .ok (.iconst 1, 1) := by decide +kernel
theorem dX10_good_26 : decode cX10_good 26 = .ok (.invokevirtual 79, 3) := by decide +kernel
theorem dX10_good_29 : decode cX10_good 29 = .ok (.ireturn, 1) := by decide +kernel
theorem dX10_good_30 : decode cX10_good 30 = .ok (.aload_n 0, 1) := by decide +kernel
theorem dX10_good_31 : decode cX10_good 31 = .ok (.getfield 9, 3) := by decide +kernel
theorem dX10_good_34 : decode cX10_good 34 = .ok (.bipush 6, 2) := by decide +kernel
theorem dX10_good_36 : decode cX10_good 36 = .ok (.iaload, 1) := by decide +kernel
theorem dX10_good_37 : decode cX10_good 37 = .ok (.bipush 8, 2) := by decide +kernel
theorem dX10_good_39 : decode cX10_good 39 = .ok (.if_icmp .ne 9, 3) := by decide +kernel
theorem dX10_good_42 : decode cX10_good 42 = .ok (.aload_n 0, 1) := by decide +kernel
theorem dX10_good_43 : decode cX10_good 43 = .ok (.iconst 4, 1) := by decide +kernel
theorem dX10_good_44 : decode cX10_good 44 = .ok (.invokevirtual 79, 3) := by decide +kernel
theorem dX10_good_47 : decode cX10_good 47 = .ok (.ireturn, 1) := by decide +kernel
theorem dX10_good_48 : decode cX10_good 48 = .ok (.aload_n 0, 1) := by decide +kernel
theorem dX10_good_49 : decode cX10_good 49 = .ok (.getfield 9, 3) := by decide +kernel
theorem dX10_good_52 : decode cX10_good 52 = .ok (.bipush 6, 2) := by decide +kernel
theorem dX10_good_54 : decode cX10_good 54 = .ok (.iaload, 1) := by decide +kernel
theorem dX10_good_55 : decode cX10_good 55 = .ok (.istore_n 3, 1) := by decide +kernel
theorem dX10_good_56 : decode cX10_good 56 = .ok (.aload_n 0, 1) := by decide +kernel
theorem dX10_good_57 : decode cX10_good 57 = .ok (.getfield 9, 3) := by decide +kernel
theorem dX10_good_60 : decode cX10_good 60 = .ok (.bipush 6, 2) := by decide +kernel
theorem dX10_good_62 : decode cX10_good 62 = .ok (.dup2, 1) := by decide +kernel
theorem dX10_good_63 : decode cX10_good 63 = .ok (.iaload, 1) := by decide +kernel
theorem dX10_good_64 : decode cX10_good 64 = .ok (.iconst 1, 1) := by decide +kernel
theorem dX10_good_65 : decode cX10_good 65 = .ok (.iadd, 1) := by decide +kernel
theorem dX10_good_66 : decode cX10_good 66 = .ok (.iastore, 1) := by decide +kernel
theorem dX10_good_67 : decode cX10_good 67 = .ok (.aload_n 0, 1) := by decide +kernel
theorem dX10_good_68 : decode cX10_good 68 = .ok (.iload_n 3, 1) := by decide +kernel
theorem dX10_good_69 : decode cX10_good 69 = .ok (.iconst 0, 1) := by decide +kernel
theorem dX10_good_70 : decode cX10_good 70 = .ok (.iload_n 1, 1) := by decide +kernel
theorem dX10_good_71 : decode cX10_good 71 = .ok (.bipush 10, 2) := by decide +kernel
theorem dX10_good_73 : decode cX10_good 73 = .ok (.idiv, 1) := by decide +kernel
theorem dX10_good_74 : decode cX10_good 74 = .ok (.invokevirtual 83, 3) := by decide +kernel
theorem dX10_good_77 : decode cX10_good 77 = .ok (.aload_n 0, 1) := by decide +kernel
theorem dX10_good_78 : decode cX10_good 78 = .ok (.iload_n 3, 1) := by decide +kernel
theorem dX10_good_79 : decode cX10_good 79 = .ok (.iconst 1, 1) := by decide +kernel
theorem dX10_good_80 : decode cX10_good 80 = .ok (.iload_n 1, 1) := by decide +kernel
theorem dX10_good_81 : decode cX10_good 81 = .ok (.bipush 10, 2) := by decide +kernel
theorem dX10_good_83 : decode cX10_good 83 = .ok (.irem, 1) := by decide +kernel
theorem dX10_good_84 : decode cX10_good 84 = .ok (.invokevirtual 83, 3) := by decide +kernel
theorem dX10_good_87 : decode cX10_good 87 = .ok (.aload_n 0, 1) := by decide +kernel
theorem dX10_good_88 : decode cX10_good 88 = .ok (.iload_n 3, 1) := by decide +kernel
theorem dX10_good_89 : decode cX10_good 89 = .ok (.iconst 2, 1) := by decide +kernel
theorem dX10_good_90 : decode cX10_good 90 = .ok (.iload_n 2, 1) := by decide +kernel
theorem dX10_good_91 : decode cX10_good 91 = .ok (.invokevirtual 83, 3) := by decide +kernel
theorem dX10_good_94 : decode cX10_good 94 = .ok (.aload_n 0, 1) := by decide +kernel
theorem dX10_good_95 : decode cX10_good 95 = .ok (.iload_n 3, 1) := by decide +kernel
theorem dX10_good_96 : decode cX10_good 96 = .ok (.iconst 3, 1) := by decide +kernel
theorem dX10_good_97 : decode cX10_good 97 = .ok (.iconst 0, 1) := by decide +kernel
theorem dX10_good_98 : decode cX10_good 98 = .ok (.invokevirtual 83, 3) := by decide +kernel
theorem dX10_good_101 : decode cX10_good 101 = .ok (.aload_n 0, 1) := by decide +kernel
theorem dX10_good_102 : decode cX10_good 102 = .ok (.iload_n 3, 1) := by decide +kernel
theorem dX10_good_103 : decode cX10_good 103 = .ok (.iconst 4, 1) := by decide +kernel
theorem dX10_good_104 : decode cX10_good 104 = .ok (.iload_n 2, 1) := by decide +kernel
theorem dX10_good_105 : decode cX10_good 105 = .ok (.invokevirtual 83, 3) := by decide +kernel
theorem dX10_good_108 : decode cX10_good 108 = .ok (.iload_n 3, 1) := by decide +kernel
theorem dX10_good_109 : decode cX10_good 109 = .ok (.ireturn, 1) := by decide +kernel
theorem dX10_ofGood_0 : decode cX10_ofGood 0 = .ok (.aload_n 0, 1) := by decide +kernel
theorem dX10_ofGood_1 : decode cX10_ofGood 1 = .ok (.iload_n 1, 1) := by decide +kernel
theorem dX10_ofGood_2 : decode cX10_ofGood 2 = .ok (.invokevirtual 87, 3) := by decide +kernel
theorem dX10_ofGood_5 : decode cX10_ofGood 5 = .ok (.ifCond .ne 9, 3) := by decide +kernel
theorem dX10_ofGood_8 : decode cX10_ofGood 8 = .ok (.aload_n 0, 1) := by decide +kernel
theorem dX10_ofGood_9 : decode cX10_ofGood 9 = .ok (.iconst 1, 1) := by decide +kernel
theorem dX10_ofGood_10 : decode cX10_ofGood 10 = .ok (.invokevirtual 79, 3) := by decide +kernel
theorem dX10_ofGood_13 : decode cX10_ofGood 13 = .ok (.ireturn, 1) := by decide +kernel
theorem dX10_ofGood_14 : decode cX10_ofGood 14 = .ok (.iload_n 2, 1) := by decide +kernel
theorem dX10_ofGood_15 : decode cX10_ofGood 15 = .ok (.tableswitch 118 0 9 #[53, 53, 53, 53, 53, 60, 66, 72, 88, 104], 53) := by decide +kernel
theorem dX10_ofGood_68 : decode cX10_ofGood 68 = .ok (.aload_n 0, 1) := by decide +kernel
theorem dX10_ofGood_69 : decode cX10_ofGood 69 = .ok (.iload_n 1, 1) := by decide +kernel
theorem dX10_ofGood_70 : decode cX10_ofGood 70 = .ok (.iload_n 2, 1) := by decide +kernel
theorem dX10_ofGood_71 : decode cX10_ofGood 71 = .ok (.invokevirtual 61, 3) := by decide +kernel
theorem dX10_ofGood_74 : decode cX10_ofGood 74 = .ok (.ireturn, 1) := by decide +kernel
theorem dX10_ofGood_75 : decode cX10_ofGood 75 = .ok (.aload_n 0, 1) := by decide +kernel
theorem dX10_ofGood_76 : decode cX10_ofGood 76 = .ok (.iload_n 1, 1) := by decide +kernel
theorem dX10_ofGood_77 : decode cX10_ofGood 77 = .ok (.invokevirtual 91, 3) := by decide +kernel
theorem dX10_ofGood_80 : decode cX10_ofGood 80 = .ok (.ireturn, 1) := by decide +kernel
theorem dX10_ofGood_81 : decode cX10_ofGood 81 = .ok (.aload_n 0, 1) := by decide +kernel
theorem dX10_ofGood_82 : decode cX10_ofGood 82 = .ok (.iload_n 1, 1) := by decide +kernel
theorem dX10_ofGood_83 : decode cX10_ofGood 83 = .ok (.invokevirtual 94, 3) := by decide +kernel
theorem dX10_ofGood_86 : decode cX10_ofGood 86 = .ok (.ireturn, 1) := by decide +kernel
theorem dX10_ofGood_87 : decode cX10_ofGood 87 = .ok (.aload_n 0, 1) := by decide +kernel
theorem dX10_ofGood_88 : decode cX10_ofGood 88 = .ok (.iload_n 1, 1) := by decide +kernel
theorem dX10_ofGood_89 : decode cX10_ofGood 89 = .ok (.iconst 0, 1) := by decide +kernel
theorem dX10_ofGood_90 : decode cX10_ofGood 90 = .ok (.invokevirtual 61, 3) := by decide +kernel
theorem dX10_ofGood_93 : decode cX10_ofGood 93 = .ok (.aload_n 0, 1) := by decide +kernel
theorem dX10_ofGood_94 : decode cX10_ofGood 94 = .ok (.iload_n 1, 1) := by decide +kernel
theorem dX10_ofGood_95 : decode cX10_ofGood 95 = .ok (.iconst 1, 1) := by decide +kernel
theorem dX10_ofGood_96 : decode cX10_ofGood 96 = .ok (.invokevirtual 61, 3) := by decide +kernel
theorem dX10_ofGood_99 : decode cX10_ofGood 99 = .ok (.invokestatic 97, 3) := by decide +kernel
theorem dX10_ofGood_102 : decode cX10_ofGood 102 = .ok (.ireturn, 1) := by decide +kernel
theorem dX10_ofGood_103 : decode cX10_ofGood 103 = .ok (.aload_n 0, 1) := by decide +kernel
theorem dX10_ofGood_104 : decode cX10_ofGood 104 = .ok (.iload_n 1, 1) := by decide +kernel
theorem dX10_ofGood_105 : decode cX10_ofGood 105 = .ok (.iconst 0, 1) := by decide +kernel
theorem dX10_ofGood_106 : decode cX10_ofGood 106 = .ok (.invokevirtual 61, 3) := by decide +kernel
theorem dX10_ofGood_109 : decode cX10_ofGood 109 = .ok (.aload_n 0, 1) := by decide +kernel
theorem dX10_ofGood_110 : decode cX10_ofGood 110 = .ok (.iload_n 1, 1) := by decide +kernel
theorem dX10_ofGood_111 : decode cX10_ofGood 111 = .ok (.iconst 1, 1) := by decide +kernel
theorem dX10_ofGood_112 : decode cX10_ofGood 112 = .ok (.invokevirtual 61, 3) := by decide +kernel
theorem dX10_ofGood_115 : decode cX10_ofGood 115 = .ok (.invokestatic 100, 3) := by decide +kernel
theorem dX10_ofGood_118 : decode cX10_ofGood 118 = .ok (.ireturn, 1) := by decide +kernel
theorem dX10_ofGood_119 : decode cX10_ofGood 119 = .ok (.aload_n 0, 1) := by decide +kernel
theorem dX10_ofGood_120 : decode cX10_ofGood 120 = .ok (.iload_n 1, 1) := by decide +kernel
theorem dX10_ofGood_121 : decode cX10_ofGood 121 = .ok (.invokevirtual 103, 3) := by decide +kernel
theorem dX10_ofGood_124 : decode cX10_ofGood 124 = .ok (.ifCond .eq 7, 3) := by decide +kernel
theorem dX10_ofGood_127 : decode cX10_ofGood 127 = .ok (.iconst 1, 1) := by decide +kernel
theorem dX10_ofGood_128 : decode cX10_ofGood 128 = .ok (.goto 4, 3) := by decide +kernel
theorem dX10_ofGood_131 : decode cX10_ofGood 131 = .ok (.iconst 0, 1) := by decide +kernel
theorem dX10_ofGood_132 : decode cX10_ofGood 132 = .ok (.ireturn, 1) := by decide +kernel
theorem dX10_ofGood_133 : decode cX10_ofGood 133 = .ok (.aload_n 0, 1) := by decide +kernel
theorem dX10_ofGood_134 : decode cX10_ofGood 134 = .ok (.iconst 1, 1) := by decide +kernel
theorem dX10_ofGood_135 : decode cX10_ofGood 135 = .ok (.invokevirtual 79, 3) := by decide +kernel
theorem dX10_ofGood_138 : decode cX10_ofGood 138 = .ok (.ireturn, 1) := by decide +kernel
theorem dX10_become_0 : decode cX10_become 0 = .ok (.aload_n 0, 1) := by decide +kernel
theorem dX10_become_1 : decode cX10_become 1 = .ok (.iload_n 1, 1) := by decide +kernel
theorem dX10_become_2 : decode cX10_become 2 = .ok (.invokevirtual 87, 3) := by decide +kernel
theorem dX10_become_5 : decode cX10_become 5 = .ok (.ifCond .eq 15, 3) := by decide +kernel
theorem dX10_become_8 : decode cX10_become 8 = .ok (.iload_n 2, 1) := by decide +kernel
theorem dX10_become_9 : decode cX10_become 9 = .ok (.i2l, 1) := by decide +kernel
theorem dX10_become_10 : decode cX10_become 10 = .ok (.lconst 0, 1) := by decide +kernel
theorem dX10_become_11 : decode cX10_become 11 = .ok (.ldc2_w 75, 3) := by decide +kernel
theorem dX10_become_14 : decode cX10_become 14 = .ok (.invokestatic 53, 3) := by decide +kernel
theorem dX10_become_17 : decode cX10_become 17 = .ok (.ifCond .ne 9, 3) := by decide +kernel
theorem dX10_become_20 : decode cX10_become 20 = .ok (.aload_n 0, 1) := by decide +kernel
theorem dX10_become_21 : decode cX10_become 21 = .ok (.iconst 1, 1) := by decide +kernel
theorem dX10_become_22 : decode cX10_become 22 = .ok (.invokevirtual 79, 3) := by decide +kernel
theorem dX10_become_25 : decode cX10_become 25 = .ok (.ireturn, 1) := by decide +kernel
theorem dX10_become_26 : decode cX10_become 26 = .ok (.aload_n 0, 1) := by decide +kernel
theorem dX10_become_27 : decode cX10_become 27 = .ok (.iload_n 1, 1) := by decide +kernel
theorem dX10_become_28 : decode cX10_become 28 = .ok (.iconst 0, 1) := by decide +kernel
theorem dX10_become_29 : decode cX10_become 29 = .ok (.invokevirtual 61, 3) := by decide +kernel
theorem dX10_become_32 : decode cX10_become 32 = .ok (.istore_n 3, 1) := by decide +kernel
theorem dX10_become_33 : decode cX10_become 33 = .ok (.aload_n 0, 1) := by decide +kernel
theorem dX10_become_34 : decode cX10_become 34 = .ok (.iload_n 1, 1) := by decide +kernel
theorem dX10_become_35 : decode cX10_become 35 = .ok (.iconst 0, 1) := by decide +kernel
theorem dX10_become_36 : decode cX10_become 36 = .ok (.iload_n 2, 1) := by decide +kernel
theorem dX10_become_37 : decode cX10_become 37 = .ok (.bipush 10, 2) := by decide +kernel
theorem dX10_become_39 : decode cX10_become 39 = .ok (.idiv, 1) := by decide +kernel
theorem dX10_become_40 : decode cX10_become 40 = .ok (.invokevirtual 83, 3) := by decide +kernel
theorem dX10_become_43 : decode cX10_become 43 = .ok (.aload_n 0, 1) := by decide +kernel
theorem dX10_become_44 : decode cX10_become 44 = .ok (.iload_n 1, 1) := by decide +kernel
theorem dX10_become_45 : decode cX10_become 45 = .ok (.iconst 1, 1) := by decide +kernel
theorem dX10_become_46 : decode cX10_become 46 = .ok (.iload_n 2, 1) := by decide +kernel
theorem dX10_become_47 : decode cX10_become 47 = .ok (.bipush 10, 2) := by decide +kernel
theorem dX10_become_49 : decode cX10_become 49 = .ok (.irem, 1) := by decide +kernel
theorem dX10_become_50 : decode cX10_become 50 = .ok (.invokevirtual 83, 3) := by decide +kernel
theorem dX10_become_53 : decode cX10_become 53 = .ok (.iload_n 3, 1) := by decide +kernel
theorem dX10_become_54 : decode cX10_become 54 = .ok (.ireturn, 1) := by decide +kernel
theorem dX10_as_0 : decode cX10_as 0 = .ok (.aload_n 0, 1) := by decide +kernel
theorem dX10_as_1 : decode cX10_as 1 = .ok (.iload_n 1, 1) := by decide +kernel
theorem dX10_as_2 : decode cX10_as 2 = .ok (.invokevirtual 87, 3) := by decide +kernel
theorem dX10_as_5 : decode cX10_as 5 = .ok (.ifCond .eq 15, 3) := by decide +kernel
theorem dX10_as_8 : decode cX10_as 8 = .ok (.iload_n 2, 1) := by decide +kernel
theorem dX10_as_9 : decode cX10_as 9 = .ok (.i2l, 1) := by decide +kernel
theorem dX10_as_10 : decode cX10_as 10 = .ok (.lconst 0, 1) := by decide +kernel
theorem dX10_as_11 : decode cX10_as 11 = .ok (.ldc2_w 106, 3) := by decide +kernel
theorem dX10_as_14 : decode cX10_as 14 = .ok (.invokestatic 53, 3) := by decide +kernel
theorem dX10_as_17 : decode cX10_as 17 = .ok (.ifCond .ne 9, 3) := by decide +kernel
theorem dX10_as_20 : decode cX10_as 20 = .ok (.aload_n 0, 1) := by decide +kernel
theorem dX10_as_21 : decode cX10_as 21 = .ok (.iconst 1, 1) := by decide +kernel
theorem dX10_as_22 : decode cX10_as 22 = .ok (.invokevirtual 79, 3) := by decide +kernel
theorem dX10_as_25 : decode cX10_as 25 = .ok (.ireturn, 1) := by decide +kernel
theorem dX10_as_26 : decode cX10_as 26 = .ok (.aload_n 0, 1) := by decide +kernel
theorem dX10_as_27 : decode cX10_as 27 = .ok (.iload_n 1, 1) := by decide +kernel
theorem dX10_as_28 : decode cX10_as 28 = .ok (.iconst 0, 1) := by decide +kernel
theorem dX10_as_29 : decode cX10_as 29 = .ok (.invokevirtual 61, 3) := by decide +kernel
theorem dX10_as_32 : decode cX10_as 32 = .ok (.iload_n 2, 1) := by decide +kernel
theorem dX10_as_33 : decode cX10_as 33 = .ok (.invokestatic 108, 3) := by decide +kernel
theorem dX10_as_36 : decode cX10_as 36 = .ok (.ifCond .eq 12, 3) := by decide +kernel
theorem dX10_as_39 : decode cX10_as 39 = .ok (.aload_n 0, 1) := by decide +kernel
theorem dX10_as_40 : decode cX10_as 40 = .ok (.iload_n 1, 1) := by decide +kernel
theorem dX10_as_41 : decode cX10_as 41 = .ok (.iconst 1, 1) := by decide +kernel
theorem dX10_as_42 : decode cX10_as 42 = .ok (.invokevirtual 61, 3) := by decide +kernel
theorem dX10_as_45 : decode cX10_as 45 = .ok (.goto 8, 3) := by decide +kernel
theorem dX10_as_48 : decode cX10_as 48 = .ok (.aload_n 0, 1) := by decide +kernel
theorem dX10_as_49 : decode cX10_as 49 = .ok (.iconst 5, 1) := by decide +kernel
theorem dX10_as_50 : decode cX10_as 50 = .ok (.invokevirtual 79, 3) := by decide +kernel
theorem dX10_as_53 : decode cX10_as 53 = .ok (.ireturn, 1) := by decide +kernel
theorem dX10_place_0 : decode cX10_place 0 = .ok (.aload_n 0, 1) := by decide +kernel
theorem dX10_place_1 : decode cX10_place 1 = .ok (.iload_n 1, 1) := by decide +kernel
theorem dX10_place_2 : decode cX10_place 2 = .ok (.invokevirtual 87, 3) := by decide +kernel
theorem dX10_place_5 : decode cX10_place 5 = .ok (.ifCond .eq 15, 3) := by decide +kernel
theorem dX10_place_8 : decode cX10_place 8 = .ok (.iload_n 2, 1) := by decide +kernel
theorem dX10_place_9 : decode cX10_place 9 = .ok (.i2l, 1) := by decide +kernel
theorem dX10_place_10 : decode cX10_place 10 = .ok (.lconst 0, 1) := by decide +kernel
theorem dX10_place_11 : decode cX10_place 11 = .ok (.ldc2_w 77, 3) := by decide +kernel
theorem dX10_place_14 : decode cX10_place 14 = .ok (.invokestatic 53, 3) := by decide +kernel
theorem dX10_place_17 : decode cX10_place 17 = .ok (.ifCond .ne 9, 3) := by decide +kernel
theorem dX10_place_20 : decode cX10_place 20 = .ok (.aload_n 0, 1) := by decide +kernel
theorem dX10_place_21 : decode cX10_place 21 = .ok (.iconst 1, 1) := by decide +kernel
theorem dX10_place_22 : decode cX10_place 22 = .ok (.invokevirtual 79, 3) := by decide +kernel
theorem dX10_place_25 : decode cX10_place 25 = .ok (.ireturn, 1) := by decide +kernel
theorem dX10_place_26 : decode cX10_place 26 = .ok (.aload_n 0, 1) := by decide +kernel
theorem dX10_place_27 : decode cX10_place 27 = .ok (.iload_n 1, 1) := by decide +kernel
theorem dX10_place_28 : decode cX10_place 28 = .ok (.iconst 2, 1) := by decide +kernel
theorem dX10_place_29 : decode cX10_place 29 = .ok (.invokevirtual 61, 3) := by decide +kernel
theorem dX10_place_32 : decode cX10_place 32 = .ok (.istore_n 3, 1) := by decide +kernel
theorem dX10_place_33 : decode cX10_place 33 = .ok (.aload_n 0, 1) := by decide +kernel
theorem dX10_place_34 : decode cX10_place 34 = .ok (.iload_n 1, 1) := by decide +kernel
theorem dX10_place_35 : decode cX10_place 35 = .ok (.iconst 2, 1) := by decide +kernel
theorem dX10_place_36 : decode cX10_place 36 = .ok (.iload_n 2, 1) := by decide +kernel
theorem dX10_place_37 : decode cX10_place 37 = .ok (.invokevirtual 83, 3) := by decide +kernel
theorem dX10_place_40 : decode cX10_place 40 = .ok (.aload_n 0, 1) := by decide +kernel
theorem dX10_place_41 : decode cX10_place 41 = .ok (.iload_n 1, 1) := by decide +kernel
theorem dX10_place_42 : decode cX10_place 42 = .ok (.iconst 4, 1) := by decide +kernel
theorem dX10_place_43 : decode cX10_place 43 = .ok (.iload_n 2, 1) := by decide +kernel
theorem dX10_place_44 : decode cX10_place 44 = .ok (.invokevirtual 83, 3) := by decide +kernel
theorem dX10_place_47 : decode cX10_place 47 = .ok (.aload_n 0, 1) := by decide +kernel
theorem dX10_place_48 : decode cX10_place 48 = .ok (.iload_n 1, 1) := by decide +kernel
theorem dX10_place_49 : decode cX10_place 49 = .ok (.iconst 3, 1) := by decide +kernel
theorem dX10_place_50 : decode cX10_place 50 = .ok (.iconst 0, 1) := by decide +kernel
theorem dX10_place_51 : decode cX10_place 51 = .ok (.invokevirtual 83, 3) := by decide +kernel
theorem dX10_place_54 : decode cX10_place 54 = .ok (.iload_n 3, 1) := by decide +kernel
theorem dX10_place_55 : decode cX10_place 55 = .ok (.ireturn, 1) := by decide +kernel
theorem dX10_pushed_0 : decode cX10_pushed 0 = .ok (.aload_n 0, 1) := by decide +kernel
theorem dX10_pushed_1 : decode cX10_pushed 1 = .ok (.iload_n 1, 1) := by decide +kernel
theorem dX10_pushed_2 : decode cX10_pushed 2 = .ok (.iconst 3, 1) := by decide +kernel
theorem dX10_pushed_3 : decode cX10_pushed 3 = .ok (.aload_n 0, 1) := by decide +kernel
theorem dX10_pushed_4 : decode cX10_pushed 4 = .ok (.iload_n 1, 1) := by decide +kernel
theorem dX10_pushed_5 : decode cX10_pushed 5 = .ok (.iconst 3, 1) := by decide +kernel
theorem dX10_pushed_6 : decode cX10_pushed 6 = .ok (.invokevirtual 61, 3) := by decide +kernel
theorem dX10_pushed_9 : decode cX10_pushed 9 = .ok (.iload_n 2, 1) := by decide +kernel
theorem dX10_pushed_10 : decode cX10_pushed 10 = .ok (.iadd, 1) := by decide +kernel
theorem dX10_pushed_11 : decode cX10_pushed 11 = .ok (.bipush (-9), 2) := by decide +kernel
theorem dX10_pushed_13 : decode cX10_pushed 13 = .ok (.bipush 9, 2) := by decide +kernel
theorem dX10_pushed_15 : decode cX10_pushed 15 = .ok (.invokestatic 112, 3) := by decide +kernel
theorem dX10_pushed_18 : decode cX10_pushed 18 = .ok (.invokevirtual 83, 3) := by decide +kernel
theorem dX10_pushed_21 : decode cX10_pushed 21 = .ok (.aload_n 0, 1) := by decide +kernel
theorem dX10_pushed_22 : decode cX10_pushed 22 = .ok (.iload_n 1, 1) := by decide +kernel
theorem dX10_pushed_23 : decode cX10_pushed 23 = .ok (.iconst 3, 1) := by decide +kernel
theorem dX10_pushed_24 : decode cX10_pushed 24 = .ok (.invokevirtual 61, 3) := by decide +kernel
theorem dX10_pushed_27 : decode cX10_pushed 27 = .ok (.ireturn, 1) := by decide +kernel
theorem dX10_push_0 : decode cX10_push 0 = .ok (.aload_n 0, 1) := by decide +kernel
theorem dX10_push_1 : decode cX10_push 1 = .ok (.iload_n 1, 1) := by decide +kernel
theorem dX10_push_2 : decode cX10_push 2 = .ok (.invokevirtual 87, 3) := by decide +kernel
theorem dX10_push_5 : decode cX10_push 5 = .ok (.ifCond .eq 19, 3) := by decide +kernel
theorem dX10_push_8 : decode cX10_push 8 = .ok (.iload_n 2, 1) := by decide +kernel
theorem dX10_push_9 : decode cX10_push 9 = .ok (.invokestatic 116, 3) := by decide +kernel
theorem dX10_push_12 : decode cX10_push 12 = .ok (.ifCond .eq 12, 3) := by decide +kernel
theorem dX10_push_15 : decode cX10_push 15 = .ok (.aload_n 0, 1) := by decide +kernel
theorem dX10_push_16 : decode cX10_push 16 = .ok (.iload_n 1, 1) := by decide +kernel
theorem dX10_push_17 : decode cX10_push 17 = .ok (.iload_n 2, 1) := by decide +kernel
theorem dX10_push_18 : decode cX10_push 18 = .ok (.invokevirtual 119, 3) := by decide +kernel
theorem dX10_push_21 : decode cX10_push 21 = .ok (.goto 8, 3) := by decide +kernel
theorem dX10_push_24 : decode cX10_push 24 = .ok (.aload_n 0, 1) := by decide +kernel
theorem dX10_push_25 : decode cX10_push 25 = .ok (.iconst 1, 1) := by decide +kernel
theorem dX10_push_26 : decode cX10_push 26 = .ok (.invokevirtual 79, 3) := by decide +kernel
theorem dX10_push_29 : decode cX10_push 29 = .ok (.ireturn, 1) := by decide +kernel
theorem dX10_off_0 : decode cX10_off 0 = .ok (.aload_n 0, 1) := by decide +kernel
theorem dX10_off_1 : decode cX10_off 1 = .ok (.iload_n 1, 1) := by decide +kernel
theorem dX10_off_2 : decode cX10_off 2 = .ok (.invokevirtual 87, 3) := by decide +kernel
theorem dX10_off_5 : decode cX10_off 5 = .ok (.ifCond .eq 23, 3) := by decide +kernel
theorem dX10_off_8 : decode cX10_off 8 = .ok (.aload_n 0, 1) := by decide +kernel
theorem dX10_off_9 : decode cX10_off 9 = .ok (.iload_n 2, 1) := by decide +kernel
theorem dX10_off_10 : decode cX10_off 10 = .ok (.invokevirtual 87, 3) := by decide +kernel
theorem dX10_off_13 : decode cX10_off 13 = .ok (.ifCond .eq 15, 3) := by decide +kernel
theorem dX10_off_16 : decode cX10_off 16 = .ok (.iload_n 1, 1) := by decide +kernel
theorem dX10_off_17 : decode cX10_off 17 = .ok (.iload_n 2, 1) := by decide +kernel
theorem dX10_off_18 : decode cX10_off 18 = .ok (.if_icmp .eq 10, 3) := by decide +kernel
theorem dX10_off_21 : decode cX10_off 21 = .ok (.iload_n 3, 1) := by decide +kernel
theorem dX10_off_22 : decode cX10_off 22 = .ok (.invokestatic 116, 3) := by decide +kernel
theorem dX10_off_25 : decode cX10_off 25 = .ok (.ifCond .ne 9, 3) := by decide +kernel
theorem dX10_off_28 : decode cX10_off 28 = .ok (.aload_n 0, 1) := by decide +kernel
theorem dX10_off_29 : decode cX10_off 29 = .ok (.iconst 1, 1) := by decide +kernel
theorem dX10_off_30 : decode cX10_off 30 = .ok (.invokevirtual 79, 3) := by decide +kernel
theorem dX10_off_33 : decode cX10_off 33 = .ok (.ireturn, 1) := by decide +kernel
theorem dX10_off_34 : decode cX10_off 34 = .ok (.aload_n 0, 1) := by decide +kernel
theorem dX10_off_35 : decode cX10_off 35 = .ok (.iload_n 1, 1) := by decide +kernel
theorem dX10_off_36 : decode cX10_off 36 = .ok (.iconst 2, 1) := by decide +kernel
theorem dX10_off_37 : decode cX10_off 37 = .ok (.invokevirtual 61, 3) := by decide +kernel
theorem dX10_off_40 : decode cX10_off 40 = .ok (.aload_n 0, 1) := by decide +kernel
theorem dX10_off_41 : decode cX10_off 41 = .ok (.iload_n 2, 1) := by decide +kernel
theorem dX10_off_42 : decode cX10_off 42 = .ok (.iconst 2, 1) := by decide +kernel
theorem dX10_off_43 : decode cX10_off 43 = .ok (.invokevirtual 61, 3) := by decide +kernel
theorem dX10_off_46 : decode cX10_off 46 = .ok (.if_icmp .eq 9, 3) := by decide +kernel
theorem dX10_off_49 : decode cX10_off 49 = .ok (.aload_n 0, 1) := by decide +kernel
theorem dX10_off_50 : decode cX10_off 50 = .ok (.iconst 3, 1) := by decide +kernel
theorem dX10_off_51 : decode cX10_off 51 = .ok (.invokevirtual 79, 3) := by decide +kernel
theorem dX10_off_54 : decode cX10_off 54 = .ok (.ireturn, 1) := by decide +kernel
theorem dX10_off_55 : decode cX10_off 55 = .ok (.aload_n 0, 1) := by decide +kernel
theorem dX10_off_56 : decode cX10_off 56 = .ok (.iload_n 2, 1) := by decide +kernel
theorem dX10_off_57 : decode cX10_off 57 = .ok (.iload_n 3, 1) := by decide +kernel
theorem dX10_off_58 : decode cX10_off 58 = .ok (.ineg, 1) := by decide +kernel
theorem dX10_off_59 : decode cX10_off 59 = .ok (.invokevirtual 119, 3) := by decide +kernel
theorem dX10_off_62 : decode cX10_off 62 = .ok (.pop, 1) := by decide +kernel
theorem dX10_off_63 : decode cX10_off 63 = .ok (.aload_n 0, 1) := by decide +kernel
theorem dX10_off_64 : decode cX10_off 64 = .ok (.iload_n 1, 1) := by decide +kernel
theorem dX10_off_65 : decode cX10_off 65 = .ok (.iload_n 3, 1) := by decide +kernel
theorem dX10_off_66 : decode cX10_off 66 = .ok (.invokevirtual 119, 3) := by decide +kernel
theorem dX10_off_69 : decode cX10_off 69 = .ok (.ireturn, 1) := by decide +kernel
theorem dX10_set_0 : decode cX10_set 0 = .ok (.iload_n 1, 1) := by decide +kernel
theorem dX10_set_1 : decode cX10_set 1 = .ok (.i2l, 1) := by decide +kernel
theorem dX10_set_2 : decode cX10_set 2 = .ok (.lconst 0, 1) := by decide +kernel
theorem dX10_set_3 : decode cX10_set 3 = .ok (.ldc2_w 122, 3) := by decide +kernel
theorem dX10_set_6 : decode cX10_set 6 = .ok (.invokestatic 53, 3) := by decide +kernel
theorem dX10_set_9 : decode cX10_set 9 = .ok (.ifCond .eq 37, 3) := by decide +kernel
theorem dX10_set_12 : decode cX10_set 12 = .ok (.iload_n 2, 1) := by decide +kernel
theorem dX10_set_13 : decode cX10_set 13 = .ok (.i2l, 1) := by decide +kernel
theorem dX10_set_14 : decode cX10_set 14 = .ok (.iload_n 1, 1) := by decide +kernel
theorem dX10_set_15 : decode cX10_set 15 = .ok (.ifCond .ne 9, 3) := by decide +kernel
theorem dX10_set_18 : decode cX10_set 18 = .ok (.ldc2_w 122, 3) := by decide +kernel
theorem dX10_set_21 : decode cX10_set 21 = .ok (.goto 6, 3) := by decide +kernel
theorem dX10_set_24 : decode cX10_set 24 = .ok (.ldc2_w 57, 3) := by decide +kernel
theorem dX10_set_27 : decode cX10_set 27 = .ok (.iload_n 1, 1) := by decide +kernel
theorem dX10_set_28 : decode cX10_set 28 = .ok (.ifCond .ne 9, 3) := by decide +kernel
theorem dX10_set_31 : decode cX10_set 31 = .ok (.ldc2_w 124, 3) := by decide +kernel
theorem dX10_set_34 : decode cX10_set 34 = .ok (.goto 6, 3) := by decide +kernel
theorem dX10_set_37 : decode cX10_set 37 = .ok (.ldc2_w 59, 3) := by decide +kernel
theorem dX10_set_40 : decode cX10_set 40 = .ok (.invokestatic 53, 3) := by decide +kernel
theorem dX10_set_43 : decode cX10_set 43 = .ok (.ifCond .ne 9, 3) := by decide +kernel
theorem dX10_set_46 : decode cX10_set 46 = .ok (.aload_n 0, 1) := by decide +kernel
theorem dX10_set_47 : decode cX10_set 47 = .ok (.iconst 1, 1) := by decide +kernel
theorem dX10_set_48 : decode cX10_set 48 = .ok (.invokevirtual 79, 3) := by decide +kernel
theorem dX10_set_51 : decode cX10_set 51 = .ok (.ireturn, 1) := by decide +kernel
theorem dX10_set_52 : decode cX10_set 52 = .ok (.aload_n 0, 1) := by decide +kernel
theorem dX10_set_53 : decode cX10_set 53 = .ok (.getfield 9, 3) := by decide +kernel
theorem dX10_set_56 : decode cX10_set 56 = .ok (.iconst 2, 1) := by decide +kernel
theorem dX10_set_57 : decode cX10_set 57 = .ok (.iload_n 1, 1) := by decide +kernel
theorem dX10_set_58 : decode cX10_set 58 = .ok (.iadd, 1) := by decide +kernel
theorem dX10_set_59 : decode cX10_set 59 = .ok (.iaload, 1) := by decide +kernel
theorem dX10_set_60 : decode cX10_set 60 = .ok (.istore_n 3, 1) := by decide +kernel
theorem dX10_set_61 : decode cX10_set 61 = .ok (.aload_n 0, 1) := by decide +kernel
theorem dX10_set_62 : decode cX10_set 62 = .ok (.getfield 9, 3) := by decide +kernel
theorem dX10_set_65 : decode cX10_set 65 = .ok (.iconst 2, 1) := by decide +kernel
theorem dX10_set_66 : decode cX10_set 66 = .ok (.iload_n 1, 1) := by decide +kernel
theorem dX10_set_67 : decode cX10_set 67 = .ok (.iadd, 1) := by decide +kernel
theorem dX10_set_68 : decode cX10_set 68 = .ok (.iload_n 2, 1) := by decide +kernel
theorem dX10_set_69 : decode cX10_set 69 = .ok (.iastore, 1) := by decide +kernel
theorem dX10_set_70 : decode cX10_set 70 = .ok (.iload_n 3, 1) := by decide +kernel
theorem dX10_set_71 : decode cX10_set 71 = .ok (.ireturn, 1) := by decide +kernel
theorem dX10_stands_0 : decode cX10_stands 0 = .ok (.iload_n 2, 1) := by decide +kernel
theorem dX10_stands_1 : decode cX10_stands 1 = .ok (.aload_n 0, 1) := by decide +kernel
theorem dX10_stands_2 : decode cX10_stands 2 = .ok (.getfield 9, 3) := by decide +kernel
theorem dX10_stands_5 : decode cX10_stands 5 = .ok (.iconst 3, 1) := by decide +kernel
theorem dX10_stands_6 : decode cX10_stands 6 = .ok (.iload_n 1, 1) := by decide +kernel
theorem dX10_stands_7 : decode cX10_stands 7 = .ok (.iadd, 1) := by decide +kernel
theorem dX10_stands_8 : decode cX10_stands 8 = .ok (.iaload, 1) := by decide +kernel
theorem dX10_stands_9 : decode cX10_stands 9 = .ok (.iload_n 3, 1) := by decide +kernel
theorem dX10_stands_10 : decode cX10_stands 10 = .ok (.imul, 1) := by decide +kernel
theorem dX10_stands_11 : decode cX10_stands 11 = .ok (.iadd, 1) := by decide +kernel
theorem dX10_stands_12 : decode cX10_stands 12 = .ok (.aload_n 0, 1) := by decide +kernel
theorem dX10_stands_13 : decode cX10_stands 13 = .ok (.getfield 9, 3) := by decide +kernel
theorem dX10_stands_16 : decode cX10_stands 16 = .ok (.iconst 2, 1) := by decide +kernel
theorem dX10_stands_17 : decode cX10_stands 17 = .ok (.iaload, 1) := by decide +kernel
theorem dX10_stands_18 : decode cX10_stands 18 = .ok (.irem, 1) := by decide +kernel
theorem dX10_stands_19 : decode cX10_stands 19 = .ok (.istore 4, 2) := by decide +kernel
theorem dX10_stands_21 : decode cX10_stands 21 = .ok (.iload 4, 2) := by decide +kernel
theorem dX10_stands_23 : decode cX10_stands 23 = .ok (.ifCond .ge 15, 3) := by decide +kernel
theorem dX10_stands_26 : decode cX10_stands 26 = .ok (.iload 4, 2) := by decide +kernel
theorem dX10_stands_28 : decode cX10_stands 28 = .ok (.aload_n 0, 1) := by decide +kernel
theorem dX10_stands_29 : decode cX10_stands 29 = .ok (.getfield 9, 3) := by decide +kernel
theorem dX10_stands_32 : decode cX10_stands 32 = .ok (.iconst 2, 1) := by decide +kernel
theorem dX10_stands_33 : decode cX10_stands 33 = .ok (.iaload, 1) := by decide +kernel
theorem dX10_stands_34 : decode cX10_stands 34 = .ok (.iadd, 1) := by decide +kernel
theorem dX10_stands_35 : decode cX10_stands 35 = .ok (.goto 5, 3) := by decide +kernel
theorem dX10_stands_38 : decode cX10_stands 38 = .ok (.iload 4, 2) := by decide +kernel
theorem dX10_stands_40 : decode cX10_stands 40 = .ok (.ireturn, 1) := by decide +kernel
theorem dX10_isDoor_0 : decode cX10_isDoor 0 = .ok (.iload_n 1, 1) := by decide +kernel
theorem dX10_isDoor_1 : decode cX10_isDoor 1 = .ok (.i2l, 1) := by decide +kernel
theorem dX10_isDoor_2 : decode cX10_isDoor 2 = .ok (.lconst 0, 1) := by decide +kernel
theorem dX10_isDoor_3 : decode cX10_isDoor 3 = .ok (.aload_n 0, 1) := by decide +kernel
theorem dX10_isDoor_4 : decode cX10_isDoor 4 = .ok (.getfield 9, 3) := by decide +kernel
theorem dX10_isDoor_7 : decode cX10_isDoor 7 = .ok (.iconst 2, 1) := by decide +kernel
theorem dX10_isDoor_8 : decode cX10_isDoor 8 = .ok (.iaload, 1) := by decide +kernel
theorem dX10_isDoor_9 : decode cX10_isDoor 9 = .ok (.iconst 1, 1) := by decide +kernel
theorem dX10_isDoor_10 : decode cX10_isDoor 10 = .ok (.isub, 1) := by decide +kernel
theorem dX10_isDoor_11 : decode cX10_isDoor 11 = .ok (.i2l, 1) := by decide +kernel
theorem dX10_isDoor_12 : decode cX10_isDoor 12 = .ok (.invokestatic 53, 3) := by decide +kernel
theorem dX10_isDoor_15 : decode cX10_isDoor 15 = .ok (.ireturn, 1) := by decide +kernel
theorem dX10_door_0 : decode cX10_door 0 = .ok (.iload_n 1, 1) := by decide +kernel
theorem dX10_door_1 : decode cX10_door 1 = .ok (.invokestatic 126, 3) := by decide +kernel
theorem dX10_door_4 : decode cX10_door 4 = .ok (.ifCond .eq 26, 3) := by decide +kernel
theorem dX10_door_7 : decode cX10_door 7 = .ok (.aload_n 0, 1) := by decide +kernel
theorem dX10_door_8 : decode cX10_door 8 = .ok (.iload_n 2, 1) := by decide +kernel
theorem dX10_door_9 : decode cX10_door 9 = .ok (.invokevirtual 129, 3) := by decide +kernel
theorem dX10_door_12 : decode cX10_door 12 = .ok (.ifCond .eq 18, 3) := by decide +kernel
theorem dX10_door_15 : decode cX10_door 15 = .ok (.aload_n 0, 1) := by decide +kernel
theorem dX10_door_16 : decode cX10_door 16 = .ok (.iload_n 1, 1) := by decide +kernel
theorem dX10_door_17 : decode cX10_door 17 = .ok (.iload_n 2, 1) := by decide +kernel
theorem dX10_door_18 : decode cX10_door 18 = .ok (.aload_n 0, 1) := by decide +kernel
theorem dX10_door_19 : decode cX10_door 19 = .ok (.getfield 9, 3) := by decide +kernel
theorem dX10_door_22 : decode cX10_door 22 = .ok (.iconst 0, 1) := by decide +kernel
theorem dX10_door_23 : decode cX10_door 23 = .ok (.iaload, 1) := by decide +kernel
theorem dX10_door_24 : decode cX10_door 24 = .ok (.invokevirtual 132, 3) := by decide +kernel
theorem dX10_door_27 : decode cX10_door 27 = .ok (.goto 8, 3) := by decide +kernel
theorem dX10_door_30 : decode cX10_door 30 = .ok (.aload_n 0, 1) := by decide +kernel
theorem dX10_door_31 : decode cX10_door 31 = .ok (.iconst 1, 1) := by decide +kernel
theorem dX10_door_32 : decode cX10_door 32 = .ok (.invokevirtual 79, 3) := by decide +kernel
theorem dX10_door_35 : decode cX10_door 35 = .ok (.ireturn, 1) := by decide +kernel
theorem dX10_lineUp_0 : decode cX10_lineUp 0 = .ok (.aload_n 0, 1) := by decide +kernel
theorem dX10_lineUp_1 : decode cX10_lineUp 1 = .ok (.iload_n 1, 1) := by decide +kernel
theorem dX10_lineUp_2 : decode cX10_lineUp 2 = .ok (.invokevirtual 129, 3) := by decide +kernel
theorem dX10_lineUp_5 : decode cX10_lineUp 5 = .ok (.ifCond .eq 11, 3) := by decide +kernel
theorem dX10_lineUp_8 : decode cX10_lineUp 8 = .ok (.aload_n 0, 1) := by decide +kernel
theorem dX10_lineUp_9 : decode cX10_lineUp 9 = .ok (.iload_n 2, 1) := by decide +kernel
theorem dX10_lineUp_10 : decode cX10_lineUp 10 = .ok (.invokevirtual 129, 3) := by decide +kernel
theorem dX10_lineUp_13 : decode cX10_lineUp 13 = .ok (.ifCond .ne 9, 3) := by decide +kernel
theorem dX10_lineUp_16 : decode cX10_lineUp 16 = .ok (.aload_n 0, 1) := by decide +kernel
theorem dX10_lineUp_17 : decode cX10_lineUp 17 = .ok (.iconst 1, 1) := by decide +kernel
theorem dX10_lineUp_18 : decode cX10_lineUp 18 = .ok (.invokevirtual 79, 3) := by decide +kernel
theorem dX10_lineUp_21 : decode cX10_lineUp 21 = .ok (.ireturn, 1) := by decide +kernel
theorem dX10_lineUp_22 : decode cX10_lineUp 22 = .ok (.iconst 0, 1) := by decide +kernel
theorem dX10_lineUp_23 : decode cX10_lineUp 23 = .ok (.istore_n 3, 1) := by decide +kernel
theorem dX10_lineUp_24 : decode cX10_lineUp 24 = .ok (.iload_n 3, 1) := by decide +kernel
theorem dX10_lineUp_25 : decode cX10_lineUp 25 = .ok (.aload_n 0, 1) := by decide +kernel
theorem dX10_lineUp_26 : decode cX10_lineUp 26 = .ok (.getfield 9, 3) := by decide +kernel
theorem dX10_lineUp_29 : decode cX10_lineUp 29 = .ok (.iconst 2, 1) := by decide +kernel
theorem dX10_lineUp_30 : decode cX10_lineUp 30 = .ok (.iaload, 1) := by decide +kernel
theorem dX10_lineUp_31 : decode cX10_lineUp 31 = .ok (.if_icmp .ge 42, 3) := by decide +kernel
theorem dX10_lineUp_34 : decode cX10_lineUp 34 = .ok (.aload_n 0, 1) := by decide +kernel
theorem dX10_lineUp_35 : decode cX10_lineUp 35 = .ok (.iconst 0, 1) := by decide +kernel
theorem dX10_lineUp_36 : decode cX10_lineUp 36 = .ok (.iload_n 1, 1) := by decide +kernel
theorem dX10_lineUp_37 : decode cX10_lineUp 37 = .ok (.aload_n 0, 1) := by decide +kernel
theorem dX10_lineUp_38 : decode cX10_lineUp 38 = .ok (.getfield 9, 3) := by decide +kernel
theorem dX10_lineUp_41 : decode cX10_lineUp 41 = .ok (.iconst 0, 1) := by decide +kernel
theorem dX10_lineUp_42 : decode cX10_lineUp 42 = .ok (.iaload, 1) := by decide +kernel
theorem dX10_lineUp_43 : decode cX10_lineUp 43 = .ok (.iload_n 3, 1) := by decide +kernel
theorem dX10_lineUp_44 : decode cX10_lineUp 44 = .ok (.iadd, 1) := by decide +kernel
theorem dX10_lineUp_45 : decode cX10_lineUp 45 = .ok (.invokevirtual 132, 3) := by decide +kernel
theorem dX10_lineUp_48 : decode cX10_lineUp 48 = .ok (.aload_n 0, 1) := by decide +kernel
theorem dX10_lineUp_49 : decode cX10_lineUp 49 = .ok (.iconst 1, 1) := by decide +kernel
theorem dX10_lineUp_50 : decode cX10_lineUp 50 = .ok (.iload_n 2, 1) := by decide +kernel
theorem dX10_lineUp_51 : decode cX10_lineUp 51 = .ok (.aload_n 0, 1) := by decide +kernel
