theorem dX10_lineUp_52 : decode cX10_lineUp 52 = .ok (.getfield 9, 3) := by decide +kernel
theorem dX10_lineUp_55 : decode cX10_lineUp 55 = .ok (.iconst 0, 1) := by decide +kernel
theorem dX10_lineUp_56 : decode cX10_lineUp 56 = .ok (.iaload, 1) := by decide +kernel
theorem dX10_lineUp_57 : decode cX10_lineUp 57 = .ok (.iload_n 3, 1) := by decide +kernel
theorem dX10_lineUp_58 : decode cX10_lineUp 58 = .ok (.iadd, 1) := by decide +kernel
theorem dX10_lineUp_59 : decode cX10_lineUp 59 = .ok (.invokevirtual 132, 3) := by decide +kernel
theorem dX10_lineUp_62 : decode cX10_lineUp 62 = .ok (.if_icmp .ne 5, 3) := by decide +kernel
theorem dX10_lineUp_65 : decode cX10_lineUp 65 = .ok (.iload_n 3, 1) := by decide +kernel
theorem dX10_lineUp_66 : decode cX10_lineUp 66 = .ok (.ireturn, 1) := by decide +kernel
theorem dX10_lineUp_67 : decode cX10_lineUp 67 = .ok (.iinc 3 1, 3) := by decide +kernel
theorem dX10_lineUp_70 : decode cX10_lineUp 70 = .ok (.goto (-46), 3) := by decide +kernel
theorem dX10_lineUp_73 : decode cX10_lineUp 73 = .ok (.aload_n 0, 1) := by decide +kernel
theorem dX10_lineUp_74 : decode cX10_lineUp 74 = .ok (.iconst 2, 1) := by decide +kernel
theorem dX10_lineUp_75 : decode cX10_lineUp 75 = .ok (.invokevirtual 79, 3) := by decide +kernel
theorem dX10_lineUp_78 : decode cX10_lineUp 78 = .ok (.ireturn, 1) := by decide +kernel
theorem dX10_feed_0 : decode cX10_feed 0 = .ok (.iload_n 3, 1) := by decide +kernel
theorem dX10_feed_1 : decode cX10_feed 1 = .ok (.i2l, 1) := by decide +kernel
theorem dX10_feed_2 : decode cX10_feed 2 = .ok (.lconst 1, 1) := by decide +kernel
theorem dX10_feed_3 : decode cX10_feed 3 = .ok (.ldc2_w 135, 3) := by decide +kernel
theorem dX10_feed_6 : decode cX10_feed 6 = .ok (.invokestatic 53, 3) := by decide +kernel
theorem dX10_feed_9 : decode cX10_feed 9 = .ok (.ifCond .ne 9, 3) := by decide +kernel
theorem dX10_feed_12 : decode cX10_feed 12 = .ok (.aload_n 0, 1) := by decide +kernel
theorem dX10_feed_13 : decode cX10_feed 13 = .ok (.iconst 1, 1) := by decide +kernel
theorem dX10_feed_14 : decode cX10_feed 14 = .ok (.invokevirtual 79, 3) := by decide +kernel
theorem dX10_feed_17 : decode cX10_feed 17 = .ok (.ireturn, 1) := by decide +kernel
theorem dX10_feed_18 : decode cX10_feed 18 = .ok (.aload_n 0, 1) := by decide +kernel
theorem dX10_feed_19 : decode cX10_feed 19 = .ok (.getfield 9, 3) := by decide +kernel
theorem dX10_feed_22 : decode cX10_feed 22 = .ok (.bipush 7, 2) := by decide +kernel
theorem dX10_feed_24 : decode cX10_feed 24 = .ok (.iaload, 1) := by decide +kernel
theorem dX10_feed_25 : decode cX10_feed 25 = .ok (.iload_n 3, 1) := by decide +kernel
theorem dX10_feed_26 : decode cX10_feed 26 = .ok (.iadd, 1) := by decide +kernel
theorem dX10_feed_27 : decode cX10_feed 27 = .ok (.bipush 50, 2) := by decide +kernel
theorem dX10_feed_29 : decode cX10_feed 29 = .ok (.if_icmp .le 9, 3) := by decide +kernel
theorem dX10_feed_32 : decode cX10_feed 32 = .ok (.aload_n 0, 1) := by decide +kernel
theorem dX10_feed_33 : decode cX10_feed 33 = .ok (.iconst 4, 1) := by decide +kernel
theorem dX10_feed_34 : decode cX10_feed 34 = .ok (.invokevirtual 79, 3) := by decide +kernel
theorem dX10_feed_37 : decode cX10_feed 37 = .ok (.ireturn, 1) := by decide +kernel
theorem dX10_feed_38 : decode cX10_feed 38 = .ok (.iconst 0, 1) := by decide +kernel
theorem dX10_feed_39 : decode cX10_feed 39 = .ok (.istore 4, 2) := by decide +kernel
theorem dX10_feed_41 : decode cX10_feed 41 = .ok (.iload 4, 2) := by decide +kernel
theorem dX10_feed_43 : decode cX10_feed 43 = .ok (.iload_n 3, 1) := by decide +kernel
theorem dX10_feed_44 : decode cX10_feed 44 = .ok (.if_icmp .ge 47, 3) := by decide +kernel
theorem dX10_feed_47 : decode cX10_feed 47 = .ok (.aload_n 0, 1) := by decide +kernel
theorem dX10_feed_48 : decode cX10_feed 48 = .ok (.getfield 9, 3) := by decide +kernel
theorem dX10_feed_51 : decode cX10_feed 51 = .ok (.bipush 50, 2) := by decide +kernel
theorem dX10_feed_53 : decode cX10_feed 53 = .ok (.aload_n 0, 1) := by decide +kernel
theorem dX10_feed_54 : decode cX10_feed 54 = .ok (.getfield 9, 3) := by decide +kernel
theorem dX10_feed_57 : decode cX10_feed 57 = .ok (.bipush 7, 2) := by decide +kernel
theorem dX10_feed_59 : decode cX10_feed 59 = .ok (.iaload, 1) := by decide +kernel
theorem dX10_feed_60 : decode cX10_feed 60 = .ok (.iadd, 1) := by decide +kernel
theorem dX10_feed_61 : decode cX10_feed 61 = .ok (.lload_n 1, 1) := by decide +kernel
theorem dX10_feed_62 : decode cX10_feed 62 = .ok (.bipush 8, 2) := by decide +kernel
theorem dX10_feed_64 : decode cX10_feed 64 = .ok (.iload 4, 2) := by decide +kernel
theorem dX10_feed_66 : decode cX10_feed 66 = .ok (.imul, 1) := by decide +kernel
theorem dX10_feed_67 : decode cX10_feed 67 = .ok (.lshr, 1) := by decide +kernel
theorem dX10_feed_68 : decode cX10_feed 68 = .ok (.ldc2_w 137, 3) := by decide +kernel
theorem dX10_feed_71 : decode cX10_feed 71 = .ok (.land, 1) := by decide +kernel
theorem dX10_feed_72 : decode cX10_feed 72 = .ok (.l2i, 1) := by decide +kernel
theorem dX10_feed_73 : decode cX10_feed 73 = .ok (.iastore, 1) := by decide +kernel
theorem dX10_feed_74 : decode cX10_feed 74 = .ok (.aload_n 0, 1) := by decide +kernel
theorem dX10_feed_75 : decode cX10_feed 75 = .ok (.getfield 9, 3) := by decide +kernel
theorem dX10_feed_78 : decode cX10_feed 78 = .ok (.bipush 7, 2) := by decide +kernel
theorem dX10_feed_80 : decode cX10_feed 80 = .ok (.dup2, 1) := by decide +kernel
theorem dX10_feed_81 : decode cX10_feed 81 = .ok (.iaload, 1) := by decide +kernel
theorem dX10_feed_82 : decode cX10_feed 82 = .ok (.iconst 1, 1) := by decide +kernel
theorem dX10_feed_83 : decode cX10_feed 83 = .ok (.iadd, 1) := by decide +kernel
theorem dX10_feed_84 : decode cX10_feed 84 = .ok (.iastore, 1) := by decide +kernel
theorem dX10_feed_85 : decode cX10_feed 85 = .ok (.iinc 4 1, 3) := by decide +kernel
theorem dX10_feed_88 : decode cX10_feed 88 = .ok (.goto (-47), 3) := by decide +kernel
theorem dX10_feed_91 : decode cX10_feed 91 = .ok (.aload_n 0, 1) := by decide +kernel
theorem dX10_feed_92 : decode cX10_feed 92 = .ok (.getfield 9, 3) := by decide +kernel
theorem dX10_feed_95 : decode cX10_feed 95 = .ok (.bipush 7, 2) := by decide +kernel
theorem dX10_feed_97 : decode cX10_feed 97 = .ok (.iaload, 1) := by decide +kernel
theorem dX10_feed_98 : decode cX10_feed 98 = .ok (.ireturn, 1) := by decide +kernel
theorem dX10_here_0 : decode cX10_here 0 = .ok (.aload_n 0, 1) := by decide +kernel
theorem dX10_here_1 : decode cX10_here 1 = .ok (.getfield 139, 3) := by decide +kernel
theorem dX10_here_4 : decode cX10_here 4 = .ok (.aload_n 0, 1) := by decide +kernel
theorem dX10_here_5 : decode cX10_here 5 = .ok (.getfield 9, 3) := by decide +kernel
theorem dX10_here_8 : decode cX10_here 8 = .ok (.bipush 7, 2) := by decide +kernel
theorem dX10_here_10 : decode cX10_here 10 = .ok (.iaload, 1) := by decide +kernel
theorem dX10_here_11 : decode cX10_here 11 = .ok (.if_icmp .ge 18, 3) := by decide +kernel
theorem dX10_here_14 : decode cX10_here 14 = .ok (.aload_n 0, 1) := by decide +kernel
theorem dX10_here_15 : decode cX10_here 15 = .ok (.getfield 9, 3) := by decide +kernel
theorem dX10_here_18 : decode cX10_here 18 = .ok (.bipush 50, 2) := by decide +kernel
theorem dX10_here_20 : decode cX10_here 20 = .ok (.aload_n 0, 1) := by decide +kernel
theorem dX10_here_21 : decode cX10_here 21 = .ok (.getfield 139, 3) := by decide +kernel
theorem dX10_here_24 : decode cX10_here 24 = .ok (.iadd, 1) := by decide +kernel
theorem dX10_here_25 : decode cX10_here 25 = .ok (.iaload, 1) := by decide +kernel
theorem dX10_here_26 : decode cX10_here 26 = .ok (.goto 4, 3) := by decide +kernel
theorem dX10_here_29 : decode cX10_here 29 = .ok (.iconst (-1), 1) := by decide +kernel
theorem dX10_here_30 : decode cX10_here 30 = .ok (.ireturn, 1) := by decide +kernel
theorem dX10_takes_0 : decode cX10_takes 0 = .ok (.aload_n 0, 1) := by decide +kernel
theorem dX10_takes_1 : decode cX10_takes 1 = .ok (.invokevirtual 143, 3) := by decide +kernel
theorem dX10_takes_4 : decode cX10_takes 4 = .ok (.iload_n 1, 1) := by decide +kernel
theorem dX10_takes_5 : decode cX10_takes 5 = .ok (.if_icmp .eq 5, 3) := by decide +kernel
theorem dX10_takes_8 : decode cX10_takes 8 = .ok (.iconst 0, 1) := by decide +kernel
theorem dX10_takes_9 : decode cX10_takes 9 = .ok (.ireturn, 1) := by decide +kernel
theorem dX10_takes_10 : decode cX10_takes 10 = .ok (.aload_n 0, 1) := by decide +kernel
theorem dX10_takes_11 : decode cX10_takes 11 = .ok (.dup, 1) := by decide +kernel
theorem dX10_takes_12 : decode cX10_takes 12 = .ok (.getfield 139, 3) := by decide +kernel
theorem dX10_takes_15 : decode cX10_takes 15 = .ok (.iconst 1, 1) := by decide +kernel
theorem dX10_takes_16 : decode cX10_takes 16 = .ok (.iadd, 1) := by decide +kernel
theorem dX10_takes_17 : decode cX10_takes 17 = .ok (.putfield 139, 3) := by decide +kernel
theorem dX10_takes_20 : decode cX10_takes 20 = .ok (.iconst 1, 1) := by decide +kernel
theorem dX10_takes_21 : decode cX10_takes 21 = .ok (.ireturn, 1) := by decide +kernel
theorem dX10_isDigit_0 : decode cX10_isDigit 0 = .ok (.aload_n 0, 1) := by decide +kernel
theorem dX10_isDigit_1 : decode cX10_isDigit 1 = .ok (.invokevirtual 143, 3) := by decide +kernel
theorem dX10_isDigit_4 : decode cX10_isDigit 4 = .ok (.i2l, 1) := by decide +kernel
theorem dX10_isDigit_5 : decode cX10_isDigit 5 = .ok (.ldc2_w 147, 3) := by decide +kernel
theorem dX10_isDigit_8 : decode cX10_isDigit 8 = .ok (.ldc2_w 149, 3) := by decide +kernel
theorem dX10_isDigit_11 : decode cX10_isDigit 11 = .ok (.invokestatic 53, 3) := by decide +kernel
theorem dX10_isDigit_14 : decode cX10_isDigit 14 = .ok (.ireturn, 1) := by decide +kernel
theorem dX10_lays_0 : decode cX10_lays 0 = .ok (.aload_n 0, 1) := by decide +kernel
theorem dX10_lays_1 : decode cX10_lays 1 = .ok (.getfield 19, 3) := by decide +kernel
theorem dX10_lays_4 : decode cX10_lays 4 = .ok (.iconst 2, 1) := by decide +kernel
theorem dX10_lays_5 : decode cX10_lays 5 = .ok (.aload_n 0, 1) := by decide +kernel
theorem dX10_lays_6 : decode cX10_lays 6 = .ok (.getfield 151, 3) := by decide +kernel
theorem dX10_lays_9 : decode cX10_lays 9 = .ok (.imul, 1) := by decide +kernel
theorem dX10_lays_10 : decode cX10_lays 10 = .ok (.iload_n 1, 1) := by decide +kernel
theorem dX10_lays_11 : decode cX10_lays 11 = .ok (.iastore, 1) := by decide +kernel
theorem dX10_lays_12 : decode cX10_lays 12 = .ok (.aload_n 0, 1) := by decide +kernel
theorem dX10_lays_13 : decode cX10_lays 13 = .ok (.getfield 19, 3) := by decide +kernel
theorem dX10_lays_16 : decode cX10_lays 16 = .ok (.iconst 2, 1) := by decide +kernel
theorem dX10_lays_17 : decode cX10_lays 17 = .ok (.aload_n 0, 1) := by decide +kernel
theorem dX10_lays_18 : decode cX10_lays 18 = .ok (.getfield 151, 3) := by decide +kernel
theorem dX10_lays_21 : decode cX10_lays 21 = .ok (.imul, 1) := by decide +kernel
theorem dX10_lays_22 : decode cX10_lays 22 = .ok (.iconst 1, 1) := by decide +kernel
theorem dX10_lays_23 : decode cX10_lays 23 = .ok (.iadd, 1) := by decide +kernel
theorem dX10_lays_24 : decode cX10_lays 24 = .ok (.iload_n 2, 1) := by decide +kernel
theorem dX10_lays_25 : decode cX10_lays 25 = .ok (.iastore, 1) := by decide +kernel
theorem dX10_lays_26 : decode cX10_lays 26 = .ok (.aload_n 0, 1) := by decide +kernel
theorem dX10_lays_27 : decode cX10_lays 27 = .ok (.dup, 1) := by decide +kernel
theorem dX10_lays_28 : decode cX10_lays 28 = .ok (.getfield 151, 3) := by decide +kernel
theorem dX10_lays_31 : decode cX10_lays 31 = .ok (.iconst 1, 1) := by decide +kernel
theorem dX10_lays_32 : decode cX10_lays 32 = .ok (.iadd, 1) := by decide +kernel
theorem dX10_lays_33 : decode cX10_lays 33 = .ok (.putfield 151, 3) := by decide +kernel
theorem dX10_lays_36 : decode cX10_lays 36 = .ok (.return_, 1) := by decide +kernel
theorem dX10_nameHere_0 : decode cX10_nameHere 0 = .ok (.aload_n 0, 1) := by decide +kernel
theorem dX10_nameHere_1 : decode cX10_nameHere 1 = .ok (.invokevirtual 143, 3) := by decide +kernel
theorem dX10_nameHere_4 : decode cX10_nameHere 4 = .ok (.istore_n 1, 1) := by decide +kernel
theorem dX10_nameHere_5 : decode cX10_nameHere 5 = .ok (.aload_n 0, 1) := by decide +kernel
theorem dX10_nameHere_6 : decode cX10_nameHere 6 = .ok (.getfield 154, 3) := by decide +kernel
theorem dX10_nameHere_9 : decode cX10_nameHere 9 = .ok (.ifCond .ne 25, 3) := by decide +kernel
theorem dX10_nameHere_12 : decode cX10_nameHere 12 = .ok (.iload_n 1, 1) := by decide +kernel
theorem dX10_nameHere_13 : decode cX10_nameHere 13 = .ok (.bipush 102, 2) := by decide +kernel
theorem dX10_nameHere_15 : decode cX10_nameHere 15 = .ok (.if_icmp .ne 7, 3) := by decide +kernel
theorem dX10_nameHere_18 : decode cX10_nameHere 18 = .ok (.iconst 0, 1) := by decide +kernel
theorem dX10_nameHere_19 : decode cX10_nameHere 19 = .ok (.goto 14, 3) := by decide +kernel
theorem dX10_nameHere_22 : decode cX10_nameHere 22 = .ok (.iload_n 1, 1) := by decide +kernel
theorem dX10_nameHere_23 : decode cX10_nameHere 23 = .ok (.bipush 109, 2) := by decide +kernel
theorem dX10_nameHere_25 : decode cX10_nameHere 25 = .ok (.if_icmp .ne 7, 3) := by decide +kernel
theorem dX10_nameHere_28 : decode cX10_nameHere 28 = .ok (.iconst 1, 1) := by decide +kernel
theorem dX10_nameHere_29 : decode cX10_nameHere 29 = .ok (.goto 4, 3) := by decide +kernel
theorem dX10_nameHere_32 : decode cX10_nameHere 32 = .ok (.iconst (-1), 1) := by decide +kernel
theorem dX10_nameHere_33 : decode cX10_nameHere 33 = .ok (.ireturn, 1) := by decide +kernel
theorem dX10_nameHere_34 : decode cX10_nameHere 34 = .ok (.iload_n 1, 1) := by decide +kernel
theorem dX10_nameHere_35 : decode cX10_nameHere 35 = .ok (.bipush 115, 2) := by decide +kernel
theorem dX10_nameHere_37 : decode cX10_nameHere 37 = .ok (.if_icmp .ne 7, 3) := by decide +kernel
theorem dX10_nameHere_40 : decode cX10_nameHere 40 = .ok (.iconst 0, 1) := by decide +kernel
theorem dX10_nameHere_41 : decode cX10_nameHere 41 = .ok (.goto 24, 3) := by decide +kernel
theorem dX10_nameHere_44 : decode cX10_nameHere 44 = .ok (.iload_n 1, 1) := by decide +kernel
theorem dX10_nameHere_45 : decode cX10_nameHere 45 = .ok (.bipush 108, 2) := by decide +kernel
theorem dX10_nameHere_47 : decode cX10_nameHere 47 = .ok (.if_icmp .ne 7, 3) := by decide +kernel
theorem dX10_nameHere_50 : decode cX10_nameHere 50 = .ok (.iconst 1, 1) := by decide +kernel
theorem dX10_nameHere_51 : decode cX10_nameHere 51 = .ok (.goto 14, 3) := by decide +kernel
theorem dX10_nameHere_54 : decode cX10_nameHere 54 = .ok (.iload_n 1, 1) := by decide +kernel
theorem dX10_nameHere_55 : decode cX10_nameHere 55 = .ok (.bipush 116, 2) := by decide +kernel
theorem dX10_nameHere_57 : decode cX10_nameHere 57 = .ok (.if_icmp .ne 7, 3) := by decide +kernel
theorem dX10_nameHere_60 : decode cX10_nameHere 60 = .ok (.iconst 2, 1) := by decide +kernel
theorem dX10_nameHere_61 : decode cX10_nameHere 61 = .ok (.goto 4, 3) := by decide +kernel
theorem dX10_nameHere_64 : decode cX10_nameHere 64 = .ok (.iconst (-1), 1) := by decide +kernel
theorem dX10_nameHere_65 : decode cX10_nameHere 65 = .ok (.ireturn, 1) := by decide +kernel
theorem dX10_readsNumber_0 : decode cX10_readsNumber 0 = .ok (.iconst 0, 1) := by decide +kernel
theorem dX10_readsNumber_1 : decode cX10_readsNumber 1 = .ok (.istore_n 1, 1) := by decide +kernel
theorem dX10_readsNumber_2 : decode cX10_readsNumber 2 = .ok (.iconst 0, 1) := by decide +kernel
theorem dX10_readsNumber_3 : decode cX10_readsNumber 3 = .ok (.istore_n 2, 1) := by decide +kernel
theorem dX10_readsNumber_4 : decode cX10_readsNumber 4 = .ok (.iload_n 2, 1) := by decide +kernel
theorem dX10_readsNumber_5 : decode cX10_readsNumber 5 = .ok (.iconst 4, 1) := by decide +kernel
theorem dX10_readsNumber_6 : decode cX10_readsNumber 6 = .ok (.if_icmp .ge 39, 3) := by decide +kernel
theorem dX10_readsNumber_9 : decode cX10_readsNumber 9 = .ok (.aload_n 0, 1) := by decide +kernel
theorem dX10_readsNumber_10 : decode cX10_readsNumber 10 = .ok (.invokevirtual 157, 3) := by decide +kernel
theorem dX10_readsNumber_13 : decode cX10_readsNumber 13 = .ok (.ifCond .eq 32, 3) := by decide +kernel
theorem dX10_readsNumber_16 : decode cX10_readsNumber 16 = .ok (.bipush 10, 2) := by decide +kernel
theorem dX10_readsNumber_18 : decode cX10_readsNumber 18 = .ok (.iload_n 1, 1) := by decide +kernel
theorem dX10_readsNumber_19 : decode cX10_readsNumber 19 = .ok (.imul, 1) := by decide +kernel
theorem dX10_readsNumber_20 : decode cX10_readsNumber 20 = .ok (.aload_n 0, 1) := by decide +kernel
theorem dX10_readsNumber_21 : decode cX10_readsNumber 21 = .ok (.invokevirtual 143, 3) := by decide +kernel
theorem dX10_readsNumber_24 : decode cX10_readsNumber 24 = .ok (.iadd, 1) := by decide +kernel
theorem dX10_readsNumber_25 : decode cX10_readsNumber 25 = .ok (.bipush 48, 2) := by decide +kernel
theorem dX10_readsNumber_27 : decode cX10_readsNumber 27 = .ok (.isub, 1) := by decide +kernel
theorem dX10_readsNumber_28 : decode cX10_readsNumber 28 = .ok (.istore_n 1, 1) := by decide +kernel
theorem dX10_readsNumber_29 : decode cX10_readsNumber 29 = .ok (.aload_n 0, 1) := by decide +kernel
theorem dX10_readsNumber_30 : decode cX10_readsNumber 30 = .ok (.dup, 1) := by decide +kernel
theorem dX10_readsNumber_31 : decode cX10_readsNumber 31 = .ok (.getfield 139, 3) := by decide +kernel
theorem dX10_readsNumber_34 : decode cX10_readsNumber 34 = .ok (.iconst 1, 1) := by decide +kernel
theorem dX10_readsNumber_35 : decode cX10_readsNumber 35 = .ok (.iadd, 1) := by decide +kernel
theorem dX10_readsNumber_36 : decode cX10_readsNumber 36 = .ok (.putfield 139, 3) := by decide +kernel
theorem dX10_readsNumber_39 : decode cX10_readsNumber 39 = .ok (.iinc 2 1, 3) := by decide +kernel
theorem dX10_readsNumber_42 : decode cX10_readsNumber 42 = .ok (.goto (-38), 3) := by decide +kernel
theorem dX10_readsNumber_45 : decode cX10_readsNumber 45 = .ok (.aload_n 0, 1) := by decide +kernel
theorem dX10_readsNumber_46 : decode cX10_readsNumber 46 = .ok (.iconst 0, 1) := by decide +kernel
theorem dX10_readsNumber_47 : decode cX10_readsNumber 47 = .ok (.iload_n 1, 1) := by decide +kernel
theorem dX10_readsNumber_48 : decode cX10_readsNumber 48 = .ok (.invokevirtual 161, 3) := by decide +kernel
theorem dX10_readsNumber_51 : decode cX10_readsNumber 51 = .ok (.iconst 1, 1) := by decide +kernel
theorem dX10_readsNumber_52 : decode cX10_readsNumber 52 = .ok (.ireturn, 1) := by decide +kernel
theorem dX10_readsQ_0 : decode cX10_readsQ 0 = .ok (.aload_n 0, 1) := by decide +kernel
theorem dX10_readsQ_1 : decode cX10_readsQ 1 = .ok (.invokevirtual 157, 3) := by decide +kernel
theorem dX10_readsQ_4 : decode cX10_readsQ 4 = .ok (.ifCond .eq 8, 3) := by decide +kernel
theorem dX10_readsQ_7 : decode cX10_readsQ 7 = .ok (.aload_n 0, 1) := by decide +kernel
theorem dX10_readsQ_8 : decode cX10_readsQ 8 = .ok (.invokevirtual 165, 3) := by decide +kernel
theorem dX10_readsQ_11 : decode cX10_readsQ 11 = .ok (.ireturn, 1) := by decide +kernel
theorem dX10_readsQ_12 : decode cX10_readsQ 12 = .ok (.aload_n 0, 1) := by decide +kernel
theorem dX10_readsQ_13 : decode cX10_readsQ 13 = .ok (.invokevirtual 168, 3) := by decide +kernel
theorem dX10_readsQ_16 : decode cX10_readsQ 16 = .ok (.ifCond .lt 24, 3) := by decide +kernel
theorem dX10_readsQ_19 : decode cX10_readsQ 19 = .ok (.aload_n 0, 1) := by decide +kernel
theorem dX10_readsQ_20 : decode cX10_readsQ 20 = .ok (.iconst 1, 1) := by decide +kernel
theorem dX10_readsQ_21 : decode cX10_readsQ 21 = .ok (.aload_n 0, 1) := by decide +kernel
theorem dX10_readsQ_22 : decode cX10_readsQ 22 = .ok (.invokevirtual 168, 3) := by decide +kernel
theorem dX10_readsQ_25 : decode cX10_readsQ 25 = .ok (.invokevirtual 161, 3) := by decide +kernel
theorem dX10_readsQ_28 : decode cX10_readsQ 28 = .ok (.aload_n 0, 1) := by decide +kernel
theorem dX10_readsQ_29 : decode cX10_readsQ 29 = .ok (.dup, 1) := by decide +kernel
theorem dX10_readsQ_30 : decode cX10_readsQ 30 = .ok (.getfield 139, 3) := by decide +kernel
theorem dX10_readsQ_33 : decode cX10_readsQ 33 = .ok (.iconst 1, 1) := by decide +kernel
theorem dX10_readsQ_34 : decode cX10_readsQ 34 = .ok (.iadd, 1) := by decide +kernel
theorem dX10_readsQ_35 : decode cX10_readsQ 35 = .ok (.putfield 139, 3) := by decide +kernel
theorem dX10_readsQ_38 : decode cX10_readsQ 38 = .ok (.iconst 1, 1) := by decide +kernel
theorem dX10_readsQ_39 : decode cX10_readsQ 39 = .ok (.ireturn, 1) := by decide +kernel
theorem dX10_readsQ_40 : decode cX10_readsQ 40 = .ok (.aload_n 0, 1) := by decide +kernel
theorem dX10_readsQ_41 : decode cX10_readsQ 41 = .ok (.invokevirtual 143, 3) := by decide +kernel
theorem dX10_readsQ_44 : decode cX10_readsQ 44 = .ok (.istore_n 1, 1) := by decide +kernel
theorem dX10_readsQ_45 : decode cX10_readsQ 45 = .ok (.iload_n 1, 1) := by decide +kernel
theorem dX10_readsQ_46 : decode cX10_readsQ 46 = .ok (.bipush 33, 2) := by decide +kernel
theorem dX10_readsQ_48 : decode cX10_readsQ 48 = .ok (.if_icmp .eq 9, 3) := by decide +kernel
theorem dX10_readsQ_51 : decode cX10_readsQ 51 = .ok (.iload_n 1, 1) := by decide +kernel
theorem dX10_readsQ_52 : decode cX10_readsQ 52 = .ok (.bipush 40, 2) := by decide +kernel
theorem dX10_readsQ_54 : decode cX10_readsQ 54 = .ok (.if_icmp .ne 11, 3) := by decide +kernel
theorem dX10_readsQ_57 : decode cX10_readsQ 57 = .ok (.aload_n 0, 1) := by decide +kernel
theorem dX10_readsQ_58 : decode cX10_readsQ 58 = .ok (.getfield 171, 3) := by decide +kernel
theorem dX10_readsQ_61 : decode cX10_readsQ 61 = .ok (.iconst 5, 1) := by decide +kernel
theorem dX10_readsQ_62 : decode cX10_readsQ 62 = .ok (.if_icmp .ne 5, 3) := by decide +kernel
theorem dX10_readsQ_65 : decode cX10_readsQ 65 = .ok (.iconst 0, 1) := by decide +kernel
theorem dX10_readsQ_66 : decode cX10_readsQ 66 = .ok (.ireturn, 1) := by decide +kernel
theorem dX10_readsQ_67 : decode cX10_readsQ 67 = .ok (.aload_n 0, 1) := by decide +kernel
theorem dX10_readsQ_68 : decode cX10_readsQ 68 = .ok (.dup, 1) := by decide +kernel
theorem dX10_readsQ_69 : decode cX10_readsQ 69 = .ok (.getfield 139, 3) := by decide +kernel
theorem dX10_readsQ_72 : decode cX10_readsQ 72 = .ok (.iconst 1, 1) := by decide +kernel
theorem dX10_readsQ_73 : decode cX10_readsQ 73 = .ok (.iadd, 1) := by decide +kernel
theorem dX10_readsQ_74 : decode cX10_readsQ 74 = .ok (.putfield 139, 3) := by decide +kernel
theorem dX10_readsQ_77 : decode cX10_readsQ 77 = .ok (.aload_n 0, 1) := by decide +kernel
theorem dX10_readsQ_78 : decode cX10_readsQ 78 = .ok (.dup, 1) := by decide +kernel
theorem dX10_readsQ_79 : decode cX10_readsQ 79 = .ok (.getfield 171, 3) := by decide +kernel
theorem dX10_readsQ_82 : decode cX10_readsQ 82 = .ok (.iconst 1, 1) := by decide +kernel
theorem dX10_readsQ_83 : decode cX10_readsQ 83 = .ok (.iadd, 1) := by decide +kernel
theorem dX10_readsQ_84 : decode cX10_readsQ 84 = .ok (.putfield 171, 3) := by decide +kernel
theorem dX10_readsQ_87 : decode cX10_readsQ 87 = .ok (.iload_n 1, 1) := by decide +kernel
theorem dX10_readsQ_88 : decode cX10_readsQ 88 = .ok (.bipush 33, 2) := by decide +kernel
theorem dX10_readsQ_90 : decode cX10_readsQ 90 = .ok (.if_icmp .ne 10, 3) := by decide +kernel
theorem dX10_readsQ_93 : decode cX10_readsQ 93 = .ok (.aload_n 0, 1) := by decide +kernel
theorem dX10_readsQ_94 : decode cX10_readsQ 94 = .ok (.invokevirtual 174, 3) := by decide +kernel
theorem dX10_readsQ_97 : decode cX10_readsQ 97 = .ok (.goto 24, 3) := by decide +kernel
theorem dX10_readsQ_100 : decode cX10_readsQ 100 = .ok (.aload_n 0, 1) := by decide +kernel
theorem dX10_readsQ_101 : decode cX10_readsQ 101 = .ok (.invokevirtual 177, 3) := by decide +kernel
theorem dX10_readsQ_104 : decode cX10_readsQ 104 = .ok (.ifCond .eq 16, 3) := by decide +kernel
theorem dX10_readsQ_107 : decode cX10_readsQ 107 = .ok (.aload_n 0, 1) := by decide +kernel
theorem dX10_readsQ_108 : decode cX10_readsQ 108 = .ok (.bipush 41, 2) := by decide +kernel
theorem dX10_readsQ_110 : decode cX10_readsQ 110 = .ok (.invokevirtual 180, 3) := by decide +kernel
theorem dX10_readsQ_113 : decode cX10_readsQ 113 = .ok (.ifCond .eq 7, 3) := by decide +kernel
theorem dX10_readsQ_116 : decode cX10_readsQ 116 = .ok (.iconst 1, 1) := by decide +kernel
theorem dX10_readsQ_117 : decode cX10_readsQ 117 = .ok (.goto 4, 3) := by decide +kernel
theorem dX10_readsQ_120 : decode cX10_readsQ 120 = .ok (.iconst 0, 1) := by decide +kernel
theorem dX10_readsQ_121 : decode cX10_readsQ 121 = .ok (.istore_n 2, 1) := by decide +kernel
theorem dX10_readsQ_122 : decode cX10_readsQ 122 = .ok (.aload_n 0, 1) := by decide +kernel
theorem dX10_readsQ_123 : decode cX10_readsQ 123 = .ok (.dup, 1) := by decide +kernel
theorem dX10_readsQ_124 : decode cX10_readsQ 124 = .ok (.getfield 171, 3) := by decide +kernel
theorem dX10_readsQ_127 : decode cX10_readsQ 127 = .ok (.iconst 1, 1) := by decide +kernel
theorem dX10_readsQ_128 : decode cX10_readsQ 128 = .ok (.isub, 1) := by decide +kernel
theorem dX10_readsQ_129 : decode cX10_readsQ 129 = .ok (.putfield 171, 3) := by decide +kernel
theorem dX10_readsQ_132 : decode cX10_readsQ 132 = .ok (.iload_n 1, 1) := by decide +kernel
theorem dX10_readsQ_133 : decode cX10_readsQ 133 = .ok (.bipush 33, 2) := by decide +kernel
theorem dX10_readsQ_135 : decode cX10_readsQ 135 = .ok (.if_icmp .ne 13, 3) := by decide +kernel
theorem dX10_readsQ_138 : decode cX10_readsQ 138 = .ok (.iload_n 2, 1) := by decide +kernel
theorem dX10_readsQ_139 : decode cX10_readsQ 139 = .ok (.ifCond .eq 9, 3) := by decide +kernel
theorem dX10_readsQ_142 : decode cX10_readsQ 142 = .ok (.aload_n 0, 1) := by decide +kernel
theorem dX10_readsQ_143 : decode cX10_readsQ 143 = .ok (.iconst 3, 1) := by decide +kernel
theorem dX10_readsQ_144 : decode cX10_readsQ 144 = .ok (.iconst 0, 1) := by decide +kernel
theorem dX10_readsQ_145 : decode cX10_readsQ 145 = .ok (.invokevirtual 161, 3) := by decide +kernel
theorem dX10_readsQ_148 : decode cX10_readsQ 148 = .ok (.iload_n 2, 1) := by decide +kernel
theorem dX10_readsQ_149 : decode cX10_readsQ 149 = .ok (.ireturn, 1) := by decide +kernel
theorem dX10_reads_0 : decode cX10_reads 0 = .ok (.iload_n 1, 1) := by decide +kernel
theorem dX10_reads_1 : decode cX10_reads 1 = .ok (.iconst 4, 1) := by decide +kernel
theorem dX10_reads_2 : decode cX10_reads 2 = .ok (.if_icmp .ne 10, 3) := by decide +kernel
theorem dX10_reads_5 : decode cX10_reads 5 = .ok (.aload_n 0, 1) := by decide +kernel
theorem dX10_reads_6 : decode cX10_reads 6 = .ok (.invokevirtual 174, 3) := by decide +kernel
theorem dX10_reads_9 : decode cX10_reads 9 = .ok (.goto 10, 3) := by decide +kernel
theorem dX10_reads_12 : decode cX10_reads 12 = .ok (.aload_n 0, 1) := by decide +kernel
theorem dX10_reads_13 : decode cX10_reads 13 = .ok (.iload_n 1, 1) := by decide +kernel
theorem dX10_reads_14 : decode cX10_reads 14 = .ok (.iconst 1, 1) := by decide +kernel
theorem dX10_reads_15 : decode cX10_reads 15 = .ok (.iadd, 1) := by decide +kernel
theorem dX10_reads_16 : decode cX10_reads 16 = .ok (.invokevirtual 183, 3) := by decide +kernel
theorem dX10_reads_19 : decode cX10_reads 19 = .ok (.istore_n 2, 1) := by decide +kernel
theorem dX10_reads_20 : decode cX10_reads 20 = .ok (.iconst 0, 1) := by decide +kernel
theorem dX10_reads_21 : decode cX10_reads 21 = .ok (.istore_n 3, 1) := by decide +kernel
theorem dX10_reads_22 : decode cX10_reads 22 = .ok (.iload_n 2, 1) := by decide +kernel
theorem dX10_reads_23 : decode cX10_reads 23 = .ok (.ifCond .eq 69, 3) := by decide +kernel
theorem dX10_reads_26 : decode cX10_reads 26 = .ok (.aload_n 0, 1) := by decide +kernel
theorem dX10_reads_27 : decode cX10_reads 27 = .ok (.iload_n 1, 1) := by decide +kernel
theorem dX10_reads_28 : decode cX10_reads 28 = .ok (.invokevirtual 186, 3) := by decide +kernel
theorem dX10_reads_31 : decode cX10_reads 31 = .ok (.ifCond .eq 61, 3) := by decide +kernel
theorem dX10_reads_34 : decode cX10_reads 34 = .ok (.iload_n 1, 1) := by decide +kernel
theorem dX10_reads_35 : decode cX10_reads 35 = .ok (.iconst 2, 1) := by decide +kernel
theorem dX10_reads_36 : decode cX10_reads 36 = .ok (.if_icmp .ne 7, 3) := by decide +kernel
theorem dX10_reads_39 : decode cX10_reads 39 = .ok (.iload_n 3, 1) := by decide +kernel
theorem dX10_reads_40 : decode cX10_reads 40 = .ok (.ifCond .ne 52, 3) := by decide +kernel
theorem dX10_reads_43 : decode cX10_reads 43 = .ok (.aload_n 0, 1) := by decide +kernel
theorem dX10_reads_44 : decode cX10_reads 44 = .ok (.invokevirtual 143, 3) := by decide +kernel
theorem dX10_reads_47 : decode cX10_reads 47 = .ok (.istore 4, 2) := by decide +kernel
theorem dX10_reads_49 : decode cX10_reads 49 = .ok (.aload_n 0, 1) := by decide +kernel
theorem dX10_reads_50 : decode cX10_reads 50 = .ok (.dup, 1) := by decide +kernel
theorem dX10_reads_51 : decode cX10_reads 51 = .ok (.getfield 139, 3) := by decide +kernel
theorem dX10_reads_54 : decode cX10_reads 54 = .ok (.iconst 1, 1) := by decide +kernel
theorem dX10_reads_55 : decode cX10_reads 55 = .ok (.iadd, 1) := by decide +kernel
theorem dX10_reads_56 : decode cX10_reads 56 = .ok (.putfield 139, 3) := by decide +kernel
theorem dX10_reads_59 : decode cX10_reads 59 = .ok (.iinc 3 1, 3) := by decide +kernel
theorem dX10_reads_62 : decode cX10_reads 62 = .ok (.iload_n 1, 1) := by decide +kernel
theorem dX10_reads_63 : decode cX10_reads 63 = .ok (.iconst 4, 1) := by decide +kernel
theorem dX10_reads_64 : decode cX10_reads 64 = .ok (.if_icmp .ne 10, 3) := by decide +kernel
theorem dX10_reads_67 : decode cX10_reads 67 = .ok (.aload_n 0, 1) := by decide +kernel
theorem dX10_reads_68 : decode cX10_reads 68 = .ok (.invokevirtual 174, 3) := by decide +kernel
theorem dX10_reads_71 : decode cX10_reads 71 = .ok (.goto 10, 3) := by decide +kernel
theorem dX10_reads_74 : decode cX10_reads 74 = .ok (.aload_n 0, 1) := by decide +kernel
theorem dX10_reads_75 : decode cX10_reads 75 = .ok (.iload_n 1, 1) := by decide +kernel
theorem dX10_reads_76 : decode cX10_reads 76 = .ok (.iconst 1, 1) := by decide +kernel
theorem dX10_reads_77 : decode cX10_reads 77 = .ok (.iadd, 1) := by decide +kernel
theorem dX10_reads_78 : decode cX10_reads 78 = .ok (.invokevirtual 183, 3) := by decide +kernel
theorem dX10_reads_81 : decode cX10_reads 81 = .ok (.istore_n 2, 1) := by decide +kernel
theorem dX10_reads_82 : decode cX10_reads 82 = .ok (.aload_n 0, 1) := by decide +kernel
theorem dX10_reads_83 : decode cX10_reads 83 = .ok (.iconst 2, 1) := by decide +kernel
theorem dX10_reads_84 : decode cX10_reads 84 = .ok (.iload 4, 2) := by decide +kernel
theorem dX10_reads_86 : decode cX10_reads 86 = .ok (.invokevirtual 161, 3) := by decide +kernel
theorem dX10_reads_89 : decode cX10_reads 89 = .ok (.goto (-67), 3) := by decide +kernel
theorem dX10_reads_92 : decode cX10_reads 92 = .ok (.iload_n 2, 1) := by decide +kernel
theorem dX10_reads_93 : decode cX10_reads 93 = .ok (.ireturn, 1) := by decide +kernel
theorem dX10_isSign_0 : decode cX10_isSign 0 = .ok (.aload_n 0, 1) := by decide +kernel
theorem dX10_isSign_1 : decode cX10_isSign 1 = .ok (.invokevirtual 143, 3) := by decide +kernel
theorem dX10_isSign_4 : decode cX10_isSign 4 = .ok (.istore_n 2, 1) := by decide +kernel
theorem dX10_isSign_5 : decode cX10_isSign 5 = .ok (.iload_n 1, 1) := by decide +kernel
theorem dX10_isSign_6 : decode cX10_isSign 6 = .ok (.tableswitch 96 0 3 #[30, 42, 54, 78], 30) := by decide +kernel
theorem dX10_isSign_36 : decode cX10_isSign 36 = .ok (.iload_n 2, 1) := by decide +kernel
theorem dX10_isSign_37 : decode cX10_isSign 37 = .ok (.bipush 124, 2) := by decide +kernel
theorem dX10_isSign_39 : decode cX10_isSign 39 = .ok (.if_icmp .ne 7, 3) := by decide +kernel
theorem dX10_isSign_42 : decode cX10_isSign 42 = .ok (.iconst 1, 1) := by decide +kernel
theorem dX10_isSign_43 : decode cX10_isSign 43 = .ok (.goto 4, 3) := by decide +kernel
theorem dX10_isSign_46 : decode cX10_isSign 46 = .ok (.iconst 0, 1) := by decide +kernel
theorem dX10_isSign_47 : decode cX10_isSign 47 = .ok (.ireturn, 1) := by decide +kernel
theorem dX10_isSign_48 : decode cX10_isSign 48 = .ok (.iload_n 2, 1) := by decide +kernel
theorem dX10_isSign_49 : decode cX10_isSign 49 = .ok (.bipush 38, 2) := by decide +kernel
theorem dX10_isSign_51 : decode cX10_isSign 51 = .ok (.if_icmp .ne 7, 3) := by decide +kernel
theorem dX10_isSign_54 : decode cX10_isSign 54 = .ok (.iconst 1, 1) := by decide +kernel
theorem dX10_isSign_55 : decode cX10_isSign 55 = .ok (.goto 4, 3) := by decide +kernel
theorem dX10_isSign_58 : decode cX10_isSign 58 = .ok (.iconst 0, 1) := by decide +kernel
theorem dX10_isSign_59 : decode cX10_isSign 59 = .ok (.ireturn, 1) := by decide +kernel
theorem dX10_isSign_60 : decode cX10_isSign 60 = .ok (.iload_n 2, 1) := by decide +kernel
theorem dX10_isSign_61 : decode cX10_isSign 61 = .ok (.bipush 60, 2) := by decide +kernel
theorem dX10_isSign_63 : decode cX10_isSign 63 = .ok (.if_icmp .eq 15, 3) := by decide +kernel
theorem dX10_isSign_66 : decode cX10_isSign 66 = .ok (.iload_n 2, 1) := by decide +kernel
theorem dX10_isSign_67 : decode cX10_isSign 67 = .ok (.bipush 61, 2) := by decide +kernel
theorem dX10_isSign_69 : decode cX10_isSign 69 = .ok (.if_icmp .eq 9, 3) := by decide +kernel
theorem dX10_isSign_72 : decode cX10_isSign 72 = .ok (.iload_n 2, 1) := by decide +kernel
theorem dX10_isSign_73 : decode cX10_isSign 73 = .ok (.bipush 62, 2) := by decide +kernel
theorem dX10_isSign_75 : decode cX10_isSign 75 = .ok (.if_icmp .ne 7, 3) := by decide +kernel
theorem dX10_isSign_78 : decode cX10_isSign 78 = .ok (.iconst 1, 1) := by decide +kernel
theorem dX10_isSign_79 : decode cX10_isSign 79 = .ok (.goto 4, 3) := by decide +kernel
theorem dX10_isSign_82 : decode cX10_isSign 82 = .ok (.iconst 0, 1) := by decide +kernel
theorem dX10_isSign_83 : decode cX10_isSign 83 = .ok (.ireturn, 1) := by decide +kernel
theorem dX10_isSign_84 : decode cX10_isSign 84 = .ok (.iload_n 2, 1) := by decide +kernel
theorem dX10_isSign_85 : decode cX10_isSign 85 = .ok (.bipush 43, 2) := by decide +kernel
theorem dX10_isSign_87 : decode cX10_isSign 87 = .ok (.if_icmp .eq 9, 3) := by decide +kernel
theorem dX10_isSign_90 : decode cX10_isSign 90 = .ok (.iload_n 2, 1) := by decide +kernel
theorem dX10_isSign_91 : decode cX10_isSign 91 = .ok (.bipush 45, 2) := by decide +kernel
theorem dX10_isSign_93 : decode cX10_isSign 93 = .ok (.if_icmp .ne 7, 3) := by decide +kernel
theorem dX10_isSign_96 : decode cX10_isSign 96 = .ok (.iconst 1, 1) := by decide +kernel
theorem dX10_isSign_97 : decode cX10_isSign 97 = .ok (.goto 4, 3) := by decide +kernel
theorem dX10_isSign_100 : decode cX10_isSign 100 = .ok (.iconst 0, 1) := by decide +kernel
theorem dX10_isSign_101 : decode cX10_isSign 101 = .ok (.ireturn, 1) := by decide +kernel
theorem dX10_isSign_102 : decode cX10_isSign 102 = .ok (.iload_n 2, 1) := by decide +kernel
theorem dX10_isSign_103 : decode cX10_isSign 103 = .ok (.bipush 42, 2) := by decide +kernel
theorem dX10_isSign_105 : decode cX10_isSign 105 = .ok (.if_icmp .eq 15, 3) := by decide +kernel
theorem dX10_isSign_108 : decode cX10_isSign 108 = .ok (.iload_n 2, 1) := by decide +kernel
theorem dX10_isSign_109 : decode cX10_isSign 109 = .ok (.bipush 47, 2) := by decide +kernel
theorem dX10_isSign_111 : decode cX10_isSign 111 = .ok (.if_icmp .eq 9, 3) := by decide +kernel
theorem dX10_isSign_114 : decode cX10_isSign 114 = .ok (.iload_n 2, 1) := by decide +kernel
theorem dX10_isSign_115 : decode cX10_isSign 115 = .ok (.bipush 37, 2) := by decide +kernel
theorem dX10_isSign_117 : decode cX10_isSign 117 = .ok (.if_icmp .ne 7, 3) := by decide +kernel
theorem dX10_isSign_120 : decode cX10_isSign 120 = .ok (.iconst 1, 1) := by decide +kernel
theorem dX10_isSign_121 : decode cX10_isSign 121 = .ok (.goto 4, 3) := by decide +kernel
theorem dX10_isSign_124 : decode cX10_isSign 124 = .ok (.iconst 0, 1) := by decide +kernel
theorem dX10_isSign_125 : decode cX10_isSign 125 = .ok (.ireturn, 1) := by decide +kernel
theorem dX10_readsT_0 : decode cX10_readsT 0 = .ok (.aload_n 0, 1) := by decide +kernel
theorem dX10_readsT_1 : decode cX10_readsT 1 = .ok (.iconst 0, 1) := by decide +kernel
theorem dX10_readsT_2 : decode cX10_readsT 2 = .ok (.invokevirtual 183, 3) := by decide +kernel
theorem dX10_readsT_5 : decode cX10_readsT 5 = .ok (.ireturn, 1) := by decide +kernel
theorem dX10_text_0 : decode cX10_text 0 = .ok (.iload_n 1, 1) := by decide +kernel
theorem dX10_text_1 : decode cX10_text 1 = .ok (.i2l, 1) := by decide +kernel
theorem dX10_text_2 : decode cX10_text 2 = .ok (.lconst 0, 1) := by decide +kernel
theorem dX10_text_3 : decode cX10_text 3 = .ok (.lconst 1, 1) := by decide +kernel
theorem dX10_text_4 : decode cX10_text 4 = .ok (.invokestatic 53, 3) := by decide +kernel
theorem dX10_text_7 : decode cX10_text 7 = .ok (.ifCond .ne 9, 3) := by decide +kernel
theorem dX10_text_10 : decode cX10_text 10 = .ok (.aload_n 0, 1) := by decide +kernel
theorem dX10_text_11 : decode cX10_text 11 = .ok (.iconst 1, 1) := by decide +kernel
theorem dX10_text_12 : decode cX10_text 12 = .ok (.invokevirtual 79, 3) := by decide +kernel
theorem dX10_text_15 : decode cX10_text 15 = .ok (.ireturn, 1) := by decide +kernel
theorem dX10_text_16 : decode cX10_text 16 = .ok (.aload_n 0, 1) := by decide +kernel
theorem dX10_text_17 : decode cX10_text 17 = .ok (.iload_n 1, 1) := by decide +kernel
theorem dX10_text_18 : decode cX10_text 18 = .ok (.putfield 154, 3) := by decide +kernel
theorem dX10_text_21 : decode cX10_text 21 = .ok (.aload_n 0, 1) := by decide +kernel
theorem dX10_text_22 : decode cX10_text 22 = .ok (.iconst 0, 1) := by decide +kernel
theorem dX10_text_23 : decode cX10_text 23 = .ok (.putfield 139, 3) := by decide +kernel
theorem dX10_text_26 : decode cX10_text 26 = .ok (.aload_n 0, 1) := by decide +kernel
theorem dX10_text_27 : decode cX10_text 27 = .ok (.iconst 0, 1) := by decide +kernel
theorem dX10_text_28 : decode cX10_text 28 = .ok (.putfield 171, 3) := by decide +kernel
theorem dX10_text_31 : decode cX10_text 31 = .ok (.aload_n 0, 1) := by decide +kernel
theorem dX10_text_32 : decode cX10_text 32 = .ok (.iconst 0, 1) := by decide +kernel
theorem dX10_text_33 : decode cX10_text 33 = .ok (.putfield 151, 3) := by decide +kernel
theorem dX10_text_36 : decode cX10_text 36 = .ok (.aload_n 0, 1) := by decide +kernel
theorem dX10_text_37 : decode cX10_text 37 = .ok (.invokevirtual 177, 3) := by decide +kernel
theorem dX10_text_40 : decode cX10_text 40 = .ok (.ifCond .eq 21, 3) := by decide +kernel
theorem dX10_text_43 : decode cX10_text 43 = .ok (.aload_n 0, 1) := by decide +kernel
theorem dX10_text_44 : decode cX10_text 44 = .ok (.getfield 139, 3) := by decide +kernel
theorem dX10_text_47 : decode cX10_text 47 = .ok (.aload_n 0, 1) := by decide +kernel
theorem dX10_text_48 : decode cX10_text 48 = .ok (.getfield 9, 3) := by decide +kernel
theorem dX10_text_51 : decode cX10_text 51 = .ok (.bipush 7, 2) := by decide +kernel
theorem dX10_text_53 : decode cX10_text 53 = .ok (.iaload, 1) := by decide +kernel
theorem dX10_text_54 : decode cX10_text 54 = .ok (.if_icmp .ne 7, 3) := by decide +kernel
theorem dX10_text_57 : decode cX10_text 57 = .ok (.iconst 1, 1) := by decide +kernel
theorem dX10_text_58 : decode cX10_text 58 = .ok (.goto 4, 3) := by decide +kernel
theorem dX10_text_61 : decode cX10_text 61 = .ok (.iconst 0, 1) := by decide +kernel
theorem dX10_text_62 : decode cX10_text 62 = .ok (.istore_n 2, 1) := by decide +kernel
theorem dX10_text_63 : decode cX10_text 63 = .ok (.aload_n 0, 1) := by decide +kernel
theorem dX10_text_64 : decode cX10_text 64 = .ok (.getfield 9, 3) := by decide +kernel
theorem dX10_text_67 : decode cX10_text 67 = .ok (.bipush 7, 2) := by decide +kernel
theorem dX10_text_69 : decode cX10_text 69 = .ok (.iconst 0, 1) := by decide +kernel
theorem dX10_text_70 : decode cX10_text 70 = .ok (.iastore, 1) := by decide +kernel
theorem dX10_text_71 : decode cX10_text 71 = .ok (.iload_n 2, 1) := by decide +kernel
theorem dX10_text_72 : decode cX10_text 72 = .ok (.ifCond .ne 11, 3) := by decide +kernel
theorem dX10_text_75 : decode cX10_text 75 = .ok (.bipush (-10), 2) := by decide +kernel
theorem dX10_text_77 : decode cX10_text 77 = .ok (.aload_n 0, 1) := by decide +kernel
theorem dX10_text_78 : decode cX10_text 78 = .ok (.getfield 139, 3) := by decide +kernel
theorem dX10_text_81 : decode cX10_text 81 = .ok (.isub, 1) := by decide +kernel
theorem dX10_text_82 : decode cX10_text 82 = .ok (.ireturn, 1) := by decide +kernel
theorem dX10_text_83 : decode cX10_text 83 = .ok (.bipush 120, 2) := by decide +kernel
theorem dX10_text_85 : decode cX10_text 85 = .ok (.bipush 101, 2) := by decide +kernel
theorem dX10_text_87 : decode cX10_text 87 = .ok (.iload_n 1, 1) := by decide +kernel
theorem dX10_text_88 : decode cX10_text 88 = .ok (.imul, 1) := by decide +kernel
theorem dX10_text_89 : decode cX10_text 89 = .ok (.iadd, 1) := by decide +kernel
theorem dX10_text_90 : decode cX10_text 90 = .ok (.istore_n 3, 1) := by decide +kernel
theorem dX10_text_91 : decode cX10_text 91 = .ok (.aload_n 0, 1) := by decide +kernel
theorem dX10_text_92 : decode cX10_text 92 = .ok (.getfield 9, 3) := by decide +kernel
theorem dX10_text_95 : decode cX10_text 95 = .ok (.iload_n 3, 1) := by decide +kernel
theorem dX10_text_96 : decode cX10_text 96 = .ok (.aload_n 0, 1) := by decide +kernel
theorem dX10_text_97 : decode cX10_text 97 = .ok (.getfield 151, 3) := by decide +kernel
theorem dX10_text_100 : decode cX10_text 100 = .ok (.iastore, 1) := by decide +kernel
theorem dX10_text_101 : decode cX10_text 101 = .ok (.iconst 0, 1) := by decide +kernel
theorem dX10_text_102 : decode cX10_text 102 = .ok (.istore 4, 2) := by decide +kernel
theorem dX10_text_104 : decode cX10_text 104 = .ok (.iload 4, 2) := by decide +kernel
theorem dX10_text_106 : decode cX10_text 106 = .ok (.iconst 2, 1) := by decide +kernel
theorem dX10_text_107 : decode cX10_text 107 = .ok (.aload_n 0, 1) := by decide +kernel
theorem dX10_text_108 : decode cX10_text 108 = .ok (.getfield 151, 3) := by decide +kernel
theorem dX10_text_111 : decode cX10_text 111 = .ok (.imul, 1) := by decide +kernel
theorem dX10_text_112 : decode cX10_text 112 = .ok (.if_icmp .ge 27, 3) := by decide +kernel
theorem dX10_text_115 : decode cX10_text 115 = .ok (.aload_n 0, 1) := by decide +kernel
theorem dX10_text_116 : decode cX10_text 116 = .ok (.getfield 9, 3) := by decide +kernel
theorem dX10_text_119 : decode cX10_text 119 = .ok (.iload_n 3, 1) := by decide +kernel
theorem dX10_text_120 : decode cX10_text 120 = .ok (.iconst 1, 1) := by decide +kernel
theorem dX10_text_121 : decode cX10_text 121 = .ok (.iadd, 1) := by decide +kernel
theorem dX10_text_122 : decode cX10_text 122 = .ok (.iload 4, 2) := by decide +kernel
theorem dX10_text_124 : decode cX10_text 124 = .ok (.iadd, 1) := by decide +kernel
theorem dX10_text_125 : decode cX10_text 125 = .ok (.aload_n 0, 1) := by decide +kernel
theorem dX10_text_126 : decode cX10_text 126 = .ok (.getfield 19, 3) := by decide +kernel
theorem dX10_text_129 : decode cX10_text 129 = .ok (.iload 4, 2) := by decide +kernel
theorem dX10_text_131 : decode cX10_text 131 = .ok (.iaload, 1) := by decide +kernel
theorem dX10_text_132 : decode cX10_text 132 = .ok (.iastore, 1) := by decide +kernel
theorem dX10_text_133 : decode cX10_text 133 = .ok (.iinc 4 1, 3) := by decide +kernel
theorem dX10_text_136 : decode cX10_text 136 = .ok (.goto (-32), 3) := by decide +kernel
theorem dX10_text_139 : decode cX10_text 139 = .ok (.iconst 1, 1) := by decide +kernel
theorem dX10_text_140 : decode cX10_text 140 = .ok (.ireturn, 1) := by decide +kernel
theorem dX10_worked_0 : decode cX10_worked 0 = .ok (.iload_n 0, 1) := by decide +kernel
theorem dX10_worked_1 : decode cX10_worked 1 = .ok (.lookupswitch 178 #[(38, 97), (42, 152), (43, 144), (45, 148), (47, 156), (60, 111), (61, 122), (62, 133), (124, 83)], 83) := by decide +kernel
theorem dX10_worked_84 : decode cX10_worked 84 = .ok (.iload_n 1, 1) := by decide +kernel
theorem dX10_worked_85 : decode cX10_worked 85 = .ok (.ifCond .ne 7, 3) := by decide +kernel
theorem dX10_worked_88 : decode cX10_worked 88 = .ok (.iload_n 2, 1) := by decide +kernel
theorem dX10_worked_89 : decode cX10_worked 89 = .ok (.ifCond .eq 7, 3) := by decide +kernel
theorem dX10_worked_92 : decode cX10_worked 92 = .ok (.iconst 1, 1) := by decide +kernel
theorem dX10_worked_93 : decode cX10_worked 93 = .ok (.goto 4, 3) := by decide +kernel
theorem dX10_worked_96 : decode cX10_worked 96 = .ok (.iconst 0, 1) := by decide +kernel
theorem dX10_worked_97 : decode cX10_worked 97 = .ok (.ireturn, 1) := by decide +kernel
theorem dX10_worked_98 : decode cX10_worked 98 = .ok (.iload_n 1, 1) := by decide +kernel
theorem dX10_worked_99 : decode cX10_worked 99 = .ok (.ifCond .eq 11, 3) := by decide +kernel
theorem dX10_worked_102 : decode cX10_worked 102 = .ok (.iload_n 2, 1) := by decide +kernel
theorem dX10_worked_103 : decode cX10_worked 103 = .ok (.ifCond .eq 7, 3) := by decide +kernel
theorem dX10_worked_106 : decode cX10_worked 106 = .ok (.iconst 1, 1) := by decide +kernel
theorem dX10_worked_107 : decode cX10_worked 107 = .ok (.goto 4, 3) := by decide +kernel
theorem dX10_worked_110 : decode cX10_worked 110 = .ok (.iconst 0, 1) := by decide +kernel
theorem dX10_worked_111 : decode cX10_worked 111 = .ok (.ireturn, 1) := by decide +kernel
theorem dX10_worked_112 : decode cX10_worked 112 = .ok (.iload_n 1, 1) := by decide +kernel
theorem dX10_worked_113 : decode cX10_worked 113 = .ok (.iload_n 2, 1) := by decide +kernel
theorem dX10_worked_114 : decode cX10_worked 114 = .ok (.if_icmp .ge 7, 3) := by decide +kernel
theorem dX10_worked_117 : decode cX10_worked 117 = .ok (.iconst 1, 1) := by decide +kernel
theorem dX10_worked_118 : decode cX10_worked 118 = .ok (.goto 4, 3) := by decide +kernel
theorem dX10_worked_121 : decode cX10_worked 121 = .ok (.iconst 0, 1) := by decide +kernel
theorem dX10_worked_122 : decode cX10_worked 122 = .ok (.ireturn, 1) := by decide +kernel
theorem dX10_worked_123 : decode cX10_worked 123 = .ok (.iload_n 1, 1) := by decide +kernel
theorem dX10_worked_124 : decode cX10_worked 124 = .ok (.iload_n 2, 1) := by decide +kernel
theorem dX10_worked_125 : decode cX10_worked 125 = .ok (.if_icmp .ne 7, 3) := by decide +kernel
theorem dX10_worked_128 : decode cX10_worked 128 = .ok (.iconst 1, 1) := by decide +kernel
theorem dX10_worked_129 : decode cX10_worked 129 = .ok (.goto 4, 3) := by decide +kernel
theorem dX10_worked_132 : decode cX10_worked 132 = .ok (.iconst 0, 1) := by decide +kernel
theorem dX10_worked_133 : decode cX10_worked 133 = .ok (.ireturn, 1) := by decide +kernel
theorem dX10_worked_134 : decode cX10_worked 134 = .ok (.iload_n 1, 1) := by decide +kernel
theorem dX10_worked_135 : decode cX10_worked 135 = .ok (.iload_n 2, 1) := by decide +kernel
theorem dX10_worked_136 : decode cX10_worked 136 = .ok (.if_icmp .le 7, 3) := by decide +kernel
theorem dX10_worked_139 : decode cX10_worked 139 = .ok (.iconst 1, 1) := by decide +kernel
theorem dX10_worked_140 : decode cX10_worked 140 = .ok (.goto 4, 3) := by decide +kernel
theorem dX10_worked_143 : decode cX10_worked 143 = .ok (.iconst 0, 1) := by decide +kernel
theorem dX10_worked_144 : decode cX10_worked 144 = .ok (.ireturn, 1) := by decide +kernel
theorem dX10_worked_145 : decode cX10_worked 145 = .ok (.iload_n 1, 1) := by decide +kernel
theorem dX10_worked_146 : decode cX10_worked 146 = .ok (.iload_n 2, 1) := by decide +kernel
theorem dX10_worked_147 : decode cX10_worked 147 = .ok (.iadd, 1) := by decide +kernel
theorem dX10_worked_148 : decode cX10_worked 148 = .ok (.ireturn, 1) := by decide +kernel
theorem dX10_worked_149 : decode cX10_worked 149 = .ok (.iload_n 1, 1) := by decide +kernel
theorem dX10_worked_150 : decode cX10_worked 150 = .ok (.iload_n 2, 1) := by decide +kernel
theorem dX10_worked_151 : decode cX10_worked 151 = .ok (.isub, 1) := by decide +kernel
theorem dX10_worked_152 : decode cX10_worked 152 = .ok (.ireturn, 1) := by decide +kernel
theorem dX10_worked_153 : decode cX10_worked 153 = .ok (.iload_n 1, 1) := by decide +kernel
theorem dX10_worked_154 : decode cX10_worked 154 = .ok (.iload_n 2, 1) := by decide +kernel
theorem dX10_worked_155 : decode cX10_worked 155 = .ok (.imul, 1) := by decide +kernel
theorem dX10_worked_156 : decode cX10_worked 156 = .ok (.ireturn, 1) := by decide +kernel
theorem dX10_worked_157 : decode cX10_worked 157 = .ok (.iload_n 2, 1) := by decide +kernel
theorem dX10_worked_158 : decode cX10_worked 158 = .ok (.ifCond .ne 7, 3) := by decide +kernel
theorem dX10_worked_161 : decode cX10_worked 161 = .ok (.iconst 0, 1) := by decide +kernel
theorem dX10_worked_162 : decode cX10_worked 162 = .ok (.goto 16, 3) := by decide +kernel
theorem dX10_worked_165 : decode cX10_worked 165 = .ok (.iload_n 2, 1) := by decide +kernel
theorem dX10_worked_166 : decode cX10_worked 166 = .ok (.iconst (-1), 1) := by decide +kernel
theorem dX10_worked_167 : decode cX10_worked 167 = .ok (.if_icmp .ne 8, 3) := by decide +kernel
theorem dX10_worked_170 : decode cX10_worked 170 = .ok (.iload_n 1, 1) := by decide +kernel
theorem dX10_worked_171 : decode cX10_worked 171 = .ok (.ineg, 1) := by decide +kernel
theorem dX10_worked_172 : decode cX10_worked 172 = .ok (.goto 6, 3) := by decide +kernel
theorem dX10_worked_175 : decode cX10_worked 175 = .ok (.iload_n 1, 1) := by decide +kernel
theorem dX10_worked_176 : decode cX10_worked 176 = .ok (.iload_n 2, 1) := by decide +kernel
theorem dX10_worked_177 : decode cX10_worked 177 = .ok (.idiv, 1) := by decide +kernel
theorem dX10_worked_178 : decode cX10_worked 178 = .ok (.ireturn, 1) := by decide +kernel
theorem dX10_worked_179 : decode cX10_worked 179 = .ok (.iload_n 2, 1) := by decide +kernel
theorem dX10_worked_180 : decode cX10_worked 180 = .ok (.ifCond .eq 8, 3) := by decide +kernel
theorem dX10_worked_183 : decode cX10_worked 183 = .ok (.iload_n 2, 1) := by decide +kernel
theorem dX10_worked_184 : decode cX10_worked 184 = .ok (.iconst (-1), 1) := by decide +kernel
theorem dX10_worked_185 : decode cX10_worked 185 = .ok (.if_icmp .ne 7, 3) := by decide +kernel
theorem dX10_worked_188 : decode cX10_worked 188 = .ok (.iconst 0, 1) := by decide +kernel
theorem dX10_worked_189 : decode cX10_worked 189 = .ok (.goto 6, 3) := by decide +kernel
theorem dX10_worked_192 : decode cX10_worked 192 = .ok (.iload_n 1, 1) := by decide +kernel
theorem dX10_worked_193 : decode cX10_worked 193 = .ok (.iload_n 2, 1) := by decide +kernel
theorem dX10_worked_194 : decode cX10_worked 194 = .ok (.irem, 1) := by decide +kernel
theorem dX10_worked_195 : decode cX10_worked 195 = .ok (.ireturn, 1) := by decide +kernel
theorem dX10_worksOut_0 : decode cX10_worksOut 0 = .ok (.iconst 0, 1) := by decide +kernel
theorem dX10_worksOut_1 : decode cX10_worksOut 1 = .ok (.istore_n 2, 1) := by decide +kernel
theorem dX10_worksOut_2 : decode cX10_worksOut 2 = .ok (.iconst 0, 1) := by decide +kernel
theorem dX10_worksOut_3 : decode cX10_worksOut 3 = .ok (.istore_n 3, 1) := by decide +kernel
theorem dX10_worksOut_4 : decode cX10_worksOut 4 = .ok (.iload_n 3, 1) := by decide +kernel
theorem dX10_worksOut_5 : decode cX10_worksOut 5 = .ok (.aload_n 0, 1) := by decide +kernel
theorem dX10_worksOut_6 : decode cX10_worksOut 6 = .ok (.getfield 9, 3) := by decide +kernel
theorem dX10_worksOut_9 : decode cX10_worksOut 9 = .ok (.iload_n 1, 1) := by decide +kernel
theorem dX10_worksOut_10 : decode cX10_worksOut 10 = .ok (.iaload, 1) := by decide +kernel
theorem dX10_worksOut_11 : decode cX10_worksOut 11 = .ok (.if_icmp .ge 135, 3) := by decide +kernel
theorem dX10_worksOut_14 : decode cX10_worksOut 14 = .ok (.aload_n 0, 1) := by decide +kernel
theorem dX10_worksOut_15 : decode cX10_worksOut 15 = .ok (.getfield 9, 3) := by decide +kernel
theorem dX10_worksOut_18 : decode cX10_worksOut 18 = .ok (.iload_n 1, 1) := by decide +kernel
theorem dX10_worksOut_19 : decode cX10_worksOut 19 = .ok (.iconst 1, 1) := by decide +kernel
theorem dX10_worksOut_20 : decode cX10_worksOut 20 = .ok (.iadd, 1) := by decide +kernel
theorem dX10_worksOut_21 : decode cX10_worksOut 21 = .ok (.iconst 2, 1) := by decide +kernel
theorem dX10_worksOut_22 : decode cX10_worksOut 22 = .ok (.iload_n 3, 1) := by decide +kernel
theorem dX10_worksOut_23 : decode cX10_worksOut 23 = .ok (.imul, 1) := by decide +kernel
theorem dX10_worksOut_24 : decode cX10_worksOut 24 = .ok (.iadd, 1) := by decide +kernel
theorem dX10_worksOut_25 : decode cX10_worksOut 25 = .ok (.iaload, 1) := by decide +kernel
theorem dX10_worksOut_26 : decode cX10_worksOut 26 = .ok (.istore 4, 2) := by decide +kernel
theorem dX10_worksOut_28 : decode cX10_worksOut 28 = .ok (.aload_n 0, 1) := by decide +kernel
theorem dX10_worksOut_29 : decode cX10_worksOut 29 = .ok (.getfield 9, 3) := by decide +kernel
theorem dX10_worksOut_32 : decode cX10_worksOut 32 = .ok (.iload_n 1, 1) := by decide +kernel
theorem dX10_worksOut_33 : decode cX10_worksOut 33 = .ok (.iconst 2, 1) := by decide +kernel
theorem dX10_worksOut_34 : decode cX10_worksOut 34 = .ok (.iadd, 1) := by decide +kernel
theorem dX10_worksOut_35 : decode cX10_worksOut 35 = .ok (.iconst 2, 1) := by decide +kernel
theorem dX10_worksOut_36 : decode cX10_worksOut 36 = .ok (.iload_n 3, 1) := by decide +kernel
theorem dX10_worksOut_37 : decode cX10_worksOut 37 = .ok (.imul, 1) := by decide +kernel
theorem dX10_worksOut_38 : decode cX10_worksOut 38 = .ok (.iadd, 1) := by decide +kernel
theorem dX10_worksOut_39 : decode cX10_worksOut 39 = .ok (.iaload, 1) := by decide +kernel
theorem dX10_worksOut_40 : decode cX10_worksOut 40 = .ok (.istore 5, 2) := by decide +kernel
theorem dX10_worksOut_42 : decode cX10_worksOut 42 = .ok (.iload 4, 2) := by decide +kernel
theorem dX10_worksOut_44 : decode cX10_worksOut 44 = .ok (.iconst 2, 1) := by decide +kernel
theorem dX10_worksOut_45 : decode cX10_worksOut 45 = .ok (.if_icmp .ge 32, 3) := by decide +kernel
theorem dX10_worksOut_48 : decode cX10_worksOut 48 = .ok (.aload_n 0, 1) := by decide +kernel
theorem dX10_worksOut_49 : decode cX10_worksOut 49 = .ok (.getfield 22, 3) := by decide +kernel
theorem dX10_worksOut_52 : decode cX10_worksOut 52 = .ok (.iload_n 2, 1) := by decide +kernel
theorem dX10_worksOut_53 : decode cX10_worksOut 53 = .ok (.iload 4, 2) := by decide +kernel
theorem dX10_worksOut_55 : decode cX10_worksOut 55 = .ok (.ifCond .ne 8, 3) := by decide +kernel
theorem dX10_worksOut_58 : decode cX10_worksOut 58 = .ok (.iload 5, 2) := by decide +kernel
theorem dX10_worksOut_60 : decode cX10_worksOut 60 = .ok (.goto 10, 3) := by decide +kernel
theorem dX10_worksOut_63 : decode cX10_worksOut 63 = .ok (.aload_n 0, 1) := by decide +kernel
theorem dX10_worksOut_64 : decode cX10_worksOut 64 = .ok (.getfield 25, 3) := by decide +kernel
theorem dX10_worksOut_67 : decode cX10_worksOut 67 = .ok (.iload 5, 2) := by decide +kernel
theorem dX10_worksOut_69 : decode cX10_worksOut 69 = .ok (.iaload, 1) := by decide +kernel
theorem dX10_worksOut_70 : decode cX10_worksOut 70 = .ok (.iastore, 1) := by decide +kernel
theorem dX10_worksOut_71 : decode cX10_worksOut 71 = .ok (.iinc 2 1, 3) := by decide +kernel
theorem dX10_worksOut_74 : decode cX10_worksOut 74 = .ok (.goto 66, 3) := by decide +kernel
theorem dX10_worksOut_77 : decode cX10_worksOut 77 = .ok (.iload 4, 2) := by decide +kernel
theorem dX10_worksOut_79 : decode cX10_worksOut 79 = .ok (.iconst 3, 1) := by decide +kernel
theorem dX10_worksOut_80 : decode cX10_worksOut 80 = .ok (.if_icmp .ne 30, 3) := by decide +kernel
theorem dX10_worksOut_83 : decode cX10_worksOut 83 = .ok (.aload_n 0, 1) := by decide +kernel
theorem dX10_worksOut_84 : decode cX10_worksOut 84 = .ok (.getfield 22, 3) := by decide +kernel
theorem dX10_worksOut_87 : decode cX10_worksOut 87 = .ok (.iload_n 2, 1) := by decide +kernel
theorem dX10_worksOut_88 : decode cX10_worksOut 88 = .ok (.iconst 1, 1) := by decide +kernel
theorem dX10_worksOut_89 : decode cX10_worksOut 89 = .ok (.isub, 1) := by decide +kernel
theorem dX10_worksOut_90 : decode cX10_worksOut 90 = .ok (.aload_n 0, 1) := by decide +kernel
theorem dX10_worksOut_91 : decode cX10_worksOut 91 = .ok (.getfield 22, 3) := by decide +kernel
theorem dX10_worksOut_94 : decode cX10_worksOut 94 = .ok (.iload_n 2, 1) := by decide +kernel
theorem dX10_worksOut_95 : decode cX10_worksOut 95 = .ok (.iconst 1, 1) := by decide +kernel
theorem dX10_worksOut_96 : decode cX10_worksOut 96 = .ok (.isub, 1) := by decide +kernel
theorem dX10_worksOut_97 : decode cX10_worksOut 97 = .ok (.iaload, 1) := by decide +kernel
theorem dX10_worksOut_98 : decode cX10_worksOut 98 = .ok (.ifCond .ne 7, 3) := by decide +kernel
theorem dX10_worksOut_101 : decode cX10_worksOut 101 = .ok (.iconst 1, 1) := by decide +kernel
theorem dX10_worksOut_102 : decode cX10_worksOut 102 = .ok (.goto 4, 3) := by decide +kernel
theorem dX10_worksOut_105 : decode cX10_worksOut 105 = .ok (.iconst 0, 1) := by decide +kernel
theorem dX10_worksOut_106 : decode cX10_worksOut 106 = .ok (.iastore, 1) := by decide +kernel
theorem dX10_worksOut_107 : decode cX10_worksOut 107 = .ok (.goto 33, 3) := by decide +kernel
theorem dX10_worksOut_110 : decode cX10_worksOut 110 = .ok (.iinc 2 (-1), 3) := by decide +kernel
theorem dX10_worksOut_113 : decode cX10_worksOut 113 = .ok (.aload_n 0, 1) := by decide +kernel
theorem dX10_worksOut_114 : decode cX10_worksOut 114 = .ok (.getfield 22, 3) := by decide +kernel
theorem dX10_worksOut_117 : decode cX10_worksOut 117 = .ok (.iload_n 2, 1) := by decide +kernel
theorem dX10_worksOut_118 : decode cX10_worksOut 118 = .ok (.iconst 1, 1) := by decide +kernel
theorem dX10_worksOut_119 : decode cX10_worksOut 119 = .ok (.isub, 1) := by decide +kernel
theorem dX10_worksOut_120 : decode cX10_worksOut 120 = .ok (.iload 5, 2) := by decide +kernel
theorem dX10_worksOut_122 : decode cX10_worksOut 122 = .ok (.aload_n 0, 1) := by decide +kernel
theorem dX10_worksOut_123 : decode cX10_worksOut 123 = .ok (.getfield 22, 3) := by decide +kernel
theorem dX10_worksOut_126 : decode cX10_worksOut 126 = .ok (.iload_n 2, 1) := by decide +kernel
theorem dX10_worksOut_127 : decode cX10_worksOut 127 = .ok (.iconst 1, 1) := by decide +kernel
theorem dX10_worksOut_128 : decode cX10_worksOut 128 = .ok (.isub, 1) := by decide +kernel
theorem dX10_worksOut_129 : decode cX10_worksOut 129 = .ok (.iaload, 1) := by decide +kernel
theorem dX10_worksOut_130 : decode cX10_worksOut 130 = .ok (.aload_n 0, 1) := by decide +kernel
theorem dX10_worksOut_131 : decode cX10_worksOut 131 = .ok (.getfield 22, 3) := by decide +kernel
theorem dX10_worksOut_134 : decode cX10_worksOut 134 = .ok (.iload_n 2, 1) := by decide +kernel
theorem dX10_worksOut_135 : decode cX10_worksOut 135 = .ok (.iaload, 1) := by decide +kernel
theorem dX10_worksOut_136 : decode cX10_worksOut 136 = .ok (.invokestatic 189, 3) := by decide +kernel
theorem dX10_worksOut_139 : decode cX10_worksOut 139 = .ok (.iastore, 1) := by decide +kernel
theorem dX10_worksOut_140 : decode cX10_worksOut 140 = .ok (.iinc 3 1, 3) := by decide +kernel
theorem dX10_worksOut_143 : decode cX10_worksOut 143 = .ok (.goto (-139), 3) := by decide +kernel
theorem dX10_worksOut_146 : decode cX10_worksOut 146 = .ok (.aload_n 0, 1) := by decide +kernel
theorem dX10_worksOut_147 : decode cX10_worksOut 147 = .ok (.getfield 22, 3) := by decide +kernel
theorem dX10_worksOut_150 : decode cX10_worksOut 150 = .ok (.iconst 0, 1) := by decide +kernel
theorem dX10_worksOut_151 : decode cX10_worksOut 151 = .ok (.iaload, 1) := by decide +kernel
theorem dX10_worksOut_152 : decode cX10_worksOut 152 = .ok (.ireturn, 1) := by decide +kernel
theorem dX10_gives_0 : decode cX10_gives 0 = .ok (.aload_n 0, 1) := by decide +kernel
theorem dX10_gives_1 : decode cX10_gives 1 = .ok (.getfield 25, 3) := by decide +kernel
theorem dX10_gives_4 : decode cX10_gives 4 = .ok (.iconst 0, 1) := by decide +kernel
theorem dX10_gives_5 : decode cX10_gives 5 = .ok (.iload_n 2, 1) := by decide +kernel
theorem dX10_gives_6 : decode cX10_gives 6 = .ok (.iastore, 1) := by decide +kernel
theorem dX10_gives_7 : decode cX10_gives 7 = .ok (.aload_n 0, 1) := by decide +kernel
theorem dX10_gives_8 : decode cX10_gives 8 = .ok (.getfield 25, 3) := by decide +kernel
theorem dX10_gives_11 : decode cX10_gives 11 = .ok (.iconst 1, 1) := by decide +kernel
theorem dX10_gives_12 : decode cX10_gives 12 = .ok (.iload_n 3, 1) := by decide +kernel
theorem dX10_gives_13 : decode cX10_gives 13 = .ok (.iastore, 1) := by decide +kernel
theorem dX10_gives_14 : decode cX10_gives 14 = .ok (.aload_n 0, 1) := by decide +kernel
theorem dX10_gives_15 : decode cX10_gives 15 = .ok (.getfield 25, 3) := by decide +kernel
theorem dX10_gives_18 : decode cX10_gives 18 = .ok (.iconst 2, 1) := by decide +kernel
theorem dX10_gives_19 : decode cX10_gives 19 = .ok (.iload 4, 2) := by decide +kernel
theorem dX10_gives_21 : decode cX10_gives 21 = .ok (.iastore, 1) := by decide +kernel
theorem dX10_gives_22 : decode cX10_gives 22 = .ok (.bipush 120, 2) := by decide +kernel
theorem dX10_gives_24 : decode cX10_gives 24 = .ok (.bipush 101, 2) := by decide +kernel
theorem dX10_gives_26 : decode cX10_gives 26 = .ok (.iload_n 1, 1) := by decide +kernel
theorem dX10_gives_27 : decode cX10_gives 27 = .ok (.imul, 1) := by decide +kernel
theorem dX10_gives_28 : decode cX10_gives 28 = .ok (.iadd, 1) := by decide +kernel
theorem dX10_gives_29 : decode cX10_gives 29 = .ok (.istore 5, 2) := by decide +kernel
theorem dX10_gives_31 : decode cX10_gives 31 = .ok (.aload_n 0, 1) := by decide +kernel
theorem dX10_gives_32 : decode cX10_gives 32 = .ok (.getfield 9, 3) := by decide +kernel
theorem dX10_gives_35 : decode cX10_gives 35 = .ok (.iload 5, 2) := by decide +kernel
theorem dX10_gives_37 : decode cX10_gives 37 = .ok (.iaload, 1) := by decide +kernel
theorem dX10_gives_38 : decode cX10_gives 38 = .ok (.ifCond .lt 12, 3) := by decide +kernel
theorem dX10_gives_41 : decode cX10_gives 41 = .ok (.aload_n 0, 1) := by decide +kernel
theorem dX10_gives_42 : decode cX10_gives 42 = .ok (.iload 5, 2) := by decide +kernel
theorem dX10_gives_44 : decode cX10_gives 44 = .ok (.invokevirtual 192, 3) := by decide +kernel
theorem dX10_gives_47 : decode cX10_gives 47 = .ok (.goto 21, 3) := by decide +kernel
theorem dX10_gives_50 : decode cX10_gives 50 = .ok (.iload_n 1, 1) := by decide +kernel
theorem dX10_gives_51 : decode cX10_gives 51 = .ok (.ifCond .ne 12, 3) := by decide +kernel
theorem dX10_gives_54 : decode cX10_gives 54 = .ok (.iload_n 2, 1) := by decide +kernel
theorem dX10_gives_55 : decode cX10_gives 55 = .ok (.bipush 20, 2) := by decide +kernel
theorem dX10_gives_57 : decode cX10_gives 57 = .ok (.isub, 1) := by decide +kernel
theorem dX10_gives_58 : decode cX10_gives 58 = .ok (.iconst 5, 1) := by decide +kernel
theorem dX10_gives_59 : decode cX10_gives 59 = .ok (.idiv, 1) := by decide +kernel
theorem dX10_gives_60 : decode cX10_gives 60 = .ok (.goto 8, 3) := by decide +kernel
theorem dX10_gives_63 : decode cX10_gives 63 = .ok (.iload_n 3, 1) := by decide +kernel
theorem dX10_gives_64 : decode cX10_gives 64 = .ok (.iload_n 2, 1) := by decide +kernel
theorem dX10_gives_65 : decode cX10_gives 65 = .ok (.iconst 1, 1) := by decide +kernel
theorem dX10_gives_66 : decode cX10_gives 66 = .ok (.iadd, 1) := by decide +kernel
theorem dX10_gives_67 : decode cX10_gives 67 = .ok (.imul, 1) := by decide +kernel
theorem dX10_gives_68 : decode cX10_gives 68 = .ok (.istore 6, 2) := by decide +kernel
theorem dX10_gives_70 : decode cX10_gives 70 = .ok (.iload_n 1, 1) := by decide +kernel
theorem dX10_gives_71 : decode cX10_gives 71 = .ok (.ifCond .ne 15, 3) := by decide +kernel
theorem dX10_gives_74 : decode cX10_gives 74 = .ok (.iload 6, 2) := by decide +kernel
theorem dX10_gives_76 : decode cX10_gives 76 = .ok (.bipush (-9), 2) := by decide +kernel
theorem dX10_gives_78 : decode cX10_gives 78 = .ok (.bipush 9, 2) := by decide +kernel
theorem dX10_gives_80 : decode cX10_gives 80 = .ok (.invokestatic 112, 3) := by decide +kernel
theorem dX10_gives_83 : decode cX10_gives 83 = .ok (.goto 12, 3) := by decide +kernel
theorem dX10_gives_86 : decode cX10_gives 86 = .ok (.iload 6, 2) := by decide +kernel
theorem dX10_gives_88 : decode cX10_gives 88 = .ok (.bipush (-99), 2) := by decide +kernel
theorem dX10_gives_90 : decode cX10_gives 90 = .ok (.bipush 99, 2) := by decide +kernel
theorem dX10_gives_92 : decode cX10_gives 92 = .ok (.invokestatic 112, 3) := by decide +kernel
theorem dX10_gives_95 : decode cX10_gives 95 = .ok (.ireturn, 1) := by decide +kernel
theorem dX10_law_0 : decode cX10_law 0 = .ok (.iload_n 1, 1) := by decide +kernel
theorem dX10_law_1 : decode cX10_law 1 = .ok (.i2l, 1) := by decide +kernel
theorem dX10_law_2 : decode cX10_law 2 = .ok (.lconst 0, 1) := by decide +kernel
theorem dX10_law_3 : decode cX10_law 3 = .ok (.lconst 1, 1) := by decide +kernel
theorem dX10_law_4 : decode cX10_law 4 = .ok (.invokestatic 53, 3) := by decide +kernel
theorem dX10_law_7 : decode cX10_law 7 = .ok (.ifCond .eq 15, 3) := by decide +kernel
theorem dX10_law_10 : decode cX10_law 10 = .ok (.aload_n 0, 1) := by decide +kernel
theorem dX10_law_11 : decode cX10_law 11 = .ok (.iload_n 1, 1) := by decide +kernel
theorem dX10_law_12 : decode cX10_law 12 = .ok (.iload_n 2, 1) := by decide +kernel
theorem dX10_law_13 : decode cX10_law 13 = .ok (.iload_n 3, 1) := by decide +kernel
theorem dX10_law_14 : decode cX10_law 14 = .ok (.iload 4, 2) := by decide +kernel
theorem dX10_law_16 : decode cX10_law 16 = .ok (.invokevirtual 68, 3) := by decide +kernel
theorem dX10_law_19 : decode cX10_law 19 = .ok (.goto 8, 3) := by decide +kernel
theorem dX10_law_22 : decode cX10_law 22 = .ok (.aload_n 0, 1) := by decide +kernel
theorem dX10_law_23 : decode cX10_law 23 = .ok (.iconst 1, 1) := by decide +kernel
theorem dX10_law_24 : decode cX10_law 24 = .ok (.invokevirtual 79, 3) := by decide +kernel
theorem dX10_law_27 : decode cX10_law 27 = .ok (.ireturn, 1) := by decide +kernel
theorem dX10_looksAhead_0 : decode cX10_looksAhead 0 = .ok (.aload_n 0, 1) := by decide +kernel
theorem dX10_looksAhead_1 : decode cX10_looksAhead 1 = .ok (.iload_n 1, 1) := by decide +kernel
theorem dX10_looksAhead_2 : decode cX10_looksAhead 2 = .ok (.iconst 0, 1) := by decide +kernel
theorem dX10_looksAhead_3 : decode cX10_looksAhead 3 = .ok (.invokevirtual 61, 3) := by decide +kernel
theorem dX10_looksAhead_6 : decode cX10_looksAhead 6 = .ok (.istore_n 2, 1) := by decide +kernel
theorem dX10_looksAhead_7 : decode cX10_looksAhead 7 = .ok (.aload_n 0, 1) := by decide +kernel
theorem dX10_looksAhead_8 : decode cX10_looksAhead 8 = .ok (.iload_n 1, 1) := by decide +kernel
theorem dX10_looksAhead_9 : decode cX10_looksAhead 9 = .ok (.iconst 1, 1) := by decide +kernel
theorem dX10_looksAhead_10 : decode cX10_looksAhead 10 = .ok (.invokevirtual 61, 3) := by decide +kernel
theorem dX10_looksAhead_13 : decode cX10_looksAhead 13 = .ok (.istore_n 3, 1) := by decide +kernel
theorem dX10_looksAhead_14 : decode cX10_looksAhead 14 = .ok (.aload_n 0, 1) := by decide +kernel
theorem dX10_looksAhead_15 : decode cX10_looksAhead 15 = .ok (.iload_n 1, 1) := by decide +kernel
theorem dX10_looksAhead_16 : decode cX10_looksAhead 16 = .ok (.iconst 3, 1) := by decide +kernel
theorem dX10_looksAhead_17 : decode cX10_looksAhead 17 = .ok (.invokevirtual 61, 3) := by decide +kernel
theorem dX10_looksAhead_20 : decode cX10_looksAhead 20 = .ok (.aload_n 0, 1) := by decide +kernel
theorem dX10_looksAhead_21 : decode cX10_looksAhead 21 = .ok (.iload_n 1, 1) := by decide +kernel
theorem dX10_looksAhead_22 : decode cX10_looksAhead 22 = .ok (.invokevirtual 94, 3) := by decide +kernel
theorem dX10_looksAhead_25 : decode cX10_looksAhead 25 = .ok (.iadd, 1) := by decide +kernel
theorem dX10_looksAhead_26 : decode cX10_looksAhead 26 = .ok (.istore 4, 2) := by decide +kernel
theorem dX10_looksAhead_28 : decode cX10_looksAhead 28 = .ok (.iload_n 2, 1) := by decide +kernel
theorem dX10_looksAhead_29 : decode cX10_looksAhead 29 = .ok (.iload_n 3, 1) := by decide +kernel
theorem dX10_looksAhead_30 : decode cX10_looksAhead 30 = .ok (.invokestatic 97, 3) := by decide +kernel
theorem dX10_looksAhead_33 : decode cX10_looksAhead 33 = .ok (.istore 5, 2) := by decide +kernel
theorem dX10_looksAhead_35 : decode cX10_looksAhead 35 = .ok (.iload 4, 2) := by decide +kernel
theorem dX10_looksAhead_37 : decode cX10_looksAhead 37 = .ok (.ifCond .le 23, 3) := by decide +kernel
theorem dX10_looksAhead_40 : decode cX10_looksAhead 40 = .ok (.iload 4, 2) := by decide +kernel
theorem dX10_looksAhead_42 : decode cX10_looksAhead 42 = .ok (.iload 5, 2) := by decide +kernel
theorem dX10_looksAhead_44 : decode cX10_looksAhead 44 = .ok (.iload 4, 2) := by decide +kernel
theorem dX10_looksAhead_46 : decode cX10_looksAhead 46 = .ok (.if_icmp .ge 8, 3) := by decide +kernel
theorem dX10_looksAhead_49 : decode cX10_looksAhead 49 = .ok (.iload 5, 2) := by decide +kernel
theorem dX10_looksAhead_51 : decode cX10_looksAhead 51 = .ok (.goto 5, 3) := by decide +kernel
theorem dX10_looksAhead_54 : decode cX10_looksAhead 54 = .ok (.iload 4, 2) := by decide +kernel
theorem dX10_looksAhead_56 : decode cX10_looksAhead 56 = .ok (.isub, 1) := by decide +kernel
theorem dX10_looksAhead_57 : decode cX10_looksAhead 57 = .ok (.goto 22, 3) := by decide +kernel
theorem dX10_looksAhead_60 : decode cX10_looksAhead 60 = .ok (.iload 4, 2) := by decide +kernel
theorem dX10_looksAhead_62 : decode cX10_looksAhead 62 = .ok (.iload 5, 2) := by decide +kernel
theorem dX10_looksAhead_64 : decode cX10_looksAhead 64 = .ok (.iload 4, 2) := by decide +kernel
theorem dX10_looksAhead_66 : decode cX10_looksAhead 66 = .ok (.ineg, 1) := by decide +kernel
theorem dX10_looksAhead_67 : decode cX10_looksAhead 67 = .ok (.if_icmp .ge 8, 3) := by decide +kernel
theorem dX10_looksAhead_70 : decode cX10_looksAhead 70 = .ok (.iload 5, 2) := by decide +kernel
theorem dX10_looksAhead_72 : decode cX10_looksAhead 72 = .ok (.goto 6, 3) := by decide +kernel
theorem dX10_looksAhead_75 : decode cX10_looksAhead 75 = .ok (.iload 4, 2) := by decide +kernel
theorem dX10_looksAhead_77 : decode cX10_looksAhead 77 = .ok (.ineg, 1) := by decide +kernel
theorem dX10_looksAhead_78 : decode cX10_looksAhead 78 = .ok (.iadd, 1) := by decide +kernel
theorem dX10_looksAhead_79 : decode cX10_looksAhead 79 = .ok (.istore 4, 2) := by decide +kernel
theorem dX10_looksAhead_81 : decode cX10_looksAhead 81 = .ok (.iload 4, 2) := by decide +kernel
theorem dX10_looksAhead_83 : decode cX10_looksAhead 83 = .ok (.bipush (-9), 2) := by decide +kernel
theorem dX10_looksAhead_85 : decode cX10_looksAhead 85 = .ok (.bipush 9, 2) := by decide +kernel
theorem dX10_looksAhead_87 : decode cX10_looksAhead 87 = .ok (.invokestatic 112, 3) := by decide +kernel
theorem dX10_looksAhead_90 : decode cX10_looksAhead 90 = .ok (.istore 4, 2) := by decide +kernel
theorem dX10_looksAhead_92 : decode cX10_looksAhead 92 = .ok (.aload_n 0, 1) := by decide +kernel
theorem dX10_looksAhead_93 : decode cX10_looksAhead 93 = .ok (.iload_n 1, 1) := by decide +kernel
theorem dX10_looksAhead_94 : decode cX10_looksAhead 94 = .ok (.iconst 2, 1) := by decide +kernel
theorem dX10_looksAhead_95 : decode cX10_looksAhead 95 = .ok (.invokevirtual 61, 3) := by decide +kernel
theorem dX10_looksAhead_98 : decode cX10_looksAhead 98 = .ok (.iload 4, 2) := by decide +kernel
theorem dX10_looksAhead_100 : decode cX10_looksAhead 100 = .ok (.iadd, 1) := by decide +kernel
theorem dX10_looksAhead_101 : decode cX10_looksAhead 101 = .ok (.istore 6, 2) := by decide +kernel
theorem dX10_looksAhead_103 : decode cX10_looksAhead 103 = .ok (.iload_n 2, 1) := by decide +kernel
theorem dX10_looksAhead_104 : decode cX10_looksAhead 104 = .ok (.iload_n 3, 1) := by decide +kernel
theorem dX10_looksAhead_105 : decode cX10_looksAhead 105 = .ok (.invokestatic 100, 3) := by decide +kernel
theorem dX10_looksAhead_108 : decode cX10_looksAhead 108 = .ok (.istore 7, 2) := by decide +kernel
theorem dX10_looksAhead_110 : decode cX10_looksAhead 110 = .ok (.iload 6, 2) := by decide +kernel
theorem dX10_looksAhead_112 : decode cX10_looksAhead 112 = .ok (.iconst 0, 1) := by decide +kernel
theorem dX10_looksAhead_113 : decode cX10_looksAhead 113 = .ok (.bipush 40, 2) := by decide +kernel
theorem dX10_looksAhead_115 : decode cX10_looksAhead 115 = .ok (.invokestatic 112, 3) := by decide +kernel
theorem dX10_looksAhead_118 : decode cX10_looksAhead 118 = .ok (.aload_n 0, 1) := by decide +kernel
theorem dX10_looksAhead_119 : decode cX10_looksAhead 119 = .ok (.iload_n 1, 1) := by decide +kernel
theorem dX10_looksAhead_120 : decode cX10_looksAhead 120 = .ok (.iconst 4, 1) := by decide +kernel
theorem dX10_looksAhead_121 : decode cX10_looksAhead 121 = .ok (.invokevirtual 61, 3) := by decide +kernel
theorem dX10_looksAhead_124 : decode cX10_looksAhead 124 = .ok (.iload 7, 2) := by decide +kernel
theorem dX10_looksAhead_126 : decode cX10_looksAhead 126 = .ok (.isub, 1) := by decide +kernel
theorem dX10_looksAhead_127 : decode cX10_looksAhead 127 = .ok (.aload_n 0, 1) := by decide +kernel
theorem dX10_looksAhead_128 : decode cX10_looksAhead 128 = .ok (.iload_n 1, 1) := by decide +kernel
theorem dX10_looksAhead_129 : decode cX10_looksAhead 129 = .ok (.iconst 4, 1) := by decide +kernel
theorem dX10_looksAhead_130 : decode cX10_looksAhead 130 = .ok (.invokevirtual 61, 3) := by decide +kernel
theorem dX10_looksAhead_133 : decode cX10_looksAhead 133 = .ok (.iload 7, 2) := by decide +kernel
theorem dX10_looksAhead_135 : decode cX10_looksAhead 135 = .ok (.iadd, 1) := by decide +kernel
theorem dX10_looksAhead_136 : decode cX10_looksAhead 136 = .ok (.invokestatic 112, 3) := by decide +kernel
theorem dX10_looksAhead_139 : decode cX10_looksAhead 139 = .ok (.istore 8, 2) := by decide +kernel
theorem dX10_looksAhead_141 : decode cX10_looksAhead 141 = .ok (.aload_n 0, 1) := by decide +kernel
theorem dX10_looksAhead_142 : decode cX10_looksAhead 142 = .ok (.iload 8, 2) := by decide +kernel
theorem dX10_looksAhead_144 : decode cX10_looksAhead 144 = .ok (.putfield 195, 3) := by decide +kernel
theorem dX10_looksAhead_147 : decode cX10_looksAhead 147 = .ok (.aload_n 0, 1) := by decide +kernel
theorem dX10_looksAhead_148 : decode cX10_looksAhead 148 = .ok (.iload 8, 2) := by decide +kernel
theorem dX10_looksAhead_150 : decode cX10_looksAhead 150 = .ok (.iload 6, 2) := by decide +kernel
theorem dX10_looksAhead_152 : decode cX10_looksAhead 152 = .ok (.if_icmp .ne 8, 3) := by decide +kernel
theorem dX10_looksAhead_155 : decode cX10_looksAhead 155 = .ok (.iload 4, 2) := by decide +kernel
theorem dX10_looksAhead_157 : decode cX10_looksAhead 157 = .ok (.goto 4, 3) := by decide +kernel
theorem dX10_looksAhead_160 : decode cX10_looksAhead 160 = .ok (.iconst 0, 1) := by decide +kernel
theorem dX10_looksAhead_161 : decode cX10_looksAhead 161 = .ok (.putfield 198, 3) := by decide +kernel
theorem dX10_looksAhead_164 : decode cX10_looksAhead 164 = .ok (.return_, 1) := by decide +kernel
theorem dX10_isAtRest_0 : decode cX10_isAtRest 0 = .ok (.aload_n 0, 1) := by decide +kernel
theorem dX10_isAtRest_1 : decode cX10_isAtRest 1 = .ok (.iload_n 1, 1) := by decide +kernel
theorem dX10_isAtRest_2 : decode cX10_isAtRest 2 = .ok (.invokevirtual 201, 3) := by decide +kernel
theorem dX10_isAtRest_5 : decode cX10_isAtRest 5 = .ok (.aload_n 0, 1) := by decide +kernel
theorem dX10_isAtRest_6 : decode cX10_isAtRest 6 = .ok (.getfield 195, 3) := by decide +kernel
theorem dX10_isAtRest_9 : decode cX10_isAtRest 9 = .ok (.aload_n 0, 1) := by decide +kernel
theorem dX10_isAtRest_10 : decode cX10_isAtRest 10 = .ok (.iload_n 1, 1) := by decide +kernel
theorem dX10_isAtRest_11 : decode cX10_isAtRest 11 = .ok (.iconst 2, 1) := by decide +kernel
theorem dX10_isAtRest_12 : decode cX10_isAtRest 12 = .ok (.invokevirtual 61, 3) := by decide +kernel
theorem dX10_isAtRest_15 : decode cX10_isAtRest 15 = .ok (.if_icmp .ne 20, 3) := by decide +kernel
theorem dX10_isAtRest_18 : decode cX10_isAtRest 18 = .ok (.aload_n 0, 1) := by decide +kernel
theorem dX10_isAtRest_19 : decode cX10_isAtRest 19 = .ok (.getfield 198, 3) := by decide +kernel
theorem dX10_isAtRest_22 : decode cX10_isAtRest 22 = .ok (.aload_n 0, 1) := by decide +kernel
theorem dX10_isAtRest_23 : decode cX10_isAtRest 23 = .ok (.iload_n 1, 1) := by decide +kernel
theorem dX10_isAtRest_24 : decode cX10_isAtRest 24 = .ok (.iconst 3, 1) := by decide +kernel
theorem dX10_isAtRest_25 : decode cX10_isAtRest 25 = .ok (.invokevirtual 61, 3) := by decide +kernel
theorem dX10_isAtRest_28 : decode cX10_isAtRest 28 = .ok (.if_icmp .ne 7, 3) := by decide +kernel
theorem dX10_isAtRest_31 : decode cX10_isAtRest 31 = .ok (.iconst 1, 1) := by decide +kernel
theorem dX10_isAtRest_32 : decode cX10_isAtRest 32 = .ok (.goto 4, 3) := by decide +kernel
theorem dX10_isAtRest_35 : decode cX10_isAtRest 35 = .ok (.iconst 0, 1) := by decide +kernel
theorem dX10_isAtRest_36 : decode cX10_isAtRest 36 = .ok (.ireturn, 1) := by decide +kernel
theorem dX10_goes_0 : decode cX10_goes 0 = .ok (.aload_n 0, 1) := by decide +kernel
theorem dX10_goes_1 : decode cX10_goes 1 = .ok (.iload_n 1, 1) := by decide +kernel
theorem dX10_goes_2 : decode cX10_goes 2 = .ok (.invokevirtual 201, 3) := by decide +kernel
theorem dX10_goes_5 : decode cX10_goes 5 = .ok (.aload_n 0, 1) := by decide +kernel
theorem dX10_goes_6 : decode cX10_goes 6 = .ok (.iload_n 1, 1) := by decide +kernel
theorem dX10_goes_7 : decode cX10_goes 7 = .ok (.iconst 2, 1) := by decide +kernel
theorem dX10_goes_8 : decode cX10_goes 8 = .ok (.invokevirtual 61, 3) := by decide +kernel
theorem dX10_goes_11 : decode cX10_goes 11 = .ok (.istore_n 2, 1) := by decide +kernel
theorem dX10_goes_12 : decode cX10_goes 12 = .ok (.aload_n 0, 1) := by decide +kernel
theorem dX10_goes_13 : decode cX10_goes 13 = .ok (.iload_n 1, 1) := by decide +kernel
theorem dX10_goes_14 : decode cX10_goes 14 = .ok (.iconst 2, 1) := by decide +kernel
theorem dX10_goes_15 : decode cX10_goes 15 = .ok (.aload_n 0, 1) := by decide +kernel
theorem dX10_goes_16 : decode cX10_goes 16 = .ok (.getfield 195, 3) := by decide +kernel
theorem dX10_goes_19 : decode cX10_goes 19 = .ok (.invokevirtual 83, 3) := by decide +kernel
theorem dX10_goes_22 : decode cX10_goes 22 = .ok (.aload_n 0, 1) := by decide +kernel
theorem dX10_goes_23 : decode cX10_goes 23 = .ok (.iload_n 1, 1) := by decide +kernel
theorem dX10_goes_24 : decode cX10_goes 24 = .ok (.iconst 3, 1) := by decide +kernel
theorem dX10_goes_25 : decode cX10_goes 25 = .ok (.aload_n 0, 1) := by decide +kernel
theorem dX10_goes_26 : decode cX10_goes 26 = .ok (.getfield 198, 3) := by decide +kernel
theorem dX10_goes_29 : decode cX10_goes 29 = .ok (.invokevirtual 83, 3) := by decide +kernel
theorem dX10_goes_32 : decode cX10_goes 32 = .ok (.aload_n 0, 1) := by decide +kernel
theorem dX10_goes_33 : decode cX10_goes 33 = .ok (.getfield 195, 3) := by decide +kernel
theorem dX10_goes_36 : decode cX10_goes 36 = .ok (.iload_n 2, 1) := by decide +kernel
theorem dX10_goes_37 : decode cX10_goes 37 = .ok (.if_icmp .eq 62, 3) := by decide +kernel
theorem dX10_goes_40 : decode cX10_goes 40 = .ok (.aload_n 0, 1) := by decide +kernel
theorem dX10_goes_41 : decode cX10_goes 41 = .ok (.getfield 195, 3) := by decide +kernel
theorem dX10_goes_44 : decode cX10_goes 44 = .ok (.ifCond .eq 12, 3) := by decide +kernel
theorem dX10_goes_47 : decode cX10_goes 47 = .ok (.aload_n 0, 1) := by decide +kernel
theorem dX10_goes_48 : decode cX10_goes 48 = .ok (.getfield 195, 3) := by decide +kernel
theorem dX10_goes_51 : decode cX10_goes 51 = .ok (.bipush 40, 2) := by decide +kernel
theorem dX10_goes_53 : decode cX10_goes 53 = .ok (.if_icmp .ne 46, 3) := by decide +kernel
theorem dX10_goes_56 : decode cX10_goes 56 = .ok (.aload_n 0, 1) := by decide +kernel
theorem dX10_goes_57 : decode cX10_goes 57 = .ok (.getfield 9, 3) := by decide +kernel
theorem dX10_goes_60 : decode cX10_goes 60 = .ok (.iconst 1, 1) := by decide +kernel
theorem dX10_goes_61 : decode cX10_goes 61 = .ok (.aload_n 0, 1) := by decide +kernel
theorem dX10_goes_62 : decode cX10_goes 62 = .ok (.getfield 9, 3) := by decide +kernel
theorem dX10_goes_65 : decode cX10_goes 65 = .ok (.iconst 1, 1) := by decide +kernel
theorem dX10_goes_66 : decode cX10_goes 66 = .ok (.iaload, 1) := by decide +kernel
theorem dX10_goes_67 : decode cX10_goes 67 = .ok (.aload_n 0, 1) := by decide +kernel
theorem dX10_goes_68 : decode cX10_goes 68 = .ok (.iconst 1, 1) := by decide +kernel
theorem dX10_goes_69 : decode cX10_goes 69 = .ok (.aload_n 0, 1) := by decide +kernel
theorem dX10_goes_70 : decode cX10_goes 70 = .ok (.getfield 195, 3) := by decide +kernel
theorem dX10_goes_73 : decode cX10_goes 73 = .ok (.bipush 40, 2) := by decide +kernel
theorem dX10_goes_75 : decode cX10_goes 75 = .ok (.idiv, 1) := by decide +kernel
theorem dX10_goes_76 : decode cX10_goes 76 = .ok (.aload_n 0, 1) := by decide +kernel
theorem dX10_goes_77 : decode cX10_goes 77 = .ok (.iload_n 1, 1) := by decide +kernel
theorem dX10_goes_78 : decode cX10_goes 78 = .ok (.invokevirtual 91, 3) := by decide +kernel
theorem dX10_goes_81 : decode cX10_goes 81 = .ok (.aload_n 0, 1) := by decide +kernel
theorem dX10_goes_82 : decode cX10_goes 82 = .ok (.getfield 9, 3) := by decide +kernel
theorem dX10_goes_85 : decode cX10_goes 85 = .ok (.iconst 0, 1) := by decide +kernel
theorem dX10_goes_86 : decode cX10_goes 86 = .ok (.iaload, 1) := by decide +kernel
theorem dX10_goes_87 : decode cX10_goes 87 = .ok (.invokevirtual 68, 3) := by decide +kernel
theorem dX10_goes_90 : decode cX10_goes 90 = .ok (.iadd, 1) := by decide +kernel
theorem dX10_goes_91 : decode cX10_goes 91 = .ok (.ldc 205, 2) := by decide +kernel
theorem dX10_goes_93 : decode cX10_goes 93 = .ok (.ldc 206, 2) := by decide +kernel
theorem dX10_goes_95 : decode cX10_goes 95 = .ok (.invokestatic 112, 3) := by decide +kernel
theorem dX10_goes_98 : decode cX10_goes 98 = .ok (.iastore, 1) := by decide +kernel
theorem dX10_goes_99 : decode cX10_goes 99 = .ok (.return_, 1) := by decide +kernel
theorem dX10_step_0 : decode cX10_step 0 = .ok (.iconst 0, 1) := by decide +kernel
theorem dX10_step_1 : decode cX10_step 1 = .ok (.istore_n 1, 1) := by decide +kernel
theorem dX10_step_2 : decode cX10_step 2 = .ok (.iload_n 1, 1) := by decide +kernel
theorem dX10_step_3 : decode cX10_step 3 = .ok (.aload_n 0, 1) := by decide +kernel
theorem dX10_step_4 : decode cX10_step 4 = .ok (.getfield 9, 3) := by decide +kernel
theorem dX10_step_7 : decode cX10_step 7 = .ok (.bipush 6, 2) := by decide +kernel
theorem dX10_step_9 : decode cX10_step 9 = .ok (.iaload, 1) := by decide +kernel
theorem dX10_step_10 : decode cX10_step 10 = .ok (.if_icmp .ge 14, 3) := by decide +kernel
theorem dX10_step_13 : decode cX10_step 13 = .ok (.aload_n 0, 1) := by decide +kernel
theorem dX10_step_14 : decode cX10_step 14 = .ok (.iload_n 1, 1) := by decide +kernel
theorem dX10_step_15 : decode cX10_step 15 = .ok (.invokevirtual 207, 3) := by decide +kernel
theorem dX10_step_18 : decode cX10_step 18 = .ok (.iinc 1 1, 3) := by decide +kernel
theorem dX10_step_21 : decode cX10_step 21 = .ok (.goto (-19), 3) := by decide +kernel
theorem dX10_step_24 : decode cX10_step 24 = .ok (.aload_n 0, 1) := by decide +kernel
theorem dX10_step_25 : decode cX10_step 25 = .ok (.getfield 9, 3) := by decide +kernel
theorem dX10_step_28 : decode cX10_step 28 = .ok (.iconst 0, 1) := by decide +kernel
theorem dX10_step_29 : decode cX10_step 29 = .ok (.dup2, 1) := by decide +kernel
theorem dX10_step_30 : decode cX10_step 30 = .ok (.iaload, 1) := by decide +kernel
theorem dX10_step_31 : decode cX10_step 31 = .ok (.iconst 1, 1) := by decide +kernel
theorem dX10_step_32 : decode cX10_step 32 = .ok (.iadd, 1) := by decide +kernel
theorem dX10_step_33 : decode cX10_step 33 = .ok (.iastore, 1) := by decide +kernel
theorem dX10_step_34 : decode cX10_step 34 = .ok (.return_, 1) := by decide +kernel
theorem dX10_resting_0 : decode cX10_resting 0 = .ok (.iconst 0, 1) := by decide +kernel
theorem dX10_resting_1 : decode cX10_resting 1 = .ok (.istore_n 1, 1) := by decide +kernel
theorem dX10_resting_2 : decode cX10_resting 2 = .ok (.iconst 0, 1) := by decide +kernel
theorem dX10_resting_3 : decode cX10_resting 3 = .ok (.istore_n 2, 1) := by decide +kernel
theorem dX10_resting_4 : decode cX10_resting 4 = .ok (.iload_n 2, 1) := by decide +kernel
theorem dX10_resting_5 : decode cX10_resting 5 = .ok (.aload_n 0, 1) := by decide +kernel
theorem dX10_resting_6 : decode cX10_resting 6 = .ok (.getfield 9, 3) := by decide +kernel
theorem dX10_resting_9 : decode cX10_resting 9 = .ok (.bipush 6, 2) := by decide +kernel
theorem dX10_resting_11 : decode cX10_resting 11 = .ok (.iaload, 1) := by decide +kernel
theorem dX10_resting_12 : decode cX10_resting 12 = .ok (.if_icmp .ge 25, 3) := by decide +kernel
theorem dX10_resting_15 : decode cX10_resting 15 = .ok (.iload_n 1, 1) := by decide +kernel
theorem dX10_resting_16 : decode cX10_resting 16 = .ok (.aload_n 0, 1) := by decide +kernel
theorem dX10_resting_17 : decode cX10_resting 17 = .ok (.iload_n 2, 1) := by decide +kernel
theorem dX10_resting_18 : decode cX10_resting 18 = .ok (.invokevirtual 103, 3) := by decide +kernel
theorem dX10_resting_21 : decode cX10_resting 21 = .ok (.ifCond .eq 7, 3) := by decide +kernel
theorem dX10_resting_24 : decode cX10_resting 24 = .ok (.iconst 1, 1) := by decide +kernel
theorem dX10_resting_25 : decode cX10_resting 25 = .ok (.goto 4, 3) := by decide +kernel
theorem dX10_resting_28 : decode cX10_resting 28 = .ok (.iconst 0, 1) := by decide +kernel
theorem dX10_resting_29 : decode cX10_resting 29 = .ok (.iadd, 1) := by decide +kernel
theorem dX10_resting_30 : decode cX10_resting 30 = .ok (.istore_n 1, 1) := by decide +kernel
theorem dX10_resting_31 : decode cX10_resting 31 = .ok (.iinc 2 1, 3) := by decide +kernel
theorem dX10_resting_34 : decode cX10_resting 34 = .ok (.goto (-30), 3) := by decide +kernel
theorem dX10_resting_37 : decode cX10_resting 37 = .ok (.iload_n 1, 1) := by decide +kernel
theorem dX10_resting_38 : decode cX10_resting 38 = .ok (.ireturn, 1) := by decide +kernel
theorem dX10_draw_0 : decode cX10_draw 0 = .ok (.aload_n 0, 1) := by decide +kernel
theorem dX10_draw_1 : decode cX10_draw 1 = .ok (.getfield 9, 3) := by decide +kernel
theorem dX10_draw_4 : decode cX10_draw 4 = .ok (.iconst 5, 1) := by decide +kernel
theorem dX10_draw_5 : decode cX10_draw 5 = .ok (.aload_n 0, 1) := by decide +kernel
theorem dX10_draw_6 : decode cX10_draw 6 = .ok (.getfield 9, 3) := by decide +kernel
theorem dX10_draw_9 : decode cX10_draw 9 = .ok (.iconst 5, 1) := by decide +kernel
theorem dX10_draw_10 : decode cX10_draw 10 = .ok (.iaload, 1) := by decide +kernel
theorem dX10_draw_11 : decode cX10_draw 11 = .ok (.ldc 210, 2) := by decide +kernel
theorem dX10_draw_13 : decode cX10_draw 13 = .ok (.imul, 1) := by decide +kernel
theorem dX10_draw_14 : decode cX10_draw 14 = .ok (.sipush 12345, 3) := by decide +kernel
theorem dX10_draw_17 : decode cX10_draw 17 = .ok (.iadd, 1) := by decide +kernel
theorem dX10_draw_18 : decode cX10_draw 18 = .ok (.iastore, 1) := by decide +kernel
theorem dX10_draw_19 : decode cX10_draw 19 = .ok (.aload_n 0, 1) := by decide +kernel
theorem dX10_draw_20 : decode cX10_draw 20 = .ok (.getfield 9, 3) := by decide +kernel
theorem dX10_draw_23 : decode cX10_draw 23 = .ok (.iconst 5, 1) := by decide +kernel
theorem dX10_draw_24 : decode cX10_draw 24 = .ok (.iaload, 1) := by decide +kernel
theorem dX10_draw_25 : decode cX10_draw 25 = .ok (.bipush 8, 2) := by decide +kernel
theorem dX10_draw_27 : decode cX10_draw 27 = .ok (.iushr, 1) := by decide +kernel
theorem dX10_draw_28 : decode cX10_draw 28 = .ok (.ireturn, 1) := by decide +kernel
theorem dX10_goOn_0 : decode cX10_goOn 0 = .ok (.iload_n 1, 1) := by decide +kernel
theorem dX10_goOn_1 : decode cX10_goOn 1 = .ok (.i2l, 1) := by decide +kernel
theorem dX10_goOn_2 : decode cX10_goOn 2 = .ok (.lconst 1, 1) := by decide +kernel
theorem dX10_goOn_3 : decode cX10_goOn 3 = .ok (.ldc2_w 211, 3) := by decide +kernel
theorem dX10_goOn_6 : decode cX10_goOn 6 = .ok (.invokestatic 53, 3) := by decide +kernel
theorem dX10_goOn_9 : decode cX10_goOn 9 = .ok (.ifCond .ne 9, 3) := by decide +kernel
theorem dX10_goOn_12 : decode cX10_goOn 12 = .ok (.aload_n 0, 1) := by decide +kernel
theorem dX10_goOn_13 : decode cX10_goOn 13 = .ok (.iconst 1, 1) := by decide +kernel
theorem dX10_goOn_14 : decode cX10_goOn 14 = .ok (.invokevirtual 79, 3) := by decide +kernel
theorem dX10_goOn_17 : decode cX10_goOn 17 = .ok (.ireturn, 1) := by decide +kernel
theorem dX10_goOn_18 : decode cX10_goOn 18 = .ok (.aload_n 0, 1) := by decide +kernel
theorem dX10_goOn_19 : decode cX10_goOn 19 = .ok (.getfield 9, 3) := by decide +kernel
theorem dX10_goOn_22 : decode cX10_goOn 22 = .ok (.iconst 0, 1) := by decide +kernel
theorem dX10_goOn_23 : decode cX10_goOn 23 = .ok (.iaload, 1) := by decide +kernel
theorem dX10_goOn_24 : decode cX10_goOn 24 = .ok (.iload_n 1, 1) := by decide +kernel
theorem dX10_goOn_25 : decode cX10_goOn 25 = .ok (.iadd, 1) := by decide +kernel
theorem dX10_goOn_26 : decode cX10_goOn 26 = .ok (.sipush 9999, 3) := by decide +kernel
theorem dX10_goOn_29 : decode cX10_goOn 29 = .ok (.if_icmp .le 9, 3) := by decide +kernel
theorem dX10_goOn_32 : decode cX10_goOn 32 = .ok (.aload_n 0, 1) := by decide +kernel
theorem dX10_goOn_33 : decode cX10_goOn 33 = .ok (.iconst 3, 1) := by decide +kernel
theorem dX10_goOn_34 : decode cX10_goOn 34 = .ok (.invokevirtual 79, 3) := by decide +kernel
theorem dX10_goOn_37 : decode cX10_goOn 37 = .ok (.ireturn, 1) := by decide +kernel
theorem dX10_goOn_38 : decode cX10_goOn 38 = .ok (.iconst 0, 1) := by decide +kernel
theorem dX10_goOn_39 : decode cX10_goOn 39 = .ok (.istore_n 3, 1) := by decide +kernel
theorem dX10_goOn_40 : decode cX10_goOn 40 = .ok (.iload_n 3, 1) := by decide +kernel
theorem dX10_goOn_41 : decode cX10_goOn 41 = .ok (.iload_n 1, 1) := by decide +kernel
theorem dX10_goOn_42 : decode cX10_goOn 42 = .ok (.if_icmp .ge 53, 3) := by decide +kernel
theorem dX10_goOn_45 : decode cX10_goOn 45 = .ok (.iconst 0, 1) := by decide +kernel
theorem dX10_goOn_46 : decode cX10_goOn 46 = .ok (.istore 4, 2) := by decide +kernel
theorem dX10_goOn_48 : decode cX10_goOn 48 = .ok (.iload 4, 2) := by decide +kernel
theorem dX10_goOn_50 : decode cX10_goOn 50 = .ok (.aload_n 0, 1) := by decide +kernel
theorem dX10_goOn_51 : decode cX10_goOn 51 = .ok (.getfield 9, 3) := by decide +kernel
theorem dX10_goOn_54 : decode cX10_goOn 54 = .ok (.bipush 6, 2) := by decide +kernel
theorem dX10_goOn_56 : decode cX10_goOn 56 = .ok (.iaload, 1) := by decide +kernel
theorem dX10_goOn_57 : decode cX10_goOn 57 = .ok (.if_icmp .ge 28, 3) := by decide +kernel
theorem dX10_goOn_60 : decode cX10_goOn 60 = .ok (.iload_n 2, 1) := by decide +kernel
theorem dX10_goOn_61 : decode cX10_goOn 61 = .ok (.ifCond .eq 24, 3) := by decide +kernel
theorem dX10_goOn_64 : decode cX10_goOn 64 = .ok (.aload_n 0, 1) := by decide +kernel
theorem dX10_goOn_65 : decode cX10_goOn 65 = .ok (.iload 4, 2) := by decide +kernel
theorem dX10_goOn_67 : decode cX10_goOn 67 = .ok (.aload_n 0, 1) := by decide +kernel
theorem dX10_goOn_68 : decode cX10_goOn 68 = .ok (.invokevirtual 213, 3) := by decide +kernel
theorem dX10_goOn_71 : decode cX10_goOn 71 = .ok (.iconst 3, 1) := by decide +kernel
theorem dX10_goOn_72 : decode cX10_goOn 72 = .ok (.irem, 1) := by decide +kernel
theorem dX10_goOn_73 : decode cX10_goOn 73 = .ok (.iconst 1, 1) := by decide +kernel
theorem dX10_goOn_74 : decode cX10_goOn 74 = .ok (.isub, 1) := by decide +kernel
theorem dX10_goOn_75 : decode cX10_goOn 75 = .ok (.invokevirtual 119, 3) := by decide +kernel
theorem dX10_goOn_78 : decode cX10_goOn 78 = .ok (.pop, 1) := by decide +kernel
theorem dX10_goOn_79 : decode cX10_goOn 79 = .ok (.iinc 4 1, 3) := by decide +kernel
theorem dX10_goOn_82 : decode cX10_goOn 82 = .ok (.goto (-34), 3) := by decide +kernel
theorem dX10_goOn_85 : decode cX10_goOn 85 = .ok (.aload_n 0, 1) := by decide +kernel
theorem dX10_goOn_86 : decode cX10_goOn 86 = .ok (.invokevirtual 216, 3) := by decide +kernel
theorem dX10_goOn_89 : decode cX10_goOn 89 = .ok (.iinc 3 1, 3) := by decide +kernel
theorem dX10_goOn_92 : decode cX10_goOn 92 = .ok (.goto (-52), 3) := by decide +kernel
theorem dX10_goOn_95 : decode cX10_goOn 95 = .ok (.aload_n 0, 1) := by decide +kernel
theorem dX10_goOn_96 : decode cX10_goOn 96 = .ok (.invokevirtual 219, 3) := by decide +kernel
theorem dX10_goOn_99 : decode cX10_goOn 99 = .ok (.ireturn, 1) := by decide +kernel
theorem dX10_steps_0 : decode cX10_steps 0 = .ok (.aload_n 0, 1) := by decide +kernel
theorem dX10_steps_1 : decode cX10_steps 1 = .ok (.iload_n 1, 1) := by decide +kernel
theorem dX10_steps_2 : decode cX10_steps 2 = .ok (.iconst 0, 1) := by decide +kernel
theorem dX10_steps_3 : decode cX10_steps 3 = .ok (.invokevirtual 222, 3) := by decide +kernel
theorem dX10_steps_6 : decode cX10_steps 6 = .ok (.ireturn, 1) := by decide +kernel
theorem dX10_loose_0 : decode cX10_loose 0 = .ok (.aload_n 0, 1) := by decide +kernel
theorem dX10_loose_1 : decode cX10_loose 1 = .ok (.iload_n 1, 1) := by decide +kernel
theorem dX10_loose_2 : decode cX10_loose 2 = .ok (.iconst 1, 1) := by decide +kernel
theorem dX10_loose_3 : decode cX10_loose 3 = .ok (.invokevirtual 222, 3) := by decide +kernel
theorem dX10_loose_6 : decode cX10_loose 6 = .ok (.ireturn, 1) := by decide +kernel
theorem dX10_saves_0 : decode cX10_saves 0 = .ok (.aload_n 0, 1) := by decide +kernel
theorem dX10_saves_1 : decode cX10_saves 1 = .ok (.getfield 28, 3) := by decide +kernel
theorem dX10_saves_4 : decode cX10_saves 4 = .ok (.iconst 0, 1) := by decide +kernel
theorem dX10_saves_5 : decode cX10_saves 5 = .ok (.aload_n 0, 1) := by decide +kernel
theorem dX10_saves_6 : decode cX10_saves 6 = .ok (.getfield 9, 3) := by decide +kernel
theorem dX10_saves_9 : decode cX10_saves 9 = .ok (.iconst 0, 1) := by decide +kernel
theorem dX10_saves_10 : decode cX10_saves 10 = .ok (.iaload, 1) := by decide +kernel
theorem dX10_saves_11 : decode cX10_saves 11 = .ok (.iastore, 1) := by decide +kernel
theorem dX10_saves_12 : decode cX10_saves 12 = .ok (.aload_n 0, 1) := by decide +kernel
theorem dX10_saves_13 : decode cX10_saves 13 = .ok (.getfield 28, 3) := by decide +kernel
theorem dX10_saves_16 : decode cX10_saves 16 = .ok (.iconst 1, 1) := by decide +kernel
theorem dX10_saves_17 : decode cX10_saves 17 = .ok (.aload_n 0, 1) := by decide +kernel
theorem dX10_saves_18 : decode cX10_saves 18 = .ok (.getfield 9, 3) := by decide +kernel
theorem dX10_saves_21 : decode cX10_saves 21 = .ok (.iconst 1, 1) := by decide +kernel
theorem dX10_saves_22 : decode cX10_saves 22 = .ok (.iaload, 1) := by decide +kernel
theorem dX10_saves_23 : decode cX10_saves 23 = .ok (.iastore, 1) := by decide +kernel
theorem dX10_saves_24 : decode cX10_saves 24 = .ok (.iconst 0, 1) := by decide +kernel
theorem dX10_saves_25 : decode cX10_saves 25 = .ok (.istore_n 1, 1) := by decide +kernel
theorem dX10_saves_26 : decode cX10_saves 26 = .ok (.iload_n 1, 1) := by decide +kernel
theorem dX10_saves_27 : decode cX10_saves 27 = .ok (.bipush 40, 2) := by decide +kernel
theorem dX10_saves_29 : decode cX10_saves 29 = .ok (.if_icmp .ge 26, 3) := by decide +kernel
theorem dX10_saves_32 : decode cX10_saves 32 = .ok (.aload_n 0, 1) := by decide +kernel
theorem dX10_saves_33 : decode cX10_saves 33 = .ok (.getfield 28, 3) := by decide +kernel
theorem dX10_saves_36 : decode cX10_saves 36 = .ok (.iconst 2, 1) := by decide +kernel
theorem dX10_saves_37 : decode cX10_saves 37 = .ok (.iload_n 1, 1) := by decide +kernel
theorem dX10_saves_38 : decode cX10_saves 38 = .ok (.iadd, 1) := by decide +kernel
theorem dX10_saves_39 : decode cX10_saves 39 = .ok (.aload_n 0, 1) := by decide +kernel
theorem dX10_saves_40 : decode cX10_saves 40 = .ok (.getfield 9, 3) := by decide +kernel
theorem dX10_saves_43 : decode cX10_saves 43 = .ok (.bipush 10, 2) := by decide +kernel
theorem dX10_saves_45 : decode cX10_saves 45 = .ok (.iload_n 1, 1) := by decide +kernel
theorem dX10_saves_46 : decode cX10_saves 46 = .ok (.iadd, 1) := by decide +kernel
theorem dX10_saves_47 : decode cX10_saves 47 = .ok (.iaload, 1) := by decide +kernel
theorem dX10_saves_48 : decode cX10_saves 48 = .ok (.iastore, 1) := by decide +kernel
theorem dX10_saves_49 : decode cX10_saves 49 = .ok (.iinc 1 1, 3) := by decide +kernel
theorem dX10_saves_52 : decode cX10_saves 52 = .ok (.goto (-26), 3) := by decide +kernel
theorem dX10_saves_55 : decode cX10_saves 55 = .ok (.return_, 1) := by decide +kernel
theorem dX10_putsBack_0 : decode cX10_putsBack 0 = .ok (.aload_n 0, 1) := by decide +kernel
theorem dX10_putsBack_1 : decode cX10_putsBack 1 = .ok (.getfield 9, 3) := by decide +kernel
theorem dX10_putsBack_4 : decode cX10_putsBack 4 = .ok (.iconst 0, 1) := by decide +kernel
theorem dX10_putsBack_5 : decode cX10_putsBack 5 = .ok (.aload_n 0, 1) := by decide +kernel
theorem dX10_putsBack_6 : decode cX10_putsBack 6 = .ok (.getfield 28, 3) := by decide +kernel
theorem dX10_putsBack_9 : decode cX10_putsBack 9 = .ok (.iconst 0, 1) := by decide +kernel
theorem dX10_putsBack_10 : decode cX10_putsBack 10 = .ok (.iaload, 1) := by decide +kernel
theorem dX10_putsBack_11 : decode cX10_putsBack 11 = .ok (.iastore, 1) := by decide +kernel
theorem dX10_putsBack_12 : decode cX10_putsBack 12 = .ok (.aload_n 0, 1) := by decide +kernel
theorem dX10_putsBack_13 : decode cX10_putsBack 13 = .ok (.getfield 9, 3) := by decide +kernel
theorem dX10_putsBack_16 : decode cX10_putsBack 16 = .ok (.iconst 1, 1) := by decide +kernel
theorem dX10_putsBack_17 : decode cX10_putsBack 17 = .ok (.aload_n 0, 1) := by decide +kernel
theorem dX10_putsBack_18 : decode cX10_putsBack 18 = .ok (.getfield 28, 3) := by decide +kernel
theorem dX10_putsBack_21 : decode cX10_putsBack 21 = .ok (.iconst 1, 1) := by decide +kernel
theorem dX10_putsBack_22 : decode cX10_putsBack 22 = .ok (.iaload, 1) := by decide +kernel
theorem dX10_putsBack_23 : decode cX10_putsBack 23 = .ok (.iastore, 1) := by decide +kernel
theorem dX10_putsBack_24 : decode cX10_putsBack 24 = .ok (.iconst 0, 1) := by decide +kernel
theorem dX10_putsBack_25 : decode cX10_putsBack 25 = .ok (.istore_n 1, 1) := by decide +kernel
theorem dX10_putsBack_26 : decode cX10_putsBack 26 = .ok (.iload_n 1, 1) := by decide +kernel
theorem dX10_putsBack_27 : decode cX10_putsBack 27 = .ok (.bipush 40, 2) := by decide +kernel
theorem dX10_putsBack_29 : decode cX10_putsBack 29 = .ok (.if_icmp .ge 26, 3) := by decide +kernel
theorem dX10_putsBack_32 : decode cX10_putsBack 32 = .ok (.aload_n 0, 1) := by decide +kernel
theorem dX10_putsBack_33 : decode cX10_putsBack 33 = .ok (.getfield 9, 3) := by decide +kernel
theorem dX10_putsBack_36 : decode cX10_putsBack 36 = .ok (.bipush 10, 2) := by decide +kernel
theorem dX10_putsBack_38 : decode cX10_putsBack 38 = .ok (.iload_n 1, 1) := by decide +kernel
theorem dX10_putsBack_39 : decode cX10_putsBack 39 = .ok (.iadd, 1) := by decide +kernel
theorem dX10_putsBack_40 : decode cX10_putsBack 40 = .ok (.aload_n 0, 1) := by decide +kernel
theorem dX10_putsBack_41 : decode cX10_putsBack 41 = .ok (.getfield 28, 3) := by decide +kernel
theorem dX10_putsBack_44 : decode cX10_putsBack 44 = .ok (.iconst 2, 1) := by decide +kernel
theorem dX10_putsBack_45 : decode cX10_putsBack 45 = .ok (.iload_n 1, 1) := by decide +kernel
theorem dX10_putsBack_46 : decode cX10_putsBack 46 = .ok (.iadd, 1) := by decide +kernel
theorem dX10_putsBack_47 : decode cX10_putsBack 47 = .ok (.iaload, 1) := by decide +kernel
theorem dX10_putsBack_48 : decode cX10_putsBack 48 = .ok (.iastore, 1) := by decide +kernel
theorem dX10_putsBack_49 : decode cX10_putsBack 49 = .ok (.iinc 1 1, 3) := by decide +kernel
theorem dX10_putsBack_52 : decode cX10_putsBack 52 = .ok (.goto (-26), 3) := by decide +kernel
theorem dX10_putsBack_55 : decode cX10_putsBack 55 = .ok (.return_, 1) := by decide +kernel
theorem dX10_then_0 : decode cX10_then 0 = .ok (.iload_n 1, 1) := by decide +kernel
theorem dX10_then_1 : decode cX10_then 1 = .ok (.i2l, 1) := by decide +kernel
theorem dX10_then_2 : decode cX10_then 2 = .ok (.lconst 0, 1) := by decide +kernel
theorem dX10_then_3 : decode cX10_then 3 = .ok (.ldc2_w 211, 3) := by decide +kernel
theorem dX10_then_6 : decode cX10_then 6 = .ok (.invokestatic 53, 3) := by decide +kernel
theorem dX10_then_9 : decode cX10_then 9 = .ok (.ifCond .eq 23, 3) := by decide +kernel
theorem dX10_then_12 : decode cX10_then 12 = .ok (.aload_n 0, 1) := by decide +kernel
theorem dX10_then_13 : decode cX10_then 13 = .ok (.iload_n 2, 1) := by decide +kernel
theorem dX10_then_14 : decode cX10_then 14 = .ok (.invokevirtual 87, 3) := by decide +kernel
theorem dX10_then_17 : decode cX10_then 17 = .ok (.ifCond .eq 15, 3) := by decide +kernel
theorem dX10_then_20 : decode cX10_then 20 = .ok (.iload_n 3, 1) := by decide +kernel
theorem dX10_then_21 : decode cX10_then 21 = .ok (.i2l, 1) := by decide +kernel
theorem dX10_then_22 : decode cX10_then 22 = .ok (.lconst 0, 1) := by decide +kernel
theorem dX10_then_23 : decode cX10_then 23 = .ok (.ldc2_w 122, 3) := by decide +kernel
theorem dX10_then_26 : decode cX10_then 26 = .ok (.invokestatic 53, 3) := by decide +kernel
theorem dX10_then_29 : decode cX10_then 29 = .ok (.ifCond .ne 9, 3) := by decide +kernel
theorem dX10_then_32 : decode cX10_then 32 = .ok (.aload_n 0, 1) := by decide +kernel
theorem dX10_then_33 : decode cX10_then 33 = .ok (.iconst 1, 1) := by decide +kernel
theorem dX10_then_34 : decode cX10_then 34 = .ok (.invokevirtual 79, 3) := by decide +kernel
theorem dX10_then_37 : decode cX10_then 37 = .ok (.ireturn, 1) := by decide +kernel
theorem dX10_then_38 : decode cX10_then 38 = .ok (.aload_n 0, 1) := by decide +kernel
theorem dX10_then_39 : decode cX10_then 39 = .ok (.invokevirtual 226, 3) := by decide +kernel
theorem dX10_then_42 : decode cX10_then 42 = .ok (.iconst 0, 1) := by decide +kernel
theorem dX10_then_43 : decode cX10_then 43 = .ok (.istore 4, 2) := by decide +kernel
theorem dX10_then_45 : decode cX10_then 45 = .ok (.iload 4, 2) := by decide +kernel
theorem dX10_then_47 : decode cX10_then 47 = .ok (.iload_n 1, 1) := by decide +kernel
theorem dX10_then_48 : decode cX10_then 48 = .ok (.if_icmp .ge 13, 3) := by decide +kernel
theorem dX10_then_51 : decode cX10_then 51 = .ok (.aload_n 0, 1) := by decide +kernel
theorem dX10_then_52 : decode cX10_then 52 = .ok (.invokevirtual 216, 3) := by decide +kernel
theorem dX10_then_55 : decode cX10_then 55 = .ok (.iinc 4 1, 3) := by decide +kernel
theorem dX10_then_58 : decode cX10_then 58 = .ok (.goto (-13), 3) := by decide +kernel
theorem dX10_then_61 : decode cX10_then 61 = .ok (.iload_n 3, 1) := by decide +kernel
theorem dX10_then_62 : decode cX10_then 62 = .ok (.iconst 2, 1) := by decide +kernel
theorem dX10_then_63 : decode cX10_then 63 = .ok (.if_icmp .ne 12, 3) := by decide +kernel
theorem dX10_then_66 : decode cX10_then 66 = .ok (.aload_n 0, 1) := by decide +kernel
theorem dX10_then_67 : decode cX10_then 67 = .ok (.getfield 9, 3) := by decide +kernel
theorem dX10_then_70 : decode cX10_then 70 = .ok (.iconst 1, 1) := by decide +kernel
theorem dX10_then_71 : decode cX10_then 71 = .ok (.iaload, 1) := by decide +kernel
theorem dX10_then_72 : decode cX10_then 72 = .ok (.goto 11, 3) := by decide +kernel
theorem dX10_then_75 : decode cX10_then 75 = .ok (.aload_n 0, 1) := by decide +kernel
theorem dX10_then_76 : decode cX10_then 76 = .ok (.iload_n 2, 1) := by decide +kernel
theorem dX10_then_77 : decode cX10_then 77 = .ok (.iconst 2, 1) := by decide +kernel
theorem dX10_then_78 : decode cX10_then 78 = .ok (.iload_n 3, 1) := by decide +kernel
theorem dX10_then_79 : decode cX10_then 79 = .ok (.iadd, 1) := by decide +kernel
theorem dX10_then_80 : decode cX10_then 80 = .ok (.invokevirtual 61, 3) := by decide +kernel
theorem dX10_then_83 : decode cX10_then 83 = .ok (.istore 4, 2) := by decide +kernel
theorem dX10_then_85 : decode cX10_then 85 = .ok (.aload_n 0, 1) := by decide +kernel
theorem dX10_then_86 : decode cX10_then 86 = .ok (.invokevirtual 229, 3) := by decide +kernel
theorem dX10_then_89 : decode cX10_then 89 = .ok (.iload 4, 2) := by decide +kernel
theorem dX10_then_91 : decode cX10_then 91 = .ok (.ireturn, 1) := by decide +kernel
theorem dX10_restOf_0 : decode cX10_restOf 0 = .ok (.aload_n 0, 1) := by decide +kernel
theorem dX10_restOf_1 : decode cX10_restOf 1 = .ok (.iload_n 1, 1) := by decide +kernel
theorem dX10_restOf_2 : decode cX10_restOf 2 = .ok (.iconst 2, 1) := by decide +kernel
theorem dX10_restOf_3 : decode cX10_restOf 3 = .ok (.invokevirtual 61, 3) := by decide +kernel
theorem dX10_restOf_6 : decode cX10_restOf 6 = .ok (.istore_n 2, 1) := by decide +kernel
theorem dX10_restOf_7 : decode cX10_restOf 7 = .ok (.aload_n 0, 1) := by decide +kernel
theorem dX10_restOf_8 : decode cX10_restOf 8 = .ok (.iload_n 1, 1) := by decide +kernel
theorem dX10_restOf_9 : decode cX10_restOf 9 = .ok (.iconst 3, 1) := by decide +kernel
theorem dX10_restOf_10 : decode cX10_restOf 10 = .ok (.invokevirtual 61, 3) := by decide +kernel
theorem dX10_restOf_13 : decode cX10_restOf 13 = .ok (.istore_n 3, 1) := by decide +kernel
theorem dX10_restOf_14 : decode cX10_restOf 14 = .ok (.iconst 0, 1) := by decide +kernel
theorem dX10_restOf_15 : decode cX10_restOf 15 = .ok (.istore 4, 2) := by decide +kernel
theorem dX10_restOf_17 : decode cX10_restOf 17 = .ok (.iload 4, 2) := by decide +kernel
theorem dX10_restOf_19 : decode cX10_restOf 19 = .ok (.sipush 200, 3) := by decide +kernel
theorem dX10_restOf_22 : decode cX10_restOf 22 = .ok (.if_icmp .gt 37, 3) := by decide +kernel
theorem dX10_restOf_25 : decode cX10_restOf 25 = .ok (.aload_n 0, 1) := by decide +kernel
theorem dX10_restOf_26 : decode cX10_restOf 26 = .ok (.iload_n 1, 1) := by decide +kernel
theorem dX10_restOf_27 : decode cX10_restOf 27 = .ok (.invokevirtual 103, 3) := by decide +kernel
theorem dX10_restOf_30 : decode cX10_restOf 30 = .ok (.ifCond .ne 29, 3) := by decide +kernel
theorem dX10_restOf_33 : decode cX10_restOf 33 = .ok (.aload_n 0, 1) := by decide +kernel
theorem dX10_restOf_34 : decode cX10_restOf 34 = .ok (.iload_n 1, 1) := by decide +kernel
theorem dX10_restOf_35 : decode cX10_restOf 35 = .ok (.iconst 2, 1) := by decide +kernel
theorem dX10_restOf_36 : decode cX10_restOf 36 = .ok (.aload_n 0, 1) := by decide +kernel
theorem dX10_restOf_37 : decode cX10_restOf 37 = .ok (.getfield 195, 3) := by decide +kernel
theorem dX10_restOf_40 : decode cX10_restOf 40 = .ok (.invokevirtual 83, 3) := by decide +kernel
theorem dX10_restOf_43 : decode cX10_restOf 43 = .ok (.aload_n 0, 1) := by decide +kernel
theorem dX10_restOf_44 : decode cX10_restOf 44 = .ok (.iload_n 1, 1) := by decide +kernel
theorem dX10_restOf_45 : decode cX10_restOf 45 = .ok (.iconst 3, 1) := by decide +kernel
theorem dX10_restOf_46 : decode cX10_restOf 46 = .ok (.aload_n 0, 1) := by decide +kernel
theorem dX10_restOf_47 : decode cX10_restOf 47 = .ok (.getfield 198, 3) := by decide +kernel
theorem dX10_restOf_50 : decode cX10_restOf 50 = .ok (.invokevirtual 83, 3) := by decide +kernel
theorem dX10_restOf_53 : decode cX10_restOf 53 = .ok (.iinc 4 1, 3) := by decide +kernel
theorem dX10_restOf_56 : decode cX10_restOf 56 = .ok (.goto (-39), 3) := by decide +kernel
theorem dX10_restOf_59 : decode cX10_restOf 59 = .ok (.aload_n 0, 1) := by decide +kernel
theorem dX10_restOf_60 : decode cX10_restOf 60 = .ok (.aload_n 0, 1) := by decide +kernel
theorem dX10_restOf_61 : decode cX10_restOf 61 = .ok (.iload_n 1, 1) := by decide +kernel
theorem dX10_restOf_62 : decode cX10_restOf 62 = .ok (.iconst 2, 1) := by decide +kernel
theorem dX10_restOf_63 : decode cX10_restOf 63 = .ok (.invokevirtual 61, 3) := by decide +kernel
theorem dX10_restOf_66 : decode cX10_restOf 66 = .ok (.putfield 232, 3) := by decide +kernel
theorem dX10_restOf_69 : decode cX10_restOf 69 = .ok (.aload_n 0, 1) := by decide +kernel
theorem dX10_restOf_70 : decode cX10_restOf 70 = .ok (.iload_n 1, 1) := by decide +kernel
theorem dX10_restOf_71 : decode cX10_restOf 71 = .ok (.iconst 2, 1) := by decide +kernel
theorem dX10_restOf_72 : decode cX10_restOf 72 = .ok (.iload_n 2, 1) := by decide +kernel
theorem dX10_restOf_73 : decode cX10_restOf 73 = .ok (.invokevirtual 83, 3) := by decide +kernel
theorem dX10_restOf_76 : decode cX10_restOf 76 = .ok (.aload_n 0, 1) := by decide +kernel
theorem dX10_restOf_77 : decode cX10_restOf 77 = .ok (.iload_n 1, 1) := by decide +kernel
theorem dX10_restOf_78 : decode cX10_restOf 78 = .ok (.iconst 3, 1) := by decide +kernel
theorem dX10_restOf_79 : decode cX10_restOf 79 = .ok (.iload_n 3, 1) := by decide +kernel
theorem dX10_restOf_80 : decode cX10_restOf 80 = .ok (.invokevirtual 83, 3) := by decide +kernel
theorem dX10_restOf_83 : decode cX10_restOf 83 = .ok (.iload 4, 2) := by decide +kernel
theorem dX10_restOf_85 : decode cX10_restOf 85 = .ok (.sipush 200, 3) := by decide +kernel
theorem dX10_restOf_88 : decode cX10_restOf 88 = .ok (.if_icmp .gt 8, 3) := by decide +kernel
theorem dX10_restOf_91 : decode cX10_restOf 91 = .ok (.iload 4, 2) := by decide +kernel
theorem dX10_restOf_93 : decode cX10_restOf 93 = .ok (.goto 4, 3) := by decide +kernel
theorem dX10_restOf_96 : decode cX10_restOf 96 = .ok (.iconst (-1), 1) := by decide +kernel
theorem dX10_restOf_97 : decode cX10_restOf 97 = .ok (.ireturn, 1) := by decide +kernel
theorem dX10_rests_0 : decode cX10_rests 0 = .ok (.aload_n 0, 1) := by decide +kernel
theorem dX10_rests_1 : decode cX10_rests 1 = .ok (.iload_n 1, 1) := by decide +kernel
theorem dX10_rests_2 : decode cX10_rests 2 = .ok (.invokevirtual 87, 3) := by decide +kernel
theorem dX10_rests_5 : decode cX10_rests 5 = .ok (.ifCond .eq 13, 3) := by decide +kernel
theorem dX10_rests_8 : decode cX10_rests 8 = .ok (.iload_n 2, 1) := by decide +kernel
theorem dX10_rests_9 : decode cX10_rests 9 = .ok (.i2l, 1) := by decide +kernel
theorem dX10_rests_10 : decode cX10_rests 10 = .ok (.lconst 0, 1) := by decide +kernel
theorem dX10_rests_11 : decode cX10_rests 11 = .ok (.lconst 1, 1) := by decide +kernel
theorem dX10_rests_12 : decode cX10_rests 12 = .ok (.invokestatic 53, 3) := by decide +kernel
theorem dX10_rests_15 : decode cX10_rests 15 = .ok (.ifCond .ne 9, 3) := by decide +kernel
theorem dX10_rests_18 : decode cX10_rests 18 = .ok (.aload_n 0, 1) := by decide +kernel
theorem dX10_rests_19 : decode cX10_rests 19 = .ok (.iconst 1, 1) := by decide +kernel
theorem dX10_rests_20 : decode cX10_rests 20 = .ok (.invokevirtual 79, 3) := by decide +kernel
theorem dX10_rests_23 : decode cX10_rests 23 = .ok (.ireturn, 1) := by decide +kernel
theorem dX10_rests_24 : decode cX10_rests 24 = .ok (.aload_n 0, 1) := by decide +kernel
theorem dX10_rests_25 : decode cX10_rests 25 = .ok (.iload_n 1, 1) := by decide +kernel
theorem dX10_rests_26 : decode cX10_rests 26 = .ok (.invokevirtual 235, 3) := by decide +kernel
theorem dX10_rests_29 : decode cX10_rests 29 = .ok (.istore_n 3, 1) := by decide +kernel
theorem dX10_rests_30 : decode cX10_rests 30 = .ok (.iload_n 3, 1) := by decide +kernel
theorem dX10_rests_31 : decode cX10_rests 31 = .ok (.ifCond .ge 11, 3) := by decide +kernel
theorem dX10_rests_34 : decode cX10_rests 34 = .ok (.aload_n 0, 1) := by decide +kernel
theorem dX10_rests_35 : decode cX10_rests 35 = .ok (.iconst 2, 1) := by decide +kernel
theorem dX10_rests_36 : decode cX10_rests 36 = .ok (.invokevirtual 79, 3) := by decide +kernel
theorem dX10_rests_39 : decode cX10_rests 39 = .ok (.goto 15, 3) := by decide +kernel
theorem dX10_rests_42 : decode cX10_rests 42 = .ok (.iload_n 2, 1) := by decide +kernel
theorem dX10_rests_43 : decode cX10_rests 43 = .ok (.ifCond .ne 7, 3) := by decide +kernel
theorem dX10_rests_46 : decode cX10_rests 46 = .ok (.iload_n 3, 1) := by decide +kernel
theorem dX10_rests_47 : decode cX10_rests 47 = .ok (.goto 7, 3) := by decide +kernel
theorem dX10_rests_50 : decode cX10_rests 50 = .ok (.aload_n 0, 1) := by decide +kernel
theorem dX10_rests_51 : decode cX10_rests 51 = .ok (.getfield 232, 3) := by decide +kernel
theorem dX10_rests_54 : decode cX10_rests 54 = .ok (.ireturn, 1) := by decide +kernel
theorem dX10_first_0 : decode cX10_first 0 = .ok (.iconst (-1), 1) := by decide +kernel
theorem dX10_first_1 : decode cX10_first 1 = .ok (.istore_n 1, 1) := by decide +kernel
theorem dX10_first_2 : decode cX10_first 2 = .ok (.iconst 0, 1) := by decide +kernel
theorem dX10_first_3 : decode cX10_first 3 = .ok (.istore_n 2, 1) := by decide +kernel
theorem dX10_first_4 : decode cX10_first 4 = .ok (.iconst 0, 1) := by decide +kernel
theorem dX10_first_5 : decode cX10_first 5 = .ok (.istore_n 3, 1) := by decide +kernel
theorem dX10_first_6 : decode cX10_first 6 = .ok (.iload_n 3, 1) := by decide +kernel
theorem dX10_first_7 : decode cX10_first 7 = .ok (.aload_n 0, 1) := by decide +kernel
theorem dX10_first_8 : decode cX10_first 8 = .ok (.getfield 9, 3) := by decide +kernel
theorem dX10_first_11 : decode cX10_first 11 = .ok (.bipush 6, 2) := by decide +kernel
theorem dX10_first_13 : decode cX10_first 13 = .ok (.iaload, 1) := by decide +kernel
theorem dX10_first_14 : decode cX10_first 14 = .ok (.if_icmp .ge 53, 3) := by decide +kernel
theorem dX10_first_17 : decode cX10_first 17 = .ok (.aload_n 0, 1) := by decide +kernel
theorem dX10_first_18 : decode cX10_first 18 = .ok (.iload_n 3, 1) := by decide +kernel
theorem dX10_first_19 : decode cX10_first 19 = .ok (.invokevirtual 235, 3) := by decide +kernel
theorem dX10_first_22 : decode cX10_first 22 = .ok (.istore 4, 2) := by decide +kernel
theorem dX10_first_24 : decode cX10_first 24 = .ok (.iload 4, 2) := by decide +kernel
theorem dX10_first_26 : decode cX10_first 26 = .ok (.ifCond .lt 35, 3) := by decide +kernel
theorem dX10_first_29 : decode cX10_first 29 = .ok (.aload_n 0, 1) := by decide +kernel
theorem dX10_first_30 : decode cX10_first 30 = .ok (.getfield 232, 3) := by decide +kernel
theorem dX10_first_33 : decode cX10_first 33 = .ok (.i2l, 1) := by decide +kernel
theorem dX10_first_34 : decode cX10_first 34 = .ok (.ldc2_w 238, 3) := by decide +kernel
theorem dX10_first_37 : decode cX10_first 37 = .ok (.ldc2_w 124, 3) := by decide +kernel
theorem dX10_first_40 : decode cX10_first 40 = .ok (.invokestatic 53, 3) := by decide +kernel
theorem dX10_first_43 : decode cX10_first 43 = .ok (.ifCond .eq 18, 3) := by decide +kernel
theorem dX10_first_46 : decode cX10_first 46 = .ok (.iload_n 1, 1) := by decide +kernel
theorem dX10_first_47 : decode cX10_first 47 = .ok (.ifCond .lt 9, 3) := by decide +kernel
theorem dX10_first_50 : decode cX10_first 50 = .ok (.iload 4, 2) := by decide +kernel
theorem dX10_first_52 : decode cX10_first 52 = .ok (.iload_n 2, 1) := by decide +kernel
theorem dX10_first_53 : decode cX10_first 53 = .ok (.if_icmp .ge 8, 3) := by decide +kernel
theorem dX10_first_56 : decode cX10_first 56 = .ok (.iload_n 3, 1) := by decide +kernel
theorem dX10_first_57 : decode cX10_first 57 = .ok (.istore_n 1, 1) := by decide +kernel
theorem dX10_first_58 : decode cX10_first 58 = .ok (.iload 4, 2) := by decide +kernel
theorem dX10_first_60 : decode cX10_first 60 = .ok (.istore_n 2, 1) := by decide +kernel
theorem dX10_first_61 : decode cX10_first 61 = .ok (.iinc 3 1, 3) := by decide +kernel
theorem dX10_first_64 : decode cX10_first 64 = .ok (.goto (-58), 3) := by decide +kernel
theorem dX10_first_67 : decode cX10_first 67 = .ok (.iload_n 1, 1) := by decide +kernel
theorem dX10_first_68 : decode cX10_first 68 = .ok (.ifCond .ge 11, 3) := by decide +kernel
theorem dX10_first_71 : decode cX10_first 71 = .ok (.aload_n 0, 1) := by decide +kernel
theorem dX10_first_72 : decode cX10_first 72 = .ok (.iconst 2, 1) := by decide +kernel
theorem dX10_first_73 : decode cX10_first 73 = .ok (.invokevirtual 79, 3) := by decide +kernel
theorem dX10_first_76 : decode cX10_first 76 = .ok (.goto 4, 3) := by decide +kernel
theorem dX10_first_79 : decode cX10_first 79 = .ok (.iload_n 1, 1) := by decide +kernel
theorem dX10_first_80 : decode cX10_first 80 = .ok (.ireturn, 1) := by decide +kernel
theorem dX10_overBy_0 : decode cX10_overBy 0 = .ok (.aload_n 0, 1) := by decide +kernel
theorem dX10_overBy_1 : decode cX10_overBy 1 = .ok (.iload_n 1, 1) := by decide +kernel
theorem dX10_overBy_2 : decode cX10_overBy 2 = .ok (.iconst 2, 1) := by decide +kernel
theorem dX10_overBy_3 : decode cX10_overBy 3 = .ok (.invokevirtual 61, 3) := by decide +kernel
theorem dX10_overBy_6 : decode cX10_overBy 6 = .ok (.istore 4, 2) := by decide +kernel
theorem dX10_overBy_8 : decode cX10_overBy 8 = .ok (.aload_n 0, 1) := by decide +kernel
theorem dX10_overBy_9 : decode cX10_overBy 9 = .ok (.iload_n 1, 1) := by decide +kernel
theorem dX10_overBy_10 : decode cX10_overBy 10 = .ok (.iconst 3, 1) := by decide +kernel
theorem dX10_overBy_11 : decode cX10_overBy 11 = .ok (.invokevirtual 61, 3) := by decide +kernel
theorem dX10_overBy_14 : decode cX10_overBy 14 = .ok (.istore 5, 2) := by decide +kernel
theorem dX10_overBy_16 : decode cX10_overBy 16 = .ok (.aload_n 0, 1) := by decide +kernel
theorem dX10_overBy_17 : decode cX10_overBy 17 = .ok (.iload_n 1, 1) := by decide +kernel
theorem dX10_overBy_18 : decode cX10_overBy 18 = .ok (.iload_n 3, 1) := by decide +kernel
theorem dX10_overBy_19 : decode cX10_overBy 19 = .ok (.invokevirtual 119, 3) := by decide +kernel
theorem dX10_overBy_22 : decode cX10_overBy 22 = .ok (.pop, 1) := by decide +kernel
theorem dX10_overBy_23 : decode cX10_overBy 23 = .ok (.iconst 0, 1) := by decide +kernel
theorem dX10_overBy_24 : decode cX10_overBy 24 = .ok (.istore 6, 2) := by decide +kernel
theorem dX10_overBy_26 : decode cX10_overBy 26 = .ok (.iload 6, 2) := by decide +kernel
theorem dX10_overBy_28 : decode cX10_overBy 28 = .ok (.bipush 100, 2) := by decide +kernel
theorem dX10_overBy_30 : decode cX10_overBy 30 = .ok (.if_icmp .gt 47, 3) := by decide +kernel
theorem dX10_overBy_33 : decode cX10_overBy 33 = .ok (.aload_n 0, 1) := by decide +kernel
theorem dX10_overBy_34 : decode cX10_overBy 34 = .ok (.iload_n 1, 1) := by decide +kernel
theorem dX10_overBy_35 : decode cX10_overBy 35 = .ok (.iconst 2, 1) := by decide +kernel
theorem dX10_overBy_36 : decode cX10_overBy 36 = .ok (.invokevirtual 61, 3) := by decide +kernel
theorem dX10_overBy_39 : decode cX10_overBy 39 = .ok (.bipush 40, 2) := by decide +kernel
theorem dX10_overBy_41 : decode cX10_overBy 41 = .ok (.iload_n 2, 1) := by decide +kernel
theorem dX10_overBy_42 : decode cX10_overBy 42 = .ok (.imul, 1) := by decide +kernel
theorem dX10_overBy_43 : decode cX10_overBy 43 = .ok (.if_icmp .eq 34, 3) := by decide +kernel
theorem dX10_overBy_46 : decode cX10_overBy 46 = .ok (.aload_n 0, 1) := by decide +kernel
theorem dX10_overBy_47 : decode cX10_overBy 47 = .ok (.iload_n 1, 1) := by decide +kernel
theorem dX10_overBy_48 : decode cX10_overBy 48 = .ok (.invokevirtual 201, 3) := by decide +kernel
theorem dX10_overBy_51 : decode cX10_overBy 51 = .ok (.aload_n 0, 1) := by decide +kernel
theorem dX10_overBy_52 : decode cX10_overBy 52 = .ok (.iload_n 1, 1) := by decide +kernel
theorem dX10_overBy_53 : decode cX10_overBy 53 = .ok (.iconst 2, 1) := by decide +kernel
theorem dX10_overBy_54 : decode cX10_overBy 54 = .ok (.aload_n 0, 1) := by decide +kernel
theorem dX10_overBy_55 : decode cX10_overBy 55 = .ok (.getfield 195, 3) := by decide +kernel
theorem dX10_overBy_58 : decode cX10_overBy 58 = .ok (.invokevirtual 83, 3) := by decide +kernel
theorem dX10_overBy_61 : decode cX10_overBy 61 = .ok (.aload_n 0, 1) := by decide +kernel
theorem dX10_overBy_62 : decode cX10_overBy 62 = .ok (.iload_n 1, 1) := by decide +kernel
theorem dX10_overBy_63 : decode cX10_overBy 63 = .ok (.iconst 3, 1) := by decide +kernel
theorem dX10_overBy_64 : decode cX10_overBy 64 = .ok (.aload_n 0, 1) := by decide +kernel
theorem dX10_overBy_65 : decode cX10_overBy 65 = .ok (.getfield 198, 3) := by decide +kernel
theorem dX10_overBy_68 : decode cX10_overBy 68 = .ok (.invokevirtual 83, 3) := by decide +kernel
theorem dX10_overBy_71 : decode cX10_overBy 71 = .ok (.iinc 6 1, 3) := by decide +kernel
theorem dX10_overBy_74 : decode cX10_overBy 74 = .ok (.goto (-48), 3) := by decide +kernel
theorem dX10_overBy_77 : decode cX10_overBy 77 = .ok (.aload_n 0, 1) := by decide +kernel
theorem dX10_overBy_78 : decode cX10_overBy 78 = .ok (.iload_n 1, 1) := by decide +kernel
theorem dX10_overBy_79 : decode cX10_overBy 79 = .ok (.iconst 2, 1) := by decide +kernel
theorem dX10_overBy_80 : decode cX10_overBy 80 = .ok (.iload 4, 2) := by decide +kernel
theorem dX10_overBy_82 : decode cX10_overBy 82 = .ok (.invokevirtual 83, 3) := by decide +kernel
theorem dX10_overBy_85 : decode cX10_overBy 85 = .ok (.aload_n 0, 1) := by decide +kernel
theorem dX10_overBy_86 : decode cX10_overBy 86 = .ok (.iload_n 1, 1) := by decide +kernel
theorem dX10_overBy_87 : decode cX10_overBy 87 = .ok (.iconst 3, 1) := by decide +kernel
theorem dX10_overBy_88 : decode cX10_overBy 88 = .ok (.iload 5, 2) := by decide +kernel
theorem dX10_overBy_90 : decode cX10_overBy 90 = .ok (.invokevirtual 83, 3) := by decide +kernel
theorem dX10_overBy_93 : decode cX10_overBy 93 = .ok (.iload 6, 2) := by decide +kernel
theorem dX10_overBy_95 : decode cX10_overBy 95 = .ok (.bipush 100, 2) := by decide +kernel
theorem dX10_overBy_97 : decode cX10_overBy 97 = .ok (.if_icmp .gt 8, 3) := by decide +kernel
theorem dX10_overBy_100 : decode cX10_overBy 100 = .ok (.iload 6, 2) := by decide +kernel
theorem dX10_overBy_102 : decode cX10_overBy 102 = .ok (.goto 4, 3) := by decide +kernel
theorem dX10_overBy_105 : decode cX10_overBy 105 = .ok (.iconst (-1), 1) := by decide +kernel
theorem dX10_overBy_106 : decode cX10_overBy 106 = .ok (.ireturn, 1) := by decide +kernel
theorem dX10_over_0 : decode cX10_over 0 = .ok (.aload_n 0, 1) := by decide +kernel
theorem dX10_over_1 : decode cX10_over 1 = .ok (.iload_n 1, 1) := by decide +kernel
theorem dX10_over_2 : decode cX10_over 2 = .ok (.invokevirtual 87, 3) := by decide +kernel
theorem dX10_over_5 : decode cX10_over 5 = .ok (.ifCond .eq 17, 3) := by decide +kernel
theorem dX10_over_8 : decode cX10_over 8 = .ok (.iload_n 2, 1) := by decide +kernel
theorem dX10_over_9 : decode cX10_over 9 = .ok (.invokestatic 126, 3) := by decide +kernel
theorem dX10_over_12 : decode cX10_over 12 = .ok (.ifCond .eq 10, 3) := by decide +kernel
theorem dX10_over_15 : decode cX10_over 15 = .ok (.iload_n 3, 1) := by decide +kernel
theorem dX10_over_16 : decode cX10_over 16 = .ok (.invokestatic 116, 3) := by decide +kernel
theorem dX10_over_19 : decode cX10_over 19 = .ok (.ifCond .ne 9, 3) := by decide +kernel
theorem dX10_over_22 : decode cX10_over 22 = .ok (.aload_n 0, 1) := by decide +kernel
theorem dX10_over_23 : decode cX10_over 23 = .ok (.iconst 1, 1) := by decide +kernel
theorem dX10_over_24 : decode cX10_over 24 = .ok (.invokevirtual 79, 3) := by decide +kernel
theorem dX10_over_27 : decode cX10_over 27 = .ok (.ireturn, 1) := by decide +kernel
theorem dX10_over_28 : decode cX10_over 28 = .ok (.aload_n 0, 1) := by decide +kernel
theorem dX10_over_29 : decode cX10_over 29 = .ok (.iload_n 1, 1) := by decide +kernel
theorem dX10_over_30 : decode cX10_over 30 = .ok (.iload_n 2, 1) := by decide +kernel
theorem dX10_over_31 : decode cX10_over 31 = .ok (.iload_n 3, 1) := by decide +kernel
theorem dX10_over_32 : decode cX10_over 32 = .ok (.invokevirtual 240, 3) := by decide +kernel
theorem dX10_over_35 : decode cX10_over 35 = .ok (.istore 4, 2) := by decide +kernel
theorem dX10_over_37 : decode cX10_over 37 = .ok (.iload 4, 2) := by decide +kernel
theorem dX10_over_39 : decode cX10_over 39 = .ok (.ifCond .ge 11, 3) := by decide +kernel
theorem dX10_over_42 : decode cX10_over 42 = .ok (.aload_n 0, 1) := by decide +kernel
theorem dX10_over_43 : decode cX10_over 43 = .ok (.iconst 2, 1) := by decide +kernel
theorem dX10_over_44 : decode cX10_over 44 = .ok (.invokevirtual 79, 3) := by decide +kernel
theorem dX10_over_47 : decode cX10_over 47 = .ok (.goto 5, 3) := by decide +kernel
theorem dX10_over_50 : decode cX10_over 50 = .ok (.iload 4, 2) := by decide +kernel
theorem dX10_over_52 : decode cX10_over 52 = .ok (.ireturn, 1) := by decide +kernel
theorem dX10_pushOf_0 : decode cX10_pushOf 0 = .ok (.iload_n 0, 1) := by decide +kernel
theorem dX10_pushOf_1 : decode cX10_pushOf 1 = .ok (.iconst 2, 1) := by decide +kernel
theorem dX10_pushOf_2 : decode cX10_pushOf 2 = .ok (.irem, 1) := by decide +kernel
theorem dX10_pushOf_3 : decode cX10_pushOf 3 = .ok (.iconst 1, 1) := by decide +kernel
theorem dX10_pushOf_4 : decode cX10_pushOf 4 = .ok (.if_icmp .ne 12, 3) := by decide +kernel
theorem dX10_pushOf_7 : decode cX10_pushOf 7 = .ok (.iload_n 0, 1) := by decide +kernel
theorem dX10_pushOf_8 : decode cX10_pushOf 8 = .ok (.iconst 1, 1) := by decide +kernel
theorem dX10_pushOf_9 : decode cX10_pushOf 9 = .ok (.iadd, 1) := by decide +kernel
theorem dX10_pushOf_10 : decode cX10_pushOf 10 = .ok (.ineg, 1) := by decide +kernel
theorem dX10_pushOf_11 : decode cX10_pushOf 11 = .ok (.iconst 2, 1) := by decide +kernel
theorem dX10_pushOf_12 : decode cX10_pushOf 12 = .ok (.idiv, 1) := by decide +kernel
theorem dX10_pushOf_13 : decode cX10_pushOf 13 = .ok (.goto 6, 3) := by decide +kernel
theorem dX10_pushOf_16 : decode cX10_pushOf 16 = .ok (.iload_n 0, 1) := by decide +kernel
theorem dX10_pushOf_17 : decode cX10_pushOf 17 = .ok (.iconst 2, 1) := by decide +kernel
theorem dX10_pushOf_18 : decode cX10_pushOf 18 = .ok (.idiv, 1) := by decide +kernel
theorem dX10_pushOf_19 : decode cX10_pushOf 19 = .ok (.ireturn, 1) := by decide +kernel
theorem dX10_soonest_0 : decode cX10_soonest 0 = .ok (.aload_n 0, 1) := by decide +kernel
theorem dX10_soonest_1 : decode cX10_soonest 1 = .ok (.iload_n 1, 1) := by decide +kernel
theorem dX10_soonest_2 : decode cX10_soonest 2 = .ok (.invokevirtual 87, 3) := by decide +kernel
theorem dX10_soonest_5 : decode cX10_soonest 5 = .ok (.ifCond .eq 20, 3) := by decide +kernel
theorem dX10_soonest_8 : decode cX10_soonest 8 = .ok (.iload_n 2, 1) := by decide +kernel
theorem dX10_soonest_9 : decode cX10_soonest 9 = .ok (.invokestatic 126, 3) := by decide +kernel
theorem dX10_soonest_12 : decode cX10_soonest 12 = .ok (.ifCond .eq 13, 3) := by decide +kernel
theorem dX10_soonest_15 : decode cX10_soonest 15 = .ok (.iload_n 3, 1) := by decide +kernel
theorem dX10_soonest_16 : decode cX10_soonest 16 = .ok (.i2l, 1) := by decide +kernel
theorem dX10_soonest_17 : decode cX10_soonest 17 = .ok (.lconst 0, 1) := by decide +kernel
theorem dX10_soonest_18 : decode cX10_soonest 18 = .ok (.lconst 1, 1) := by decide +kernel
theorem dX10_soonest_19 : decode cX10_soonest 19 = .ok (.invokestatic 53, 3) := by decide +kernel
theorem dX10_soonest_22 : decode cX10_soonest 22 = .ok (.ifCond .ne 9, 3) := by decide +kernel
theorem dX10_soonest_25 : decode cX10_soonest 25 = .ok (.aload_n 0, 1) := by decide +kernel
theorem dX10_soonest_26 : decode cX10_soonest 26 = .ok (.iconst 1, 1) := by decide +kernel
theorem dX10_soonest_27 : decode cX10_soonest 27 = .ok (.invokevirtual 79, 3) := by decide +kernel
theorem dX10_soonest_30 : decode cX10_soonest 30 = .ok (.ireturn, 1) := by decide +kernel
theorem dX10_soonest_31 : decode cX10_soonest 31 = .ok (.iconst (-1), 1) := by decide +kernel
theorem dX10_soonest_32 : decode cX10_soonest 32 = .ok (.istore 4, 2) := by decide +kernel
theorem dX10_soonest_34 : decode cX10_soonest 34 = .ok (.iconst 0, 1) := by decide +kernel
theorem dX10_soonest_35 : decode cX10_soonest 35 = .ok (.istore 5, 2) := by decide +kernel
theorem dX10_soonest_37 : decode cX10_soonest 37 = .ok (.iconst 0, 1) := by decide +kernel
theorem dX10_soonest_38 : decode cX10_soonest 38 = .ok (.istore 6, 2) := by decide +kernel
theorem dX10_soonest_40 : decode cX10_soonest 40 = .ok (.iload 6, 2) := by decide +kernel
theorem dX10_soonest_42 : decode cX10_soonest 42 = .ok (.bipush 19, 2) := by decide +kernel
theorem dX10_soonest_44 : decode cX10_soonest 44 = .ok (.if_icmp .ge 50, 3) := by decide +kernel
theorem dX10_soonest_47 : decode cX10_soonest 47 = .ok (.aload_n 0, 1) := by decide +kernel
theorem dX10_soonest_48 : decode cX10_soonest 48 = .ok (.iload_n 1, 1) := by decide +kernel
theorem dX10_soonest_49 : decode cX10_soonest 49 = .ok (.iload_n 2, 1) := by decide +kernel
theorem dX10_soonest_50 : decode cX10_soonest 50 = .ok (.iload 6, 2) := by decide +kernel
theorem dX10_soonest_52 : decode cX10_soonest 52 = .ok (.invokestatic 243, 3) := by decide +kernel
theorem dX10_soonest_55 : decode cX10_soonest 55 = .ok (.invokevirtual 240, 3) := by decide +kernel
theorem dX10_soonest_58 : decode cX10_soonest 58 = .ok (.istore 7, 2) := by decide +kernel
theorem dX10_soonest_60 : decode cX10_soonest 60 = .ok (.iload 7, 2) := by decide +kernel
theorem dX10_soonest_62 : decode cX10_soonest 62 = .ok (.ifCond .lt 26, 3) := by decide +kernel
theorem dX10_soonest_65 : decode cX10_soonest 65 = .ok (.iload 4, 2) := by decide +kernel
theorem dX10_soonest_67 : decode cX10_soonest 67 = .ok (.ifCond .lt 10, 3) := by decide +kernel
theorem dX10_soonest_70 : decode cX10_soonest 70 = .ok (.iload 7, 2) := by decide +kernel
theorem dX10_soonest_72 : decode cX10_soonest 72 = .ok (.iload 4, 2) := by decide +kernel
theorem dX10_soonest_74 : decode cX10_soonest 74 = .ok (.if_icmp .ge 14, 3) := by decide +kernel
theorem dX10_soonest_77 : decode cX10_soonest 77 = .ok (.iload 7, 2) := by decide +kernel
theorem dX10_soonest_79 : decode cX10_soonest 79 = .ok (.istore 4, 2) := by decide +kernel
theorem dX10_soonest_81 : decode cX10_soonest 81 = .ok (.iload 6, 2) := by decide +kernel
theorem dX10_soonest_83 : decode cX10_soonest 83 = .ok (.invokestatic 243, 3) := by decide +kernel
theorem dX10_soonest_86 : decode cX10_soonest 86 = .ok (.istore 5, 2) := by decide +kernel
theorem dX10_soonest_88 : decode cX10_soonest 88 = .ok (.iinc 6 1, 3) := by decide +kernel
theorem dX10_soonest_91 : decode cX10_soonest 91 = .ok (.goto (-51), 3) := by decide +kernel
theorem dX10_soonest_94 : decode cX10_soonest 94 = .ok (.iload 4, 2) := by decide +kernel
theorem dX10_soonest_96 : decode cX10_soonest 96 = .ok (.ifCond .ge 11, 3) := by decide +kernel
theorem dX10_soonest_99 : decode cX10_soonest 99 = .ok (.aload_n 0, 1) := by decide +kernel
theorem dX10_soonest_100 : decode cX10_soonest 100 = .ok (.iconst 2, 1) := by decide +kernel
theorem dX10_soonest_101 : decode cX10_soonest 101 = .ok (.invokevirtual 79, 3) := by decide +kernel
theorem dX10_soonest_104 : decode cX10_soonest 104 = .ok (.goto 14, 3) := by decide +kernel
theorem dX10_soonest_107 : decode cX10_soonest 107 = .ok (.iload_n 3, 1) := by decide +kernel
theorem dX10_soonest_108 : decode cX10_soonest 108 = .ok (.ifCond .ne 8, 3) := by decide +kernel
theorem dX10_soonest_111 : decode cX10_soonest 111 = .ok (.iload 5, 2) := by decide +kernel
theorem dX10_soonest_113 : decode cX10_soonest 113 = .ok (.goto 5, 3) := by decide +kernel
theorem dX10_soonest_116 : decode cX10_soonest 116 = .ok (.iload 4, 2) := by decide +kernel
theorem dX10_soonest_118 : decode cX10_soonest 118 = .ok (.ireturn, 1) := by decide +kernel
theorem dX10_least_0 : decode cX10_least 0 = .ok (.aload_n 0, 1) := by decide +kernel
theorem dX10_least_1 : decode cX10_least 1 = .ok (.iload_n 1, 1) := by decide +kernel
theorem dX10_least_2 : decode cX10_least 2 = .ok (.invokevirtual 87, 3) := by decide +kernel
theorem dX10_least_5 : decode cX10_least 5 = .ok (.ifCond .eq 10, 3) := by decide +kernel
theorem dX10_least_8 : decode cX10_least 8 = .ok (.iload_n 2, 1) := by decide +kernel
theorem dX10_least_9 : decode cX10_least 9 = .ok (.invokestatic 126, 3) := by decide +kernel
theorem dX10_least_12 : decode cX10_least 12 = .ok (.ifCond .ne 9, 3) := by decide +kernel
theorem dX10_least_15 : decode cX10_least 15 = .ok (.aload_n 0, 1) := by decide +kernel
theorem dX10_least_16 : decode cX10_least 16 = .ok (.iconst 1, 1) := by decide +kernel
theorem dX10_least_17 : decode cX10_least 17 = .ok (.invokevirtual 79, 3) := by decide +kernel
theorem dX10_least_20 : decode cX10_least 20 = .ok (.ireturn, 1) := by decide +kernel
theorem dX10_least_21 : decode cX10_least 21 = .ok (.iconst 0, 1) := by decide +kernel
theorem dX10_least_22 : decode cX10_least 22 = .ok (.istore_n 3, 1) := by decide +kernel
theorem dX10_least_23 : decode cX10_least 23 = .ok (.iload_n 3, 1) := by decide +kernel
theorem dX10_least_24 : decode cX10_least 24 = .ok (.bipush 19, 2) := by decide +kernel
theorem dX10_least_26 : decode cX10_least 26 = .ok (.if_icmp .ge 27, 3) := by decide +kernel
theorem dX10_least_29 : decode cX10_least 29 = .ok (.aload_n 0, 1) := by decide +kernel
theorem dX10_least_30 : decode cX10_least 30 = .ok (.iload_n 1, 1) := by decide +kernel
theorem dX10_least_31 : decode cX10_least 31 = .ok (.iload_n 2, 1) := by decide +kernel
theorem dX10_least_32 : decode cX10_least 32 = .ok (.iload_n 3, 1) := by decide +kernel
theorem dX10_least_33 : decode cX10_least 33 = .ok (.invokestatic 243, 3) := by decide +kernel
theorem dX10_least_36 : decode cX10_least 36 = .ok (.invokevirtual 240, 3) := by decide +kernel
theorem dX10_least_39 : decode cX10_least 39 = .ok (.ifCond .lt 8, 3) := by decide +kernel
theorem dX10_least_42 : decode cX10_least 42 = .ok (.iload_n 3, 1) := by decide +kernel
theorem dX10_least_43 : decode cX10_least 43 = .ok (.invokestatic 243, 3) := by decide +kernel
theorem dX10_least_46 : decode cX10_least 46 = .ok (.ireturn, 1) := by decide +kernel
theorem dX10_least_47 : decode cX10_least 47 = .ok (.iinc 3 1, 3) := by decide +kernel
theorem dX10_least_50 : decode cX10_least 50 = .ok (.goto (-27), 3) := by decide +kernel
theorem dX10_least_53 : decode cX10_least 53 = .ok (.aload_n 0, 1) := by decide +kernel
theorem dX10_least_54 : decode cX10_least 54 = .ok (.iconst 2, 1) := by decide +kernel
theorem dX10_least_55 : decode cX10_least 55 = .ok (.invokevirtual 79, 3) := by decide +kernel
theorem dX10_least_58 : decode cX10_least 58 = .ok (.ireturn, 1) := by decide +kernel
theorem dX10_pairs_0 : decode cX10_pairs 0 = .ok (.iload_n 1, 1) := by decide +kernel
theorem dX10_pairs_1 : decode cX10_pairs 1 = .ok (.aload_n 0, 1) := by decide +kernel
theorem dX10_pairs_2 : decode cX10_pairs 2 = .ok (.getfield 9, 3) := by decide +kernel
theorem dX10_pairs_5 : decode cX10_pairs 5 = .ok (.bipush 6, 2) := by decide +kernel
theorem dX10_pairs_7 : decode cX10_pairs 7 = .ok (.iaload, 1) := by decide +kernel
theorem dX10_pairs_8 : decode cX10_pairs 8 = .ok (.if_icmp .ne 70, 3) := by decide +kernel
theorem dX10_pairs_11 : decode cX10_pairs 11 = .ok (.iload_n 3, 1) := by decide +kernel
theorem dX10_pairs_12 : decode cX10_pairs 12 = .ok (.aload_n 0, 1) := by decide +kernel
theorem dX10_pairs_13 : decode cX10_pairs 13 = .ok (.getfield 246, 3) := by decide +kernel
theorem dX10_pairs_16 : decode cX10_pairs 16 = .ok (.if_icmp .gt 20, 3) := by decide +kernel
theorem dX10_pairs_19 : decode cX10_pairs 19 = .ok (.iload_n 3, 1) := by decide +kernel
theorem dX10_pairs_20 : decode cX10_pairs 20 = .ok (.aload_n 0, 1) := by decide +kernel
theorem dX10_pairs_21 : decode cX10_pairs 21 = .ok (.getfield 246, 3) := by decide +kernel
theorem dX10_pairs_24 : decode cX10_pairs 24 = .ok (.if_icmp .ne 53, 3) := by decide +kernel
theorem dX10_pairs_27 : decode cX10_pairs 27 = .ok (.iload 4, 2) := by decide +kernel
theorem dX10_pairs_29 : decode cX10_pairs 29 = .ok (.aload_n 0, 1) := by decide +kernel
theorem dX10_pairs_30 : decode cX10_pairs 30 = .ok (.getfield 249, 3) := by decide +kernel
theorem dX10_pairs_33 : decode cX10_pairs 33 = .ok (.if_icmp .ge 44, 3) := by decide +kernel
theorem dX10_pairs_36 : decode cX10_pairs 36 = .ok (.aload_n 0, 1) := by decide +kernel
theorem dX10_pairs_37 : decode cX10_pairs 37 = .ok (.iload_n 3, 1) := by decide +kernel
theorem dX10_pairs_38 : decode cX10_pairs 38 = .ok (.putfield 246, 3) := by decide +kernel
theorem dX10_pairs_41 : decode cX10_pairs 41 = .ok (.aload_n 0, 1) := by decide +kernel
theorem dX10_pairs_42 : decode cX10_pairs 42 = .ok (.iload 4, 2) := by decide +kernel
theorem dX10_pairs_44 : decode cX10_pairs 44 = .ok (.putfield 249, 3) := by decide +kernel
theorem dX10_pairs_47 : decode cX10_pairs 47 = .ok (.iconst 0, 1) := by decide +kernel
theorem dX10_pairs_48 : decode cX10_pairs 48 = .ok (.istore 5, 2) := by decide +kernel
theorem dX10_pairs_50 : decode cX10_pairs 50 = .ok (.iload 5, 2) := by decide +kernel
theorem dX10_pairs_52 : decode cX10_pairs 52 = .ok (.bipush 8, 2) := by decide +kernel
theorem dX10_pairs_54 : decode cX10_pairs 54 = .ok (.if_icmp .ge 23, 3) := by decide +kernel
theorem dX10_pairs_57 : decode cX10_pairs 57 = .ok (.aload_n 0, 1) := by decide +kernel
theorem dX10_pairs_58 : decode cX10_pairs 58 = .ok (.getfield 34, 3) := by decide +kernel
theorem dX10_pairs_61 : decode cX10_pairs 61 = .ok (.iload 5, 2) := by decide +kernel
theorem dX10_pairs_63 : decode cX10_pairs 63 = .ok (.aload_n 0, 1) := by decide +kernel
theorem dX10_pairs_64 : decode cX10_pairs 64 = .ok (.getfield 31, 3) := by decide +kernel
theorem dX10_pairs_67 : decode cX10_pairs 67 = .ok (.iload 5, 2) := by decide +kernel
theorem dX10_pairs_69 : decode cX10_pairs 69 = .ok (.iaload, 1) := by decide +kernel
theorem dX10_pairs_70 : decode cX10_pairs 70 = .ok (.iastore, 1) := by decide +kernel
theorem dX10_pairs_71 : decode cX10_pairs 71 = .ok (.iinc 5 1, 3) := by decide +kernel
theorem dX10_pairs_74 : decode cX10_pairs 74 = .ok (.goto (-24), 3) := by decide +kernel
theorem dX10_pairs_77 : decode cX10_pairs 77 = .ok (.return_, 1) := by decide +kernel
theorem dX10_pairs_78 : decode cX10_pairs 78 = .ok (.aload_n 0, 1) := by decide +kernel
theorem dX10_pairs_79 : decode cX10_pairs 79 = .ok (.getfield 31, 3) := by decide +kernel
theorem dX10_pairs_82 : decode cX10_pairs 82 = .ok (.iload_n 1, 1) := by decide +kernel
theorem dX10_pairs_83 : decode cX10_pairs 83 = .ok (.iconst (-1), 1) := by decide +kernel
theorem dX10_pairs_84 : decode cX10_pairs 84 = .ok (.iastore, 1) := by decide +kernel
theorem dX10_pairs_85 : decode cX10_pairs 85 = .ok (.iconst 0, 1) := by decide +kernel
theorem dX10_pairs_86 : decode cX10_pairs 86 = .ok (.istore 5, 2) := by decide +kernel
theorem dX10_pairs_88 : decode cX10_pairs 88 = .ok (.iload 5, 2) := by decide +kernel
theorem dX10_pairs_90 : decode cX10_pairs 90 = .ok (.aload_n 0, 1) := by decide +kernel
theorem dX10_pairs_91 : decode cX10_pairs 91 = .ok (.getfield 9, 3) := by decide +kernel
theorem dX10_pairs_94 : decode cX10_pairs 94 = .ok (.bipush 6, 2) := by decide +kernel
theorem dX10_pairs_96 : decode cX10_pairs 96 = .ok (.iaload, 1) := by decide +kernel
theorem dX10_pairs_97 : decode cX10_pairs 97 = .ok (.if_icmp .ge 81, 3) := by decide +kernel
theorem dX10_pairs_100 : decode cX10_pairs 100 = .ok (.aload_n 0, 1) := by decide +kernel
theorem dX10_pairs_101 : decode cX10_pairs 101 = .ok (.iload_n 1, 1) := by decide +kernel
theorem dX10_pairs_102 : decode cX10_pairs 102 = .ok (.iconst 2, 1) := by decide +kernel
theorem dX10_pairs_103 : decode cX10_pairs 103 = .ok (.invokevirtual 61, 3) := by decide +kernel
theorem dX10_pairs_106 : decode cX10_pairs 106 = .ok (.ifCond .ne 72, 3) := by decide +kernel
theorem dX10_pairs_109 : decode cX10_pairs 109 = .ok (.aload_n 0, 1) := by decide +kernel
theorem dX10_pairs_110 : decode cX10_pairs 110 = .ok (.iload 5, 2) := by decide +kernel
theorem dX10_pairs_112 : decode cX10_pairs 112 = .ok (.iconst 2, 1) := by decide +kernel
theorem dX10_pairs_113 : decode cX10_pairs 113 = .ok (.invokevirtual 61, 3) := by decide +kernel
theorem dX10_pairs_116 : decode cX10_pairs 116 = .ok (.bipush 40, 2) := by decide +kernel
theorem dX10_pairs_118 : decode cX10_pairs 118 = .ok (.if_icmp .ne 54, 3) := by decide +kernel
theorem dX10_pairs_121 : decode cX10_pairs 121 = .ok (.iload_n 2, 1) := by decide +kernel
theorem dX10_pairs_122 : decode cX10_pairs 122 = .ok (.iload 5, 2) := by decide +kernel
theorem dX10_pairs_124 : decode cX10_pairs 124 = .ok (.ishr, 1) := by decide +kernel
theorem dX10_pairs_125 : decode cX10_pairs 125 = .ok (.iconst 1, 1) := by decide +kernel
theorem dX10_pairs_126 : decode cX10_pairs 126 = .ok (.iand, 1) := by decide +kernel
theorem dX10_pairs_127 : decode cX10_pairs 127 = .ok (.ifCond .ne 45, 3) := by decide +kernel
theorem dX10_pairs_130 : decode cX10_pairs 130 = .ok (.aload_n 0, 1) := by decide +kernel
theorem dX10_pairs_131 : decode cX10_pairs 131 = .ok (.getfield 31, 3) := by decide +kernel
theorem dX10_pairs_134 : decode cX10_pairs 134 = .ok (.iload_n 1, 1) := by decide +kernel
theorem dX10_pairs_135 : decode cX10_pairs 135 = .ok (.iload 5, 2) := by decide +kernel
theorem dX10_pairs_137 : decode cX10_pairs 137 = .ok (.iastore, 1) := by decide +kernel
theorem dX10_pairs_138 : decode cX10_pairs 138 = .ok (.aload_n 0, 1) := by decide +kernel
theorem dX10_pairs_139 : decode cX10_pairs 139 = .ok (.iload_n 1, 1) := by decide +kernel
theorem dX10_pairs_140 : decode cX10_pairs 140 = .ok (.iconst 1, 1) := by decide +kernel
theorem dX10_pairs_141 : decode cX10_pairs 141 = .ok (.iadd, 1) := by decide +kernel
theorem dX10_pairs_142 : decode cX10_pairs 142 = .ok (.iload_n 2, 1) := by decide +kernel
theorem dX10_pairs_143 : decode cX10_pairs 143 = .ok (.iconst 1, 1) := by decide +kernel
theorem dX10_pairs_144 : decode cX10_pairs 144 = .ok (.iload 5, 2) := by decide +kernel
theorem dX10_pairs_146 : decode cX10_pairs 146 = .ok (.ishl, 1) := by decide +kernel
theorem dX10_pairs_147 : decode cX10_pairs 147 = .ok (.ior, 1) := by decide +kernel
theorem dX10_pairs_148 : decode cX10_pairs 148 = .ok (.iload_n 3, 1) := by decide +kernel
theorem dX10_pairs_149 : decode cX10_pairs 149 = .ok (.iconst 1, 1) := by decide +kernel
theorem dX10_pairs_150 : decode cX10_pairs 150 = .ok (.iadd, 1) := by decide +kernel
theorem dX10_pairs_151 : decode cX10_pairs 151 = .ok (.iload 4, 2) := by decide +kernel
theorem dX10_pairs_153 : decode cX10_pairs 153 = .ok (.aload_n 0, 1) := by decide +kernel
theorem dX10_pairs_154 : decode cX10_pairs 154 = .ok (.iload_n 1, 1) := by decide +kernel
theorem dX10_pairs_155 : decode cX10_pairs 155 = .ok (.invokevirtual 91, 3) := by decide +kernel
theorem dX10_pairs_158 : decode cX10_pairs 158 = .ok (.aload_n 0, 1) := by decide +kernel
theorem dX10_pairs_159 : decode cX10_pairs 159 = .ok (.iload 5, 2) := by decide +kernel
theorem dX10_pairs_161 : decode cX10_pairs 161 = .ok (.invokevirtual 91, 3) := by decide +kernel
theorem dX10_pairs_164 : decode cX10_pairs 164 = .ok (.isub, 1) := by decide +kernel
theorem dX10_pairs_165 : decode cX10_pairs 165 = .ok (.invokestatic 252, 3) := by decide +kernel
theorem dX10_pairs_168 : decode cX10_pairs 168 = .ok (.iadd, 1) := by decide +kernel
theorem dX10_pairs_169 : decode cX10_pairs 169 = .ok (.invokevirtual 255, 3) := by decide +kernel
theorem dX10_pairs_172 : decode cX10_pairs 172 = .ok (.iinc 5 1, 3) := by decide +kernel
theorem dX10_pairs_175 : decode cX10_pairs 175 = .ok (.goto (-87), 3) := by decide +kernel
theorem dX10_pairs_178 : decode cX10_pairs 178 = .ok (.aload_n 0, 1) := by decide +kernel
theorem dX10_pairs_179 : decode cX10_pairs 179 = .ok (.getfield 31, 3) := by decide +kernel
theorem dX10_pairs_182 : decode cX10_pairs 182 = .ok (.iload_n 1, 1) := by decide +kernel
theorem dX10_pairs_183 : decode cX10_pairs 183 = .ok (.iconst (-1), 1) := by decide +kernel
theorem dX10_pairs_184 : decode cX10_pairs 184 = .ok (.iastore, 1) := by decide +kernel
theorem dX10_pairs_185 : decode cX10_pairs 185 = .ok (.aload_n 0, 1) := by decide +kernel
theorem dX10_pairs_186 : decode cX10_pairs 186 = .ok (.iload_n 1, 1) := by decide +kernel
theorem dX10_pairs_187 : decode cX10_pairs 187 = .ok (.iconst 1, 1) := by decide +kernel
theorem dX10_pairs_188 : decode cX10_pairs 188 = .ok (.iadd, 1) := by decide +kernel
theorem dX10_pairs_189 : decode cX10_pairs 189 = .ok (.iload_n 2, 1) := by decide +kernel
theorem dX10_pairs_190 : decode cX10_pairs 190 = .ok (.iload_n 3, 1) := by decide +kernel
theorem dX10_pairs_191 : decode cX10_pairs 191 = .ok (.iload 4, 2) := by decide +kernel
theorem dX10_pairs_193 : decode cX10_pairs 193 = .ok (.invokevirtual 255, 3) := by decide +kernel
theorem dX10_pairs_196 : decode cX10_pairs 196 = .ok (.return_, 1) := by decide +kernel
theorem dX10_mateOf_0 : decode cX10_mateOf 0 = .ok (.iconst 0, 1) := by decide +kernel
theorem dX10_mateOf_1 : decode cX10_mateOf 1 = .ok (.istore_n 2, 1) := by decide +kernel
theorem dX10_mateOf_2 : decode cX10_mateOf 2 = .ok (.iload_n 2, 1) := by decide +kernel
theorem dX10_mateOf_3 : decode cX10_mateOf 3 = .ok (.aload_n 0, 1) := by decide +kernel
theorem dX10_mateOf_4 : decode cX10_mateOf 4 = .ok (.getfield 9, 3) := by decide +kernel
theorem dX10_mateOf_7 : decode cX10_mateOf 7 = .ok (.bipush 6, 2) := by decide +kernel
theorem dX10_mateOf_9 : decode cX10_mateOf 9 = .ok (.iaload, 1) := by decide +kernel
theorem dX10_mateOf_10 : decode cX10_mateOf 10 = .ok (.if_icmp .ge 21, 3) := by decide +kernel
theorem dX10_mateOf_13 : decode cX10_mateOf 13 = .ok (.aload_n 0, 1) := by decide +kernel
theorem dX10_mateOf_14 : decode cX10_mateOf 14 = .ok (.getfield 34, 3) := by decide +kernel
theorem dX10_mateOf_17 : decode cX10_mateOf 17 = .ok (.iload_n 2, 1) := by decide +kernel
theorem dX10_mateOf_18 : decode cX10_mateOf 18 = .ok (.iaload, 1) := by decide +kernel
theorem dX10_mateOf_19 : decode cX10_mateOf 19 = .ok (.iload_n 1, 1) := by decide +kernel
theorem dX10_mateOf_20 : decode cX10_mateOf 20 = .ok (.if_icmp .ne 5, 3) := by decide +kernel
theorem dX10_mateOf_23 : decode cX10_mateOf 23 = .ok (.iload_n 2, 1) := by decide +kernel
theorem dX10_mateOf_24 : decode cX10_mateOf 24 = .ok (.ireturn, 1) := by decide +kernel
theorem dX10_mateOf_25 : decode cX10_mateOf 25 = .ok (.iinc 2 1, 3) := by decide +kernel
theorem dX10_mateOf_28 : decode cX10_mateOf 28 = .ok (.goto (-26), 3) := by decide +kernel
theorem dX10_mateOf_31 : decode cX10_mateOf 31 = .ok (.aload_n 0, 1) := by decide +kernel
theorem dX10_mateOf_32 : decode cX10_mateOf 32 = .ok (.getfield 34, 3) := by decide +kernel
theorem dX10_mateOf_35 : decode cX10_mateOf 35 = .ok (.iload_n 1, 1) := by decide +kernel
theorem dX10_mateOf_36 : decode cX10_mateOf 36 = .ok (.iaload, 1) := by decide +kernel
theorem dX10_mateOf_37 : decode cX10_mateOf 37 = .ok (.ireturn, 1) := by decide +kernel
theorem dX10_lifts_0 : decode cX10_lifts 0 = .ok (.iload_n 1, 1) := by decide +kernel
theorem dX10_lifts_1 : decode cX10_lifts 1 = .ok (.i2l, 1) := by decide +kernel
theorem dX10_lifts_2 : decode cX10_lifts 2 = .ok (.ldc2_w 259, 3) := by decide +kernel
theorem dX10_lifts_5 : decode cX10_lifts 5 = .ok (.aload_n 0, 1) := by decide +kernel
theorem dX10_lifts_6 : decode cX10_lifts 6 = .ok (.getfield 9, 3) := by decide +kernel
theorem dX10_lifts_9 : decode cX10_lifts 9 = .ok (.bipush 6, 2) := by decide +kernel
theorem dX10_lifts_11 : decode cX10_lifts 11 = .ok (.iaload, 1) := by decide +kernel
theorem dX10_lifts_12 : decode cX10_lifts 12 = .ok (.iconst 1, 1) := by decide +kernel
theorem dX10_lifts_13 : decode cX10_lifts 13 = .ok (.isub, 1) := by decide +kernel
theorem dX10_lifts_14 : decode cX10_lifts 14 = .ok (.i2l, 1) := by decide +kernel
theorem dX10_lifts_15 : decode cX10_lifts 15 = .ok (.invokestatic 53, 3) := by decide +kernel
theorem dX10_lifts_18 : decode cX10_lifts 18 = .ok (.ifCond .ne 9, 3) := by decide +kernel
theorem dX10_lifts_21 : decode cX10_lifts 21 = .ok (.aload_n 0, 1) := by decide +kernel
theorem dX10_lifts_22 : decode cX10_lifts 22 = .ok (.iconst 1, 1) := by decide +kernel
theorem dX10_lifts_23 : decode cX10_lifts 23 = .ok (.invokevirtual 79, 3) := by decide +kernel
theorem dX10_lifts_26 : decode cX10_lifts 26 = .ok (.ireturn, 1) := by decide +kernel
theorem dX10_lifts_27 : decode cX10_lifts 27 = .ok (.aload_n 0, 1) := by decide +kernel
theorem dX10_lifts_28 : decode cX10_lifts 28 = .ok (.iconst (-1), 1) := by decide +kernel
theorem dX10_lifts_29 : decode cX10_lifts 29 = .ok (.putfield 246, 3) := by decide +kernel
theorem dX10_lifts_32 : decode cX10_lifts 32 = .ok (.aload_n 0, 1) := by decide +kernel
theorem dX10_lifts_33 : decode cX10_lifts 33 = .ok (.iconst 0, 1) := by decide +kernel
theorem dX10_lifts_34 : decode cX10_lifts 34 = .ok (.putfield 249, 3) := by decide +kernel
theorem dX10_lifts_37 : decode cX10_lifts 37 = .ok (.aload_n 0, 1) := by decide +kernel
theorem dX10_lifts_38 : decode cX10_lifts 38 = .ok (.iconst 0, 1) := by decide +kernel
theorem dX10_lifts_39 : decode cX10_lifts 39 = .ok (.iconst 0, 1) := by decide +kernel
theorem dX10_lifts_40 : decode cX10_lifts 40 = .ok (.iconst 0, 1) := by decide +kernel
theorem dX10_lifts_41 : decode cX10_lifts 41 = .ok (.iconst 0, 1) := by decide +kernel
theorem dX10_lifts_42 : decode cX10_lifts 42 = .ok (.invokevirtual 255, 3) := by decide +kernel
theorem dX10_lifts_45 : decode cX10_lifts 45 = .ok (.iload_n 1, 1) := by decide +kernel
theorem dX10_lifts_46 : decode cX10_lifts 46 = .ok (.bipush (-2), 2) := by decide +kernel
theorem dX10_lifts_48 : decode cX10_lifts 48 = .ok (.if_icmp .ne 10, 3) := by decide +kernel
theorem dX10_lifts_51 : decode cX10_lifts 51 = .ok (.aload_n 0, 1) := by decide +kernel
theorem dX10_lifts_52 : decode cX10_lifts 52 = .ok (.getfield 246, 3) := by decide +kernel
theorem dX10_lifts_55 : decode cX10_lifts 55 = .ok (.goto 20, 3) := by decide +kernel
theorem dX10_lifts_58 : decode cX10_lifts 58 = .ok (.iload_n 1, 1) := by decide +kernel
theorem dX10_lifts_59 : decode cX10_lifts 59 = .ok (.iconst (-1), 1) := by decide +kernel
theorem dX10_lifts_60 : decode cX10_lifts 60 = .ok (.if_icmp .ne 10, 3) := by decide +kernel
theorem dX10_lifts_63 : decode cX10_lifts 63 = .ok (.aload_n 0, 1) := by decide +kernel
theorem dX10_lifts_64 : decode cX10_lifts 64 = .ok (.getfield 249, 3) := by decide +kernel
theorem dX10_lifts_67 : decode cX10_lifts 67 = .ok (.goto 8, 3) := by decide +kernel
theorem dX10_lifts_70 : decode cX10_lifts 70 = .ok (.aload_n 0, 1) := by decide +kernel
theorem dX10_lifts_71 : decode cX10_lifts 71 = .ok (.iload_n 1, 1) := by decide +kernel
theorem dX10_lifts_72 : decode cX10_lifts 72 = .ok (.invokevirtual 261, 3) := by decide +kernel
theorem dX10_lifts_75 : decode cX10_lifts 75 = .ok (.ireturn, 1) := by decide +kernel
theorem dX10_isSheet_0 : decode cX10_isSheet 0 = .ok (.iload_n 0, 1) := by decide +kernel
theorem dX10_isSheet_1 : decode cX10_isSheet 1 = .ok (.i2l, 1) := by decide +kernel
theorem dX10_isSheet_2 : decode cX10_isSheet 2 = .ok (.lconst 0, 1) := by decide +kernel
theorem dX10_isSheet_3 : decode cX10_isSheet 3 = .ok (.ldc2_w 264, 3) := by decide +kernel
theorem dX10_isSheet_6 : decode cX10_isSheet 6 = .ok (.invokestatic 53, 3) := by decide +kernel
theorem dX10_isSheet_9 : decode cX10_isSheet 9 = .ok (.ireturn, 1) := by decide +kernel
theorem dX10_goesSo_0 : decode cX10_goesSo 0 = .ok (.aload_n 0, 1) := by decide +kernel
theorem dX10_goesSo_1 : decode cX10_goesSo 1 = .ok (.iload_n 1, 1) := by decide +kernel
theorem dX10_goesSo_2 : decode cX10_goesSo 2 = .ok (.iconst 2, 1) := by decide +kernel
theorem dX10_goesSo_3 : decode cX10_goesSo 3 = .ok (.invokevirtual 61, 3) := by decide +kernel
theorem dX10_goesSo_6 : decode cX10_goesSo 6 = .ok (.istore_n 3, 1) := by decide +kernel
theorem dX10_goesSo_7 : decode cX10_goesSo 7 = .ok (.aload_n 0, 1) := by decide +kernel
theorem dX10_goesSo_8 : decode cX10_goesSo 8 = .ok (.iload_n 1, 1) := by decide +kernel
theorem dX10_goesSo_9 : decode cX10_goesSo 9 = .ok (.iconst 3, 1) := by decide +kernel
theorem dX10_goesSo_10 : decode cX10_goesSo 10 = .ok (.invokevirtual 61, 3) := by decide +kernel
theorem dX10_goesSo_13 : decode cX10_goesSo 13 = .ok (.istore 4, 2) := by decide +kernel
theorem dX10_goesSo_15 : decode cX10_goesSo 15 = .ok (.iconst 1, 1) := by decide +kernel
theorem dX10_goesSo_16 : decode cX10_goesSo 16 = .ok (.istore 5, 2) := by decide +kernel
theorem dX10_goesSo_18 : decode cX10_goesSo 18 = .ok (.iconst 0, 1) := by decide +kernel
theorem dX10_goesSo_19 : decode cX10_goesSo 19 = .ok (.istore 6, 2) := by decide +kernel
theorem dX10_goesSo_21 : decode cX10_goesSo 21 = .ok (.iload 6, 2) := by decide +kernel
theorem dX10_goesSo_23 : decode cX10_goesSo 23 = .ok (.aload_n 0, 1) := by decide +kernel
theorem dX10_goesSo_24 : decode cX10_goesSo 24 = .ok (.getfield 40, 3) := by decide +kernel
theorem dX10_goesSo_27 : decode cX10_goesSo 27 = .ok (.iload_n 2, 1) := by decide +kernel
theorem dX10_goesSo_28 : decode cX10_goesSo 28 = .ok (.iaload, 1) := by decide +kernel
theorem dX10_goesSo_29 : decode cX10_goesSo 29 = .ok (.if_icmp .ge 65, 3) := by decide +kernel
theorem dX10_goesSo_32 : decode cX10_goesSo 32 = .ok (.iload 5, 2) := by decide +kernel
theorem dX10_goesSo_34 : decode cX10_goesSo 34 = .ok (.ifCond .eq 60, 3) := by decide +kernel
theorem dX10_goesSo_37 : decode cX10_goesSo 37 = .ok (.aload_n 0, 1) := by decide +kernel
theorem dX10_goesSo_38 : decode cX10_goesSo 38 = .ok (.iload_n 1, 1) := by decide +kernel
theorem dX10_goesSo_39 : decode cX10_goesSo 39 = .ok (.invokevirtual 201, 3) := by decide +kernel
theorem dX10_goesSo_42 : decode cX10_goesSo 42 = .ok (.aload_n 0, 1) := by decide +kernel
theorem dX10_goesSo_43 : decode cX10_goesSo 43 = .ok (.iload_n 1, 1) := by decide +kernel
theorem dX10_goesSo_44 : decode cX10_goesSo 44 = .ok (.iconst 2, 1) := by decide +kernel
theorem dX10_goesSo_45 : decode cX10_goesSo 45 = .ok (.aload_n 0, 1) := by decide +kernel
theorem dX10_goesSo_46 : decode cX10_goesSo 46 = .ok (.getfield 195, 3) := by decide +kernel
theorem dX10_goesSo_49 : decode cX10_goesSo 49 = .ok (.invokevirtual 83, 3) := by decide +kernel
theorem dX10_goesSo_52 : decode cX10_goesSo 52 = .ok (.aload_n 0, 1) := by decide +kernel
theorem dX10_goesSo_53 : decode cX10_goesSo 53 = .ok (.iload_n 1, 1) := by decide +kernel
theorem dX10_goesSo_54 : decode cX10_goesSo 54 = .ok (.iconst 3, 1) := by decide +kernel
theorem dX10_goesSo_55 : decode cX10_goesSo 55 = .ok (.aload_n 0, 1) := by decide +kernel
theorem dX10_goesSo_56 : decode cX10_goesSo 56 = .ok (.getfield 198, 3) := by decide +kernel
theorem dX10_goesSo_59 : decode cX10_goesSo 59 = .ok (.invokevirtual 83, 3) := by decide +kernel
theorem dX10_goesSo_62 : decode cX10_goesSo 62 = .ok (.aload_n 0, 1) := by decide +kernel
theorem dX10_goesSo_63 : decode cX10_goesSo 63 = .ok (.getfield 43, 3) := by decide +kernel
theorem dX10_goesSo_66 : decode cX10_goesSo 66 = .ok (.bipush 40, 2) := by decide +kernel
theorem dX10_goesSo_68 : decode cX10_goesSo 68 = .ok (.iload_n 2, 1) := by decide +kernel
theorem dX10_goesSo_69 : decode cX10_goesSo 69 = .ok (.imul, 1) := by decide +kernel
theorem dX10_goesSo_70 : decode cX10_goesSo 70 = .ok (.iload 6, 2) := by decide +kernel
theorem dX10_goesSo_72 : decode cX10_goesSo 72 = .ok (.iadd, 1) := by decide +kernel
theorem dX10_goesSo_73 : decode cX10_goesSo 73 = .ok (.iaload, 1) := by decide +kernel
theorem dX10_goesSo_74 : decode cX10_goesSo 74 = .ok (.aload_n 0, 1) := by decide +kernel
theorem dX10_goesSo_75 : decode cX10_goesSo 75 = .ok (.getfield 195, 3) := by decide +kernel
theorem dX10_goesSo_78 : decode cX10_goesSo 78 = .ok (.if_icmp .ne 7, 3) := by decide +kernel
theorem dX10_goesSo_81 : decode cX10_goesSo 81 = .ok (.iconst 1, 1) := by decide +kernel
theorem dX10_goesSo_82 : decode cX10_goesSo 82 = .ok (.goto 4, 3) := by decide +kernel
theorem dX10_goesSo_85 : decode cX10_goesSo 85 = .ok (.iconst 0, 1) := by decide +kernel
theorem dX10_goesSo_86 : decode cX10_goesSo 86 = .ok (.istore 5, 2) := by decide +kernel
theorem dX10_goesSo_88 : decode cX10_goesSo 88 = .ok (.iinc 6 1, 3) := by decide +kernel
theorem dX10_goesSo_91 : decode cX10_goesSo 91 = .ok (.goto (-70), 3) := by decide +kernel
theorem dX10_goesSo_94 : decode cX10_goesSo 94 = .ok (.aload_n 0, 1) := by decide +kernel
theorem dX10_goesSo_95 : decode cX10_goesSo 95 = .ok (.iload_n 1, 1) := by decide +kernel
theorem dX10_goesSo_96 : decode cX10_goesSo 96 = .ok (.iconst 2, 1) := by decide +kernel
theorem dX10_goesSo_97 : decode cX10_goesSo 97 = .ok (.iload_n 3, 1) := by decide +kernel
theorem dX10_goesSo_98 : decode cX10_goesSo 98 = .ok (.invokevirtual 83, 3) := by decide +kernel
theorem dX10_goesSo_101 : decode cX10_goesSo 101 = .ok (.aload_n 0, 1) := by decide +kernel
theorem dX10_goesSo_102 : decode cX10_goesSo 102 = .ok (.iload_n 1, 1) := by decide +kernel
theorem dX10_goesSo_103 : decode cX10_goesSo 103 = .ok (.iconst 3, 1) := by decide +kernel
theorem dX10_goesSo_104 : decode cX10_goesSo 104 = .ok (.iload 4, 2) := by decide +kernel
theorem dX10_goesSo_106 : decode cX10_goesSo 106 = .ok (.invokevirtual 83, 3) := by decide +kernel
theorem dX10_goesSo_109 : decode cX10_goesSo 109 = .ok (.iload 5, 2) := by decide +kernel
theorem dX10_goesSo_111 : decode cX10_goesSo 111 = .ok (.ireturn, 1) := by decide +kernel
theorem dX10_rolled_0 : decode cX10_rolled 0 = .ok (.aload_n 0, 1) := by decide +kernel
theorem dX10_rolled_1 : decode cX10_rolled 1 = .ok (.iload_n 1, 1) := by decide +kernel
theorem dX10_rolled_2 : decode cX10_rolled 2 = .ok (.invokevirtual 87, 3) := by decide +kernel
theorem dX10_rolled_5 : decode cX10_rolled 5 = .ok (.ifCond .eq 20, 3) := by decide +kernel
theorem dX10_rolled_8 : decode cX10_rolled 8 = .ok (.iload_n 2, 1) := by decide +kernel
theorem dX10_rolled_9 : decode cX10_rolled 9 = .ok (.invokestatic 266, 3) := by decide +kernel
theorem dX10_rolled_12 : decode cX10_rolled 12 = .ok (.ifCond .eq 13, 3) := by decide +kernel
theorem dX10_rolled_15 : decode cX10_rolled 15 = .ok (.iload_n 3, 1) := by decide +kernel
theorem dX10_rolled_16 : decode cX10_rolled 16 = .ok (.i2l, 1) := by decide +kernel
theorem dX10_rolled_17 : decode cX10_rolled 17 = .ok (.lconst 0, 1) := by decide +kernel
theorem dX10_rolled_18 : decode cX10_rolled 18 = .ok (.lconst 1, 1) := by decide +kernel
theorem dX10_rolled_19 : decode cX10_rolled 19 = .ok (.invokestatic 53, 3) := by decide +kernel
theorem dX10_rolled_22 : decode cX10_rolled 22 = .ok (.ifCond .ne 9, 3) := by decide +kernel
theorem dX10_rolled_25 : decode cX10_rolled 25 = .ok (.aload_n 0, 1) := by decide +kernel
theorem dX10_rolled_26 : decode cX10_rolled 26 = .ok (.iconst 1, 1) := by decide +kernel
theorem dX10_rolled_27 : decode cX10_rolled 27 = .ok (.invokevirtual 79, 3) := by decide +kernel
theorem dX10_rolled_30 : decode cX10_rolled 30 = .ok (.ireturn, 1) := by decide +kernel
theorem dX10_rolled_31 : decode cX10_rolled 31 = .ok (.aload_n 0, 1) := by decide +kernel
theorem dX10_rolled_32 : decode cX10_rolled 32 = .ok (.getfield 37, 3) := by decide +kernel
theorem dX10_rolled_35 : decode cX10_rolled 35 = .ok (.iload_n 2, 1) := by decide +kernel
theorem dX10_rolled_36 : decode cX10_rolled 36 = .ok (.iaload, 1) := by decide +kernel
theorem dX10_rolled_37 : decode cX10_rolled 37 = .ok (.ifCond .ne 9, 3) := by decide +kernel
theorem dX10_rolled_40 : decode cX10_rolled 40 = .ok (.aload_n 0, 1) := by decide +kernel
theorem dX10_rolled_41 : decode cX10_rolled 41 = .ok (.iconst 2, 1) := by decide +kernel
theorem dX10_rolled_42 : decode cX10_rolled 42 = .ok (.invokevirtual 79, 3) := by decide +kernel
theorem dX10_rolled_45 : decode cX10_rolled 45 = .ok (.ireturn, 1) := by decide +kernel
theorem dX10_rolled_46 : decode cX10_rolled 46 = .ok (.aload_n 0, 1) := by decide +kernel
theorem dX10_rolled_47 : decode cX10_rolled 47 = .ok (.iload_n 1, 1) := by decide +kernel
theorem dX10_rolled_48 : decode cX10_rolled 48 = .ok (.iconst 3, 1) := by decide +kernel
theorem dX10_rolled_49 : decode cX10_rolled 49 = .ok (.invokevirtual 61, 3) := by decide +kernel
theorem dX10_rolled_52 : decode cX10_rolled 52 = .ok (.istore 4, 2) := by decide +kernel
theorem dX10_rolled_54 : decode cX10_rolled 54 = .ok (.iconst 0, 1) := by decide +kernel
theorem dX10_rolled_55 : decode cX10_rolled 55 = .ok (.istore 5, 2) := by decide +kernel
theorem dX10_rolled_57 : decode cX10_rolled 57 = .ok (.iconst 0, 1) := by decide +kernel
theorem dX10_rolled_58 : decode cX10_rolled 58 = .ok (.istore 6, 2) := by decide +kernel
theorem dX10_rolled_60 : decode cX10_rolled 60 = .ok (.bipush 9, 2) := by decide +kernel
theorem dX10_rolled_62 : decode cX10_rolled 62 = .ok (.istore 7, 2) := by decide +kernel
theorem dX10_rolled_64 : decode cX10_rolled 64 = .ok (.iload 7, 2) := by decide +kernel
theorem dX10_rolled_66 : decode cX10_rolled 66 = .ok (.bipush (-9), 2) := by decide +kernel
theorem dX10_rolled_68 : decode cX10_rolled 68 = .ok (.if_icmp .lt 33, 3) := by decide +kernel
theorem dX10_rolled_71 : decode cX10_rolled 71 = .ok (.aload_n 0, 1) := by decide +kernel
theorem dX10_rolled_72 : decode cX10_rolled 72 = .ok (.iload_n 1, 1) := by decide +kernel
theorem dX10_rolled_73 : decode cX10_rolled 73 = .ok (.iconst 3, 1) := by decide +kernel
theorem dX10_rolled_74 : decode cX10_rolled 74 = .ok (.iload 7, 2) := by decide +kernel
theorem dX10_rolled_76 : decode cX10_rolled 76 = .ok (.invokevirtual 83, 3) := by decide +kernel
theorem dX10_rolled_79 : decode cX10_rolled 79 = .ok (.aload_n 0, 1) := by decide +kernel
theorem dX10_rolled_80 : decode cX10_rolled 80 = .ok (.iload_n 1, 1) := by decide +kernel
theorem dX10_rolled_81 : decode cX10_rolled 81 = .ok (.iload_n 2, 1) := by decide +kernel
theorem dX10_rolled_82 : decode cX10_rolled 82 = .ok (.invokevirtual 269, 3) := by decide +kernel
theorem dX10_rolled_85 : decode cX10_rolled 85 = .ok (.ifCond .eq 10, 3) := by decide +kernel
theorem dX10_rolled_88 : decode cX10_rolled 88 = .ok (.iload 7, 2) := by decide +kernel
theorem dX10_rolled_90 : decode cX10_rolled 90 = .ok (.istore 5, 2) := by decide +kernel
theorem dX10_rolled_92 : decode cX10_rolled 92 = .ok (.iinc 6 1, 3) := by decide +kernel
theorem dX10_rolled_95 : decode cX10_rolled 95 = .ok (.iinc 7 (-1), 3) := by decide +kernel
theorem dX10_rolled_98 : decode cX10_rolled 98 = .ok (.goto (-34), 3) := by decide +kernel
theorem dX10_rolled_101 : decode cX10_rolled 101 = .ok (.aload_n 0, 1) := by decide +kernel
theorem dX10_rolled_102 : decode cX10_rolled 102 = .ok (.iload_n 1, 1) := by decide +kernel
theorem dX10_rolled_103 : decode cX10_rolled 103 = .ok (.iconst 3, 1) := by decide +kernel
theorem dX10_rolled_104 : decode cX10_rolled 104 = .ok (.iload 4, 2) := by decide +kernel
theorem dX10_rolled_106 : decode cX10_rolled 106 = .ok (.invokevirtual 83, 3) := by decide +kernel
theorem dX10_rolled_109 : decode cX10_rolled 109 = .ok (.iload 6, 2) := by decide +kernel
theorem dX10_rolled_111 : decode cX10_rolled 111 = .ok (.ifCond .ne 11, 3) := by decide +kernel
theorem dX10_rolled_114 : decode cX10_rolled 114 = .ok (.aload_n 0, 1) := by decide +kernel
theorem dX10_rolled_115 : decode cX10_rolled 115 = .ok (.iconst 2, 1) := by decide +kernel
theorem dX10_rolled_116 : decode cX10_rolled 116 = .ok (.invokevirtual 79, 3) := by decide +kernel
theorem dX10_rolled_119 : decode cX10_rolled 119 = .ok (.goto 14, 3) := by decide +kernel
theorem dX10_rolled_122 : decode cX10_rolled 122 = .ok (.iload_n 3, 1) := by decide +kernel
theorem dX10_rolled_123 : decode cX10_rolled 123 = .ok (.ifCond .ne 8, 3) := by decide +kernel
theorem dX10_rolled_126 : decode cX10_rolled 126 = .ok (.iload 5, 2) := by decide +kernel
theorem dX10_rolled_128 : decode cX10_rolled 128 = .ok (.goto 5, 3) := by decide +kernel
theorem dX10_rolled_131 : decode cX10_rolled 131 = .ok (.iload 6, 2) := by decide +kernel
theorem dX10_rolled_133 : decode cX10_rolled 133 = .ok (.ireturn, 1) := by decide +kernel
theorem dX10_whose_0 : decode cX10_whose 0 = .ok (.aload_n 0, 1) := by decide +kernel
theorem dX10_whose_1 : decode cX10_whose 1 = .ok (.iload_n 1, 1) := by decide +kernel
theorem dX10_whose_2 : decode cX10_whose 2 = .ok (.invokevirtual 87, 3) := by decide +kernel
theorem dX10_whose_5 : decode cX10_whose 5 = .ok (.ifCond .eq 10, 3) := by decide +kernel
theorem dX10_whose_8 : decode cX10_whose 8 = .ok (.iload_n 2, 1) := by decide +kernel
theorem dX10_whose_9 : decode cX10_whose 9 = .ok (.invokestatic 266, 3) := by decide +kernel
theorem dX10_whose_12 : decode cX10_whose 12 = .ok (.ifCond .ne 9, 3) := by decide +kernel
theorem dX10_whose_15 : decode cX10_whose 15 = .ok (.aload_n 0, 1) := by decide +kernel
theorem dX10_whose_16 : decode cX10_whose 16 = .ok (.iconst 1, 1) := by decide +kernel
theorem dX10_whose_17 : decode cX10_whose 17 = .ok (.invokevirtual 79, 3) := by decide +kernel
theorem dX10_whose_20 : decode cX10_whose 20 = .ok (.ireturn, 1) := by decide +kernel
theorem dX10_whose_21 : decode cX10_whose 21 = .ok (.aload_n 0, 1) := by decide +kernel
theorem dX10_whose_22 : decode cX10_whose 22 = .ok (.getfield 37, 3) := by decide +kernel
theorem dX10_whose_25 : decode cX10_whose 25 = .ok (.iload_n 2, 1) := by decide +kernel
theorem dX10_whose_26 : decode cX10_whose 26 = .ok (.iaload, 1) := by decide +kernel
theorem dX10_whose_27 : decode cX10_whose 27 = .ok (.ifCond .ne 9, 3) := by decide +kernel
theorem dX10_whose_30 : decode cX10_whose 30 = .ok (.aload_n 0, 1) := by decide +kernel
theorem dX10_whose_31 : decode cX10_whose 31 = .ok (.iconst 2, 1) := by decide +kernel
theorem dX10_whose_32 : decode cX10_whose 32 = .ok (.invokevirtual 79, 3) := by decide +kernel
theorem dX10_whose_35 : decode cX10_whose 35 = .ok (.ireturn, 1) := by decide +kernel
theorem dX10_whose_36 : decode cX10_whose 36 = .ok (.aload_n 0, 1) := by decide +kernel
theorem dX10_whose_37 : decode cX10_whose 37 = .ok (.iload_n 1, 1) := by decide +kernel
theorem dX10_whose_38 : decode cX10_whose 38 = .ok (.iconst 0, 1) := by decide +kernel
theorem dX10_whose_39 : decode cX10_whose 39 = .ok (.invokevirtual 61, 3) := by decide +kernel
theorem dX10_whose_42 : decode cX10_whose 42 = .ok (.istore_n 3, 1) := by decide +kernel
theorem dX10_whose_43 : decode cX10_whose 43 = .ok (.iconst (-1), 1) := by decide +kernel
theorem dX10_whose_44 : decode cX10_whose 44 = .ok (.istore 4, 2) := by decide +kernel
theorem dX10_whose_46 : decode cX10_whose 46 = .ok (.bipush 6, 2) := by decide +kernel
theorem dX10_whose_48 : decode cX10_whose 48 = .ok (.istore 5, 2) := by decide +kernel
theorem dX10_whose_50 : decode cX10_whose 50 = .ok (.iload 5, 2) := by decide +kernel
theorem dX10_whose_52 : decode cX10_whose 52 = .ok (.ifCond .lt 35, 3) := by decide +kernel
theorem dX10_whose_55 : decode cX10_whose 55 = .ok (.aload_n 0, 1) := by decide +kernel
theorem dX10_whose_56 : decode cX10_whose 56 = .ok (.iload_n 1, 1) := by decide +kernel
theorem dX10_whose_57 : decode cX10_whose 57 = .ok (.iconst 0, 1) := by decide +kernel
theorem dX10_whose_58 : decode cX10_whose 58 = .ok (.iload 5, 2) := by decide +kernel
theorem dX10_whose_60 : decode cX10_whose 60 = .ok (.invokevirtual 83, 3) := by decide +kernel
theorem dX10_whose_63 : decode cX10_whose 63 = .ok (.aload_n 0, 1) := by decide +kernel
theorem dX10_whose_64 : decode cX10_whose 64 = .ok (.iload_n 1, 1) := by decide +kernel
theorem dX10_whose_65 : decode cX10_whose 65 = .ok (.iload_n 2, 1) := by decide +kernel
theorem dX10_whose_66 : decode cX10_whose 66 = .ok (.invokevirtual 269, 3) := by decide +kernel
theorem dX10_whose_69 : decode cX10_whose 69 = .ok (.ifCond .eq 8, 3) := by decide +kernel
theorem dX10_whose_72 : decode cX10_whose 72 = .ok (.iload 5, 2) := by decide +kernel
theorem dX10_whose_74 : decode cX10_whose 74 = .ok (.goto 5, 3) := by decide +kernel
theorem dX10_whose_77 : decode cX10_whose 77 = .ok (.iload 4, 2) := by decide +kernel
theorem dX10_whose_79 : decode cX10_whose 79 = .ok (.istore 4, 2) := by decide +kernel
theorem dX10_whose_81 : decode cX10_whose 81 = .ok (.iinc 5 (-1), 3) := by decide +kernel
theorem dX10_whose_84 : decode cX10_whose 84 = .ok (.goto (-34), 3) := by decide +kernel
theorem dX10_whose_87 : decode cX10_whose 87 = .ok (.aload_n 0, 1) := by decide +kernel
theorem dX10_whose_88 : decode cX10_whose 88 = .ok (.iload_n 1, 1) := by decide +kernel
theorem dX10_whose_89 : decode cX10_whose 89 = .ok (.iconst 0, 1) := by decide +kernel
theorem dX10_whose_90 : decode cX10_whose 90 = .ok (.iload_n 3, 1) := by decide +kernel
theorem dX10_whose_91 : decode cX10_whose 91 = .ok (.invokevirtual 83, 3) := by decide +kernel
theorem dX10_whose_94 : decode cX10_whose 94 = .ok (.iload 4, 2) := by decide +kernel
theorem dX10_whose_96 : decode cX10_whose 96 = .ok (.ifCond .ge 11, 3) := by decide +kernel
theorem dX10_whose_99 : decode cX10_whose 99 = .ok (.aload_n 0, 1) := by decide +kernel
theorem dX10_whose_100 : decode cX10_whose 100 = .ok (.iconst 2, 1) := by decide +kernel
theorem dX10_whose_101 : decode cX10_whose 101 = .ok (.invokevirtual 79, 3) := by decide +kernel
theorem dX10_whose_104 : decode cX10_whose 104 = .ok (.goto 5, 3) := by decide +kernel
theorem dX10_whose_107 : decode cX10_whose 107 = .ok (.iload 4, 2) := by decide +kernel
theorem dX10_whose_109 : decode cX10_whose 109 = .ok (.ireturn, 1) := by decide +kernel
theorem dX10_manyOver_0 : decode cX10_manyOver 0 = .ok (.iload 4, 2) := by decide +kernel
theorem dX10_manyOver_2 : decode cX10_manyOver 2 = .ok (.ifCond .ne 22, 3) := by decide +kernel
theorem dX10_manyOver_5 : decode cX10_manyOver 5 = .ok (.aload_n 0, 1) := by decide +kernel
theorem dX10_manyOver_6 : decode cX10_manyOver 6 = .ok (.iload_n 1, 1) := by decide +kernel
theorem dX10_manyOver_7 : decode cX10_manyOver 7 = .ok (.iconst 2, 1) := by decide +kernel
theorem dX10_manyOver_8 : decode cX10_manyOver 8 = .ok (.invokevirtual 61, 3) := by decide +kernel
theorem dX10_manyOver_11 : decode cX10_manyOver 11 = .ok (.bipush 40, 2) := by decide +kernel
theorem dX10_manyOver_13 : decode cX10_manyOver 13 = .ok (.iload_n 2, 1) := by decide +kernel
theorem dX10_manyOver_14 : decode cX10_manyOver 14 = .ok (.imul, 1) := by decide +kernel
theorem dX10_manyOver_15 : decode cX10_manyOver 15 = .ok (.if_icmp .ne 7, 3) := by decide +kernel
theorem dX10_manyOver_18 : decode cX10_manyOver 18 = .ok (.iconst 1, 1) := by decide +kernel
theorem dX10_manyOver_19 : decode cX10_manyOver 19 = .ok (.goto 4, 3) := by decide +kernel
theorem dX10_manyOver_22 : decode cX10_manyOver 22 = .ok (.iconst 0, 1) := by decide +kernel
theorem dX10_manyOver_23 : decode cX10_manyOver 23 = .ok (.ireturn, 1) := by decide +kernel
theorem dX10_manyOver_24 : decode cX10_manyOver 24 = .ok (.aload_n 0, 1) := by decide +kernel
theorem dX10_manyOver_25 : decode cX10_manyOver 25 = .ok (.iload_n 1, 1) := by decide +kernel
theorem dX10_manyOver_26 : decode cX10_manyOver 26 = .ok (.iconst 2, 1) := by decide +kernel
theorem dX10_manyOver_27 : decode cX10_manyOver 27 = .ok (.invokevirtual 61, 3) := by decide +kernel
theorem dX10_manyOver_30 : decode cX10_manyOver 30 = .ok (.istore 5, 2) := by decide +kernel
theorem dX10_manyOver_32 : decode cX10_manyOver 32 = .ok (.aload_n 0, 1) := by decide +kernel
theorem dX10_manyOver_33 : decode cX10_manyOver 33 = .ok (.iload_n 1, 1) := by decide +kernel
theorem dX10_manyOver_34 : decode cX10_manyOver 34 = .ok (.iconst 3, 1) := by decide +kernel
theorem dX10_manyOver_35 : decode cX10_manyOver 35 = .ok (.invokevirtual 61, 3) := by decide +kernel
theorem dX10_manyOver_38 : decode cX10_manyOver 38 = .ok (.istore 6, 2) := by decide +kernel
theorem dX10_manyOver_40 : decode cX10_manyOver 40 = .ok (.iconst 0, 1) := by decide +kernel
theorem dX10_manyOver_41 : decode cX10_manyOver 41 = .ok (.istore 7, 2) := by decide +kernel
theorem dX10_manyOver_43 : decode cX10_manyOver 43 = .ok (.iload_n 3, 1) := by decide +kernel
theorem dX10_manyOver_44 : decode cX10_manyOver 44 = .ok (.ifCond .le 7, 3) := by decide +kernel
theorem dX10_manyOver_47 : decode cX10_manyOver 47 = .ok (.iconst (-1), 1) := by decide +kernel
theorem dX10_manyOver_48 : decode cX10_manyOver 48 = .ok (.goto 4, 3) := by decide +kernel
theorem dX10_manyOver_51 : decode cX10_manyOver 51 = .ok (.iconst 0, 1) := by decide +kernel
theorem dX10_manyOver_52 : decode cX10_manyOver 52 = .ok (.istore 8, 2) := by decide +kernel
theorem dX10_manyOver_54 : decode cX10_manyOver 54 = .ok (.iload 8, 2) := by decide +kernel
theorem dX10_manyOver_56 : decode cX10_manyOver 56 = .ok (.iload_n 3, 1) := by decide +kernel
theorem dX10_manyOver_57 : decode cX10_manyOver 57 = .ok (.ifCond .le 7, 3) := by decide +kernel
theorem dX10_manyOver_60 : decode cX10_manyOver 60 = .ok (.iconst 1, 1) := by decide +kernel
theorem dX10_manyOver_61 : decode cX10_manyOver 61 = .ok (.goto 4, 3) := by decide +kernel
theorem dX10_manyOver_64 : decode cX10_manyOver 64 = .ok (.iconst 0, 1) := by decide +kernel
theorem dX10_manyOver_65 : decode cX10_manyOver 65 = .ok (.if_icmp .gt 86, 3) := by decide +kernel
theorem dX10_manyOver_68 : decode cX10_manyOver 68 = .ok (.aload_n 0, 1) := by decide +kernel
theorem dX10_manyOver_69 : decode cX10_manyOver 69 = .ok (.iload_n 1, 1) := by decide +kernel
theorem dX10_manyOver_70 : decode cX10_manyOver 70 = .ok (.iconst 3, 1) := by decide +kernel
theorem dX10_manyOver_71 : decode cX10_manyOver 71 = .ok (.iload 6, 2) := by decide +kernel
theorem dX10_manyOver_73 : decode cX10_manyOver 73 = .ok (.iload 8, 2) := by decide +kernel
theorem dX10_manyOver_75 : decode cX10_manyOver 75 = .ok (.iadd, 1) := by decide +kernel
theorem dX10_manyOver_76 : decode cX10_manyOver 76 = .ok (.bipush (-9), 2) := by decide +kernel
theorem dX10_manyOver_78 : decode cX10_manyOver 78 = .ok (.bipush 9, 2) := by decide +kernel
theorem dX10_manyOver_80 : decode cX10_manyOver 80 = .ok (.invokestatic 112, 3) := by decide +kernel
theorem dX10_manyOver_83 : decode cX10_manyOver 83 = .ok (.invokevirtual 83, 3) := by decide +kernel
theorem dX10_manyOver_86 : decode cX10_manyOver 86 = .ok (.aload_n 0, 1) := by decide +kernel
theorem dX10_manyOver_87 : decode cX10_manyOver 87 = .ok (.iload_n 1, 1) := by decide +kernel
theorem dX10_manyOver_88 : decode cX10_manyOver 88 = .ok (.invokevirtual 201, 3) := by decide +kernel
theorem dX10_manyOver_91 : decode cX10_manyOver 91 = .ok (.aload_n 0, 1) := by decide +kernel
theorem dX10_manyOver_92 : decode cX10_manyOver 92 = .ok (.iload_n 1, 1) := by decide +kernel
theorem dX10_manyOver_93 : decode cX10_manyOver 93 = .ok (.iconst 2, 1) := by decide +kernel
theorem dX10_manyOver_94 : decode cX10_manyOver 94 = .ok (.aload_n 0, 1) := by decide +kernel
theorem dX10_manyOver_95 : decode cX10_manyOver 95 = .ok (.getfield 195, 3) := by decide +kernel
theorem dX10_manyOver_98 : decode cX10_manyOver 98 = .ok (.invokevirtual 83, 3) := by decide +kernel
theorem dX10_manyOver_101 : decode cX10_manyOver 101 = .ok (.aload_n 0, 1) := by decide +kernel
theorem dX10_manyOver_102 : decode cX10_manyOver 102 = .ok (.iload_n 1, 1) := by decide +kernel
theorem dX10_manyOver_103 : decode cX10_manyOver 103 = .ok (.iconst 3, 1) := by decide +kernel
theorem dX10_manyOver_104 : decode cX10_manyOver 104 = .ok (.aload_n 0, 1) := by decide +kernel
theorem dX10_manyOver_105 : decode cX10_manyOver 105 = .ok (.getfield 198, 3) := by decide +kernel
theorem dX10_manyOver_108 : decode cX10_manyOver 108 = .ok (.invokevirtual 83, 3) := by decide +kernel
theorem dX10_manyOver_111 : decode cX10_manyOver 111 = .ok (.iload 7, 2) := by decide +kernel
theorem dX10_manyOver_113 : decode cX10_manyOver 113 = .ok (.aload_n 0, 1) := by decide +kernel
theorem dX10_manyOver_114 : decode cX10_manyOver 114 = .ok (.iload_n 1, 1) := by decide +kernel
theorem dX10_manyOver_115 : decode cX10_manyOver 115 = .ok (.iload_n 2, 1) := by decide +kernel
theorem dX10_manyOver_116 : decode cX10_manyOver 116 = .ok (.iload_n 3, 1) := by decide +kernel
theorem dX10_manyOver_117 : decode cX10_manyOver 117 = .ok (.iconst 1, 1) := by decide +kernel
theorem dX10_manyOver_118 : decode cX10_manyOver 118 = .ok (.isub, 1) := by decide +kernel
theorem dX10_manyOver_119 : decode cX10_manyOver 119 = .ok (.iload 4, 2) := by decide +kernel
theorem dX10_manyOver_121 : decode cX10_manyOver 121 = .ok (.iconst 1, 1) := by decide +kernel
theorem dX10_manyOver_122 : decode cX10_manyOver 122 = .ok (.isub, 1) := by decide +kernel
theorem dX10_manyOver_123 : decode cX10_manyOver 123 = .ok (.invokevirtual 272, 3) := by decide +kernel
theorem dX10_manyOver_126 : decode cX10_manyOver 126 = .ok (.iadd, 1) := by decide +kernel
theorem dX10_manyOver_127 : decode cX10_manyOver 127 = .ok (.istore 7, 2) := by decide +kernel
theorem dX10_manyOver_129 : decode cX10_manyOver 129 = .ok (.aload_n 0, 1) := by decide +kernel
theorem dX10_manyOver_130 : decode cX10_manyOver 130 = .ok (.iload_n 1, 1) := by decide +kernel
theorem dX10_manyOver_131 : decode cX10_manyOver 131 = .ok (.iconst 2, 1) := by decide +kernel
theorem dX10_manyOver_132 : decode cX10_manyOver 132 = .ok (.iload 5, 2) := by decide +kernel
theorem dX10_manyOver_134 : decode cX10_manyOver 134 = .ok (.invokevirtual 83, 3) := by decide +kernel
theorem dX10_manyOver_137 : decode cX10_manyOver 137 = .ok (.aload_n 0, 1) := by decide +kernel
theorem dX10_manyOver_138 : decode cX10_manyOver 138 = .ok (.iload_n 1, 1) := by decide +kernel
theorem dX10_manyOver_139 : decode cX10_manyOver 139 = .ok (.iconst 3, 1) := by decide +kernel
theorem dX10_manyOver_140 : decode cX10_manyOver 140 = .ok (.iload 6, 2) := by decide +kernel
theorem dX10_manyOver_142 : decode cX10_manyOver 142 = .ok (.invokevirtual 83, 3) := by decide +kernel
theorem dX10_manyOver_145 : decode cX10_manyOver 145 = .ok (.iinc 8 1, 3) := by decide +kernel
theorem dX10_manyOver_148 : decode cX10_manyOver 148 = .ok (.goto (-94), 3) := by decide +kernel
theorem dX10_manyOver_151 : decode cX10_manyOver 151 = .ok (.iload 7, 2) := by decide +kernel
theorem dX10_manyOver_153 : decode cX10_manyOver 153 = .ok (.ireturn, 1) := by decide +kernel
theorem dX10_odds_0 : decode cX10_odds 0 = .ok (.aload_n 0, 1) := by decide +kernel
theorem dX10_odds_1 : decode cX10_odds 1 = .ok (.iload_n 1, 1) := by decide +kernel
theorem dX10_odds_2 : decode cX10_odds 2 = .ok (.invokevirtual 87, 3) := by decide +kernel
theorem dX10_odds_5 : decode cX10_odds 5 = .ok (.ifCond .eq 33, 3) := by decide +kernel
theorem dX10_odds_8 : decode cX10_odds 8 = .ok (.iload_n 2, 1) := by decide +kernel
theorem dX10_odds_9 : decode cX10_odds 9 = .ok (.invokestatic 126, 3) := by decide +kernel
theorem dX10_odds_12 : decode cX10_odds 12 = .ok (.ifCond .eq 26, 3) := by decide +kernel
theorem dX10_odds_15 : decode cX10_odds 15 = .ok (.iload_n 3, 1) := by decide +kernel
theorem dX10_odds_16 : decode cX10_odds 16 = .ok (.i2l, 1) := by decide +kernel
theorem dX10_odds_17 : decode cX10_odds 17 = .ok (.lconst 0, 1) := by decide +kernel
theorem dX10_odds_18 : decode cX10_odds 18 = .ok (.ldc2_w 275, 3) := by decide +kernel
theorem dX10_odds_21 : decode cX10_odds 21 = .ok (.invokestatic 53, 3) := by decide +kernel
theorem dX10_odds_24 : decode cX10_odds 24 = .ok (.ifCond .eq 14, 3) := by decide +kernel
theorem dX10_odds_27 : decode cX10_odds 27 = .ok (.iload 4, 2) := by decide +kernel
theorem dX10_odds_29 : decode cX10_odds 29 = .ok (.i2l, 1) := by decide +kernel
theorem dX10_odds_30 : decode cX10_odds 30 = .ok (.lconst 0, 1) := by decide +kernel
theorem dX10_odds_31 : decode cX10_odds 31 = .ok (.lconst 1, 1) := by decide +kernel
theorem dX10_odds_32 : decode cX10_odds 32 = .ok (.invokestatic 53, 3) := by decide +kernel
theorem dX10_odds_35 : decode cX10_odds 35 = .ok (.ifCond .ne 9, 3) := by decide +kernel
theorem dX10_odds_38 : decode cX10_odds 38 = .ok (.aload_n 0, 1) := by decide +kernel
theorem dX10_odds_39 : decode cX10_odds 39 = .ok (.iconst 1, 1) := by decide +kernel
theorem dX10_odds_40 : decode cX10_odds 40 = .ok (.invokevirtual 79, 3) := by decide +kernel
theorem dX10_odds_43 : decode cX10_odds 43 = .ok (.ireturn, 1) := by decide +kernel
theorem dX10_odds_44 : decode cX10_odds 44 = .ok (.iconst 1, 1) := by decide +kernel
theorem dX10_odds_45 : decode cX10_odds 45 = .ok (.istore 5, 2) := by decide +kernel
theorem dX10_odds_47 : decode cX10_odds 47 = .ok (.iconst 0, 1) := by decide +kernel
theorem dX10_odds_48 : decode cX10_odds 48 = .ok (.istore 6, 2) := by decide +kernel
theorem dX10_odds_50 : decode cX10_odds 50 = .ok (.iload 6, 2) := by decide +kernel
theorem dX10_odds_52 : decode cX10_odds 52 = .ok (.iload_n 3, 1) := by decide +kernel
theorem dX10_odds_53 : decode cX10_odds 53 = .ok (.if_icmp .ge 15, 3) := by decide +kernel
theorem dX10_odds_56 : decode cX10_odds 56 = .ok (.iload 5, 2) := by decide +kernel
theorem dX10_odds_58 : decode cX10_odds 58 = .ok (.iconst 3, 1) := by decide +kernel
theorem dX10_odds_59 : decode cX10_odds 59 = .ok (.imul, 1) := by decide +kernel
theorem dX10_odds_60 : decode cX10_odds 60 = .ok (.istore 5, 2) := by decide +kernel
theorem dX10_odds_62 : decode cX10_odds 62 = .ok (.iinc 6 1, 3) := by decide +kernel
theorem dX10_odds_65 : decode cX10_odds 65 = .ok (.goto (-15), 3) := by decide +kernel
theorem dX10_odds_68 : decode cX10_odds 68 = .ok (.aload_n 0, 1) := by decide +kernel
theorem dX10_odds_69 : decode cX10_odds 69 = .ok (.iload_n 1, 1) := by decide +kernel
theorem dX10_odds_70 : decode cX10_odds 70 = .ok (.iload_n 2, 1) := by decide +kernel
theorem dX10_odds_71 : decode cX10_odds 71 = .ok (.iload_n 3, 1) := by decide +kernel
theorem dX10_odds_72 : decode cX10_odds 72 = .ok (.bipush 50, 2) := by decide +kernel
theorem dX10_odds_74 : decode cX10_odds 74 = .ok (.invokevirtual 272, 3) := by decide +kernel
theorem dX10_odds_77 : decode cX10_odds 77 = .ok (.istore 6, 2) := by decide +kernel
theorem dX10_odds_79 : decode cX10_odds 79 = .ok (.iload 5, 2) := by decide +kernel
theorem dX10_odds_81 : decode cX10_odds 81 = .ok (.iconst 3, 1) := by decide +kernel
theorem dX10_odds_82 : decode cX10_odds 82 = .ok (.irem, 1) := by decide +kernel
theorem dX10_odds_83 : decode cX10_odds 83 = .ok (.ifCond .ne 25, 3) := by decide +kernel
theorem dX10_odds_86 : decode cX10_odds 86 = .ok (.iload 6, 2) := by decide +kernel
theorem dX10_odds_88 : decode cX10_odds 88 = .ok (.iconst 3, 1) := by decide +kernel
theorem dX10_odds_89 : decode cX10_odds 89 = .ok (.irem, 1) := by decide +kernel
theorem dX10_odds_90 : decode cX10_odds 90 = .ok (.ifCond .ne 18, 3) := by decide +kernel
theorem dX10_odds_93 : decode cX10_odds 93 = .ok (.iload 5, 2) := by decide +kernel
theorem dX10_odds_95 : decode cX10_odds 95 = .ok (.iconst 3, 1) := by decide +kernel
theorem dX10_odds_96 : decode cX10_odds 96 = .ok (.idiv, 1) := by decide +kernel
theorem dX10_odds_97 : decode cX10_odds 97 = .ok (.istore 5, 2) := by decide +kernel
theorem dX10_odds_99 : decode cX10_odds 99 = .ok (.iload 6, 2) := by decide +kernel
theorem dX10_odds_101 : decode cX10_odds 101 = .ok (.iconst 3, 1) := by decide +kernel
theorem dX10_odds_102 : decode cX10_odds 102 = .ok (.idiv, 1) := by decide +kernel
theorem dX10_odds_103 : decode cX10_odds 103 = .ok (.istore 6, 2) := by decide +kernel
theorem dX10_odds_105 : decode cX10_odds 105 = .ok (.goto (-26), 3) := by decide +kernel
theorem dX10_odds_108 : decode cX10_odds 108 = .ok (.iload 4, 2) := by decide +kernel
theorem dX10_odds_110 : decode cX10_odds 110 = .ok (.ifCond .ne 8, 3) := by decide +kernel
theorem dX10_odds_113 : decode cX10_odds 113 = .ok (.iload 6, 2) := by decide +kernel
theorem dX10_odds_115 : decode cX10_odds 115 = .ok (.goto 14, 3) := by decide +kernel
theorem dX10_odds_118 : decode cX10_odds 118 = .ok (.iload 6, 2) := by decide +kernel
theorem dX10_odds_120 : decode cX10_odds 120 = .ok (.ifCond .ne 7, 3) := by decide +kernel
theorem dX10_odds_123 : decode cX10_odds 123 = .ok (.iconst 1, 1) := by decide +kernel
theorem dX10_odds_124 : decode cX10_odds 124 = .ok (.goto 5, 3) := by decide +kernel
theorem dX10_odds_127 : decode cX10_odds 127 = .ok (.iload 5, 2) := by decide +kernel
theorem dX10_odds_129 : decode cX10_odds 129 = .ok (.ireturn, 1) := by decide +kernel
theorem dX10_seed_0 : decode cX10_seed 0 = .ok (.aload_n 0, 1) := by decide +kernel
theorem dX10_seed_1 : decode cX10_seed 1 = .ok (.getfield 9, 3) := by decide +kernel
theorem dX10_seed_4 : decode cX10_seed 4 = .ok (.iconst 5, 1) := by decide +kernel
theorem dX10_seed_5 : decode cX10_seed 5 = .ok (.iaload, 1) := by decide +kernel
theorem dX10_seed_6 : decode cX10_seed 6 = .ok (.istore_n 2, 1) := by decide +kernel
theorem dX10_seed_7 : decode cX10_seed 7 = .ok (.aload_n 0, 1) := by decide +kernel
theorem dX10_seed_8 : decode cX10_seed 8 = .ok (.getfield 9, 3) := by decide +kernel
theorem dX10_seed_11 : decode cX10_seed 11 = .ok (.iconst 5, 1) := by decide +kernel
theorem dX10_seed_12 : decode cX10_seed 12 = .ok (.iload_n 1, 1) := by decide +kernel
theorem dX10_seed_13 : decode cX10_seed 13 = .ok (.iastore, 1) := by decide +kernel
theorem dX10_seed_14 : decode cX10_seed 14 = .ok (.iload_n 2, 1) := by decide +kernel
theorem dX10_seed_15 : decode cX10_seed 15 = .ok (.ireturn, 1) := by decide +kernel
theorem dX10_begins_0 : decode cX10_begins 0 = .ok (.aload_n 0, 1) := by decide +kernel
theorem dX10_begins_1 : decode cX10_begins 1 = .ok (.getfield 277, 3) := by decide +kernel
theorem dX10_begins_4 : decode cX10_begins 4 = .ok (.bipush 40, 2) := by decide +kernel
theorem dX10_begins_6 : decode cX10_begins 6 = .ok (.if_icmp .ge 23, 3) := by decide +kernel
theorem dX10_begins_9 : decode cX10_begins 9 = .ok (.aload_n 0, 1) := by decide +kernel
theorem dX10_begins_10 : decode cX10_begins 10 = .ok (.getfield 46, 3) := by decide +kernel
theorem dX10_begins_13 : decode cX10_begins 13 = .ok (.aload_n 0, 1) := by decide +kernel
theorem dX10_begins_14 : decode cX10_begins 14 = .ok (.getfield 277, 3) := by decide +kernel
theorem dX10_begins_17 : decode cX10_begins 17 = .ok (.iload_n 1, 1) := by decide +kernel
theorem dX10_begins_18 : decode cX10_begins 18 = .ok (.iastore, 1) := by decide +kernel
theorem dX10_begins_19 : decode cX10_begins 19 = .ok (.aload_n 0, 1) := by decide +kernel
theorem dX10_begins_20 : decode cX10_begins 20 = .ok (.dup, 1) := by decide +kernel
theorem dX10_begins_21 : decode cX10_begins 21 = .ok (.getfield 277, 3) := by decide +kernel
theorem dX10_begins_24 : decode cX10_begins 24 = .ok (.iconst 1, 1) := by decide +kernel
theorem dX10_begins_25 : decode cX10_begins 25 = .ok (.iadd, 1) := by decide +kernel
theorem dX10_begins_26 : decode cX10_begins 26 = .ok (.putfield 277, 3) := by decide +kernel
theorem dX10_begins_29 : decode cX10_begins 29 = .ok (.return_, 1) := by decide +kernel
theorem dX10_above_0 : decode cX10_above 0 = .ok (.iload_n 0, 1) := by decide +kernel
theorem dX10_above_1 : decode cX10_above 1 = .ok (.iconst 4, 1) := by decide +kernel
theorem dX10_above_2 : decode cX10_above 2 = .ok (.if_icmp .ne 7, 3) := by decide +kernel
theorem dX10_above_5 : decode cX10_above 5 = .ok (.iconst 2, 1) := by decide +kernel
theorem dX10_above_6 : decode cX10_above 6 = .ok (.goto 23, 3) := by decide +kernel
theorem dX10_above_9 : decode cX10_above 9 = .ok (.iload_n 0, 1) := by decide +kernel
theorem dX10_above_10 : decode cX10_above 10 = .ok (.iconst 5, 1) := by decide +kernel
theorem dX10_above_11 : decode cX10_above 11 = .ok (.if_icmp .ne 7, 3) := by decide +kernel
theorem dX10_above_14 : decode cX10_above 14 = .ok (.iconst 3, 1) := by decide +kernel
theorem dX10_above_15 : decode cX10_above 15 = .ok (.goto 14, 3) := by decide +kernel
theorem dX10_above_18 : decode cX10_above 18 = .ok (.iload_n 0, 1) := by decide +kernel
theorem dX10_above_19 : decode cX10_above 19 = .ok (.bipush 6, 2) := by decide +kernel
theorem dX10_above_21 : decode cX10_above 21 = .ok (.if_icmp .ne 7, 3) := by decide +kernel
theorem dX10_above_24 : decode cX10_above 24 = .ok (.iconst 1, 1) := by decide +kernel
theorem dX10_above_25 : decode cX10_above 25 = .ok (.goto 4, 3) := by decide +kernel
theorem dX10_above_28 : decode cX10_above 28 = .ok (.iconst 0, 1) := by decide +kernel
theorem dX10_above_29 : decode cX10_above 29 = .ok (.ireturn, 1) := by decide +kernel
theorem dX10_floats_0 : decode cX10_floats 0 = .ok (.iload_n 1, 1) := by decide +kernel
theorem dX10_floats_1 : decode cX10_floats 1 = .ok (.ifCond .ne 16, 3) := by decide +kernel
theorem dX10_floats_4 : decode cX10_floats 4 = .ok (.aload_n 0, 1) := by decide +kernel
theorem dX10_floats_5 : decode cX10_floats 5 = .ok (.bipush 10, 2) := by decide +kernel
theorem dX10_floats_7 : decode cX10_floats 7 = .ok (.invokevirtual 280, 3) := by decide +kernel
theorem dX10_floats_10 : decode cX10_floats 10 = .ok (.iload_n 2, 1) := by decide +kernel
theorem dX10_floats_11 : decode cX10_floats 11 = .ok (.aload_n 0, 1) := by decide +kernel
theorem dX10_floats_12 : decode cX10_floats 12 = .ok (.getfield 283, 3) := by decide +kernel
theorem dX10_floats_15 : decode cX10_floats 15 = .ok (.iadd, 1) := by decide +kernel
theorem dX10_floats_16 : decode cX10_floats 16 = .ok (.ireturn, 1) := by decide +kernel
theorem dX10_floats_17 : decode cX10_floats 17 = .ok (.iload_n 1, 1) := by decide +kernel
theorem dX10_floats_18 : decode cX10_floats 18 = .ok (.iconst 3, 1) := by decide +kernel
theorem dX10_floats_19 : decode cX10_floats 19 = .ok (.if_icmp .eq 13, 3) := by decide +kernel
theorem dX10_floats_22 : decode cX10_floats 22 = .ok (.aload_n 0, 1) := by decide +kernel
theorem dX10_floats_23 : decode cX10_floats 23 = .ok (.iload_n 1, 1) := by decide +kernel
theorem dX10_floats_24 : decode cX10_floats 24 = .ok (.invokestatic 286, 3) := by decide +kernel
theorem dX10_floats_27 : decode cX10_floats 27 = .ok (.iload_n 2, 1) := by decide +kernel
theorem dX10_floats_28 : decode cX10_floats 28 = .ok (.invokevirtual 289, 3) := by decide +kernel
theorem dX10_floats_31 : decode cX10_floats 31 = .ok (.ireturn, 1) := by decide +kernel
theorem dX10_floats_32 : decode cX10_floats 32 = .ok (.aload_n 0, 1) := by decide +kernel
theorem dX10_floats_33 : decode cX10_floats 33 = .ok (.bipush 40, 2) := by decide +kernel
theorem dX10_floats_35 : decode cX10_floats 35 = .ok (.invokevirtual 280, 3) := by decide +kernel
theorem dX10_floats_38 : decode cX10_floats 38 = .ok (.aload_n 0, 1) := by decide +kernel
theorem dX10_floats_39 : decode cX10_floats 39 = .ok (.iconst 0, 1) := by decide +kernel
theorem dX10_floats_40 : decode cX10_floats 40 = .ok (.iload_n 2, 1) := by decide +kernel
theorem dX10_floats_41 : decode cX10_floats 41 = .ok (.invokevirtual 289, 3) := by decide +kernel
theorem dX10_floats_44 : decode cX10_floats 44 = .ok (.iconst 3, 1) := by decide +kernel
theorem dX10_floats_45 : decode cX10_floats 45 = .ok (.imul, 1) := by decide +kernel
theorem dX10_floats_46 : decode cX10_floats 46 = .ok (.ireturn, 1) := by decide +kernel
theorem dX10_falls_0 : decode cX10_falls 0 = .ok (.iload_n 1, 1) := by decide +kernel
theorem dX10_falls_1 : decode cX10_falls 1 = .ok (.lookupswitch 93 #[(0, 35), (1, 53), (6, 78)], 35) := by decide +kernel
theorem dX10_falls_36 : decode cX10_falls 36 = .ok (.aload_n 0, 1) := by decide +kernel
theorem dX10_falls_37 : decode cX10_falls 37 = .ok (.bipush 11, 2) := by decide +kernel
theorem dX10_falls_39 : decode cX10_falls 39 = .ok (.invokevirtual 280, 3) := by decide +kernel
theorem dX10_falls_42 : decode cX10_falls 42 = .ok (.aload_n 0, 1) := by decide +kernel
theorem dX10_falls_43 : decode cX10_falls 43 = .ok (.aload_n 0, 1) := by decide +kernel
theorem dX10_falls_44 : decode cX10_falls 44 = .ok (.getfield 292, 3) := by decide +kernel
theorem dX10_falls_47 : decode cX10_falls 47 = .ok (.iload_n 2, 1) := by decide +kernel
theorem dX10_falls_48 : decode cX10_falls 48 = .ok (.invokevirtual 289, 3) := by decide +kernel
theorem dX10_falls_51 : decode cX10_falls 51 = .ok (.iconst 2, 1) := by decide +kernel
theorem dX10_falls_52 : decode cX10_falls 52 = .ok (.imul, 1) := by decide +kernel
theorem dX10_falls_53 : decode cX10_falls 53 = .ok (.ireturn, 1) := by decide +kernel
theorem dX10_falls_54 : decode cX10_falls 54 = .ok (.aload_n 0, 1) := by decide +kernel
theorem dX10_falls_55 : decode cX10_falls 55 = .ok (.bipush 20, 2) := by decide +kernel
theorem dX10_falls_57 : decode cX10_falls 57 = .ok (.invokevirtual 280, 3) := by decide +kernel
theorem dX10_falls_60 : decode cX10_falls 60 = .ok (.aload_n 0, 1) := by decide +kernel
theorem dX10_falls_61 : decode cX10_falls 61 = .ok (.iconst 0, 1) := by decide +kernel
theorem dX10_falls_62 : decode cX10_falls 62 = .ok (.iload_n 2, 1) := by decide +kernel
theorem dX10_falls_63 : decode cX10_falls 63 = .ok (.invokevirtual 295, 3) := by decide +kernel
theorem dX10_falls_66 : decode cX10_falls 66 = .ok (.istore_n 3, 1) := by decide +kernel
theorem dX10_falls_67 : decode cX10_falls 67 = .ok (.iload_n 3, 1) := by decide +kernel
theorem dX10_falls_68 : decode cX10_falls 68 = .ok (.aload_n 0, 1) := by decide +kernel
theorem dX10_falls_69 : decode cX10_falls 69 = .ok (.aload_n 0, 1) := by decide +kernel
theorem dX10_falls_70 : decode cX10_falls 70 = .ok (.getfield 292, 3) := by decide +kernel
theorem dX10_falls_73 : decode cX10_falls 73 = .ok (.iconst 1, 1) := by decide +kernel
theorem dX10_falls_74 : decode cX10_falls 74 = .ok (.invokevirtual 298, 3) := by decide +kernel
theorem dX10_falls_77 : decode cX10_falls 77 = .ok (.isub, 1) := by decide +kernel
theorem dX10_falls_78 : decode cX10_falls 78 = .ok (.ireturn, 1) := by decide +kernel
theorem dX10_falls_79 : decode cX10_falls 79 = .ok (.aload_n 0, 1) := by decide +kernel
theorem dX10_falls_80 : decode cX10_falls 80 = .ok (.bipush 70, 2) := by decide +kernel
theorem dX10_falls_82 : decode cX10_falls 82 = .ok (.invokevirtual 280, 3) := by decide +kernel
theorem dX10_falls_85 : decode cX10_falls 85 = .ok (.aload_n 0, 1) := by decide +kernel
theorem dX10_falls_86 : decode cX10_falls 86 = .ok (.iconst 1, 1) := by decide +kernel
theorem dX10_falls_87 : decode cX10_falls 87 = .ok (.iload_n 2, 1) := by decide +kernel
theorem dX10_falls_88 : decode cX10_falls 88 = .ok (.iconst 1, 1) := by decide +kernel
theorem dX10_falls_89 : decode cX10_falls 89 = .ok (.iadd, 1) := by decide +kernel
theorem dX10_falls_90 : decode cX10_falls 90 = .ok (.invokevirtual 295, 3) := by decide +kernel
theorem dX10_falls_93 : decode cX10_falls 93 = .ok (.ireturn, 1) := by decide +kernel
theorem dX10_falls_94 : decode cX10_falls 94 = .ok (.aload_n 0, 1) := by decide +kernel
theorem dX10_falls_95 : decode cX10_falls 95 = .ok (.iload_n 1, 1) := by decide +kernel
theorem dX10_falls_96 : decode cX10_falls 96 = .ok (.invokestatic 286, 3) := by decide +kernel
theorem dX10_falls_99 : decode cX10_falls 99 = .ok (.iload_n 2, 1) := by decide +kernel
theorem dX10_falls_100 : decode cX10_falls 100 = .ok (.invokevirtual 295, 3) := by decide +kernel
theorem dX10_falls_103 : decode cX10_falls 103 = .ok (.ireturn, 1) := by decide +kernel
theorem dX10_hangs_0 : decode cX10_hangs 0 = .ok (.iload_n 1, 1) := by decide +kernel
theorem dX10_hangs_1 : decode cX10_hangs 1 = .ok (.tableswitch 80 0 4 #[35, 80, 48, 80, 62], 35) := by decide +kernel
theorem dX10_hangs_36 : decode cX10_hangs 36 = .ok (.aload_n 0, 1) := by decide +kernel
theorem dX10_hangs_37 : decode cX10_hangs 37 = .ok (.bipush 12, 2) := by decide +kernel
theorem dX10_hangs_39 : decode cX10_hangs 39 = .ok (.invokevirtual 280, 3) := by decide +kernel
theorem dX10_hangs_42 : decode cX10_hangs 42 = .ok (.iload_n 2, 1) := by decide +kernel
theorem dX10_hangs_43 : decode cX10_hangs 43 = .ok (.aload_n 0, 1) := by decide +kernel
theorem dX10_hangs_44 : decode cX10_hangs 44 = .ok (.getfield 301, 3) := by decide +kernel
theorem dX10_hangs_47 : decode cX10_hangs 47 = .ok (.isub, 1) := by decide +kernel
theorem dX10_hangs_48 : decode cX10_hangs 48 = .ok (.ireturn, 1) := by decide +kernel
theorem dX10_hangs_49 : decode cX10_hangs 49 = .ok (.aload_n 0, 1) := by decide +kernel
theorem dX10_hangs_50 : decode cX10_hangs 50 = .ok (.bipush 30, 2) := by decide +kernel
theorem dX10_hangs_52 : decode cX10_hangs 52 = .ok (.invokevirtual 280, 3) := by decide +kernel
theorem dX10_hangs_55 : decode cX10_hangs 55 = .ok (.aload_n 0, 1) := by decide +kernel
theorem dX10_hangs_56 : decode cX10_hangs 56 = .ok (.iconst 0, 1) := by decide +kernel
theorem dX10_hangs_57 : decode cX10_hangs 57 = .ok (.iload_n 2, 1) := by decide +kernel
theorem dX10_hangs_58 : decode cX10_hangs 58 = .ok (.invokevirtual 298, 3) := by decide +kernel
theorem dX10_hangs_61 : decode cX10_hangs 61 = .ok (.ineg, 1) := by decide +kernel
theorem dX10_hangs_62 : decode cX10_hangs 62 = .ok (.ireturn, 1) := by decide +kernel
theorem dX10_hangs_63 : decode cX10_hangs 63 = .ok (.aload_n 0, 1) := by decide +kernel
theorem dX10_hangs_64 : decode cX10_hangs 64 = .ok (.bipush 50, 2) := by decide +kernel
theorem dX10_hangs_66 : decode cX10_hangs 66 = .ok (.invokevirtual 280, 3) := by decide +kernel
theorem dX10_hangs_69 : decode cX10_hangs 69 = .ok (.aload_n 0, 1) := by decide +kernel
theorem dX10_hangs_70 : decode cX10_hangs 70 = .ok (.iconst 2, 1) := by decide +kernel
theorem dX10_hangs_71 : decode cX10_hangs 71 = .ok (.iload_n 2, 1) := by decide +kernel
theorem dX10_hangs_72 : decode cX10_hangs 72 = .ok (.invokevirtual 298, 3) := by decide +kernel
theorem dX10_hangs_75 : decode cX10_hangs 75 = .ok (.aload_n 0, 1) := by decide +kernel
theorem dX10_hangs_76 : decode cX10_hangs 76 = .ok (.getfield 283, 3) := by decide +kernel
theorem dX10_hangs_79 : decode cX10_hangs 79 = .ok (.ixor, 1) := by decide +kernel
theorem dX10_hangs_80 : decode cX10_hangs 80 = .ok (.ireturn, 1) := by decide +kernel
theorem dX10_hangs_81 : decode cX10_hangs 81 = .ok (.aload_n 0, 1) := by decide +kernel
theorem dX10_hangs_82 : decode cX10_hangs 82 = .ok (.iload_n 1, 1) := by decide +kernel
theorem dX10_hangs_83 : decode cX10_hangs 83 = .ok (.invokestatic 286, 3) := by decide +kernel
theorem dX10_hangs_86 : decode cX10_hangs 86 = .ok (.iload_n 2, 1) := by decide +kernel
theorem dX10_hangs_87 : decode cX10_hangs 87 = .ok (.invokevirtual 298, 3) := by decide +kernel
theorem dX10_hangs_90 : decode cX10_hangs 90 = .ok (.ireturn, 1) := by decide +kernel
theorem dX10_tells_0 : decode cX10_tells 0 = .ok (.iload_n 1, 1) := by decide +kernel
theorem dX10_tells_1 : decode cX10_tells 1 = .ok (.lookupswitch 113 #[(0, 35), (4, 63), (5, 88)], 35) := by decide +kernel
theorem dX10_tells_36 : decode cX10_tells 36 = .ok (.aload_n 0, 1) := by decide +kernel
theorem dX10_tells_37 : decode cX10_tells 37 = .ok (.bipush 13, 2) := by decide +kernel
theorem dX10_tells_39 : decode cX10_tells 39 = .ok (.invokevirtual 280, 3) := by decide +kernel
theorem dX10_tells_42 : decode cX10_tells 42 = .ok (.aload_n 0, 1) := by decide +kernel
theorem dX10_tells_43 : decode cX10_tells 43 = .ok (.aload_n 0, 1) := by decide +kernel
theorem dX10_tells_44 : decode cX10_tells 44 = .ok (.getfield 292, 3) := by decide +kernel
theorem dX10_tells_47 : decode cX10_tells 47 = .ok (.iload_n 2, 1) := by decide +kernel
theorem dX10_tells_48 : decode cX10_tells 48 = .ok (.invokevirtual 295, 3) := by decide +kernel
theorem dX10_tells_51 : decode cX10_tells 51 = .ok (.istore_n 3, 1) := by decide +kernel
theorem dX10_tells_52 : decode cX10_tells 52 = .ok (.iload_n 3, 1) := by decide +kernel
theorem dX10_tells_53 : decode cX10_tells 53 = .ok (.aload_n 0, 1) := by decide +kernel
theorem dX10_tells_54 : decode cX10_tells 54 = .ok (.aload_n 0, 1) := by decide +kernel
theorem dX10_tells_55 : decode cX10_tells 55 = .ok (.getfield 292, 3) := by decide +kernel
theorem dX10_tells_58 : decode cX10_tells 58 = .ok (.iload_n 2, 1) := by decide +kernel
theorem dX10_tells_59 : decode cX10_tells 59 = .ok (.invokevirtual 298, 3) := by decide +kernel
theorem dX10_tells_62 : decode cX10_tells 62 = .ok (.ixor, 1) := by decide +kernel
theorem dX10_tells_63 : decode cX10_tells 63 = .ok (.ireturn, 1) := by decide +kernel
theorem dX10_tells_64 : decode cX10_tells 64 = .ok (.aload_n 0, 1) := by decide +kernel
theorem dX10_tells_65 : decode cX10_tells 65 = .ok (.bipush 51, 2) := by decide +kernel
theorem dX10_tells_67 : decode cX10_tells 67 = .ok (.invokevirtual 280, 3) := by decide +kernel
theorem dX10_tells_70 : decode cX10_tells 70 = .ok (.aload_n 0, 1) := by decide +kernel
theorem dX10_tells_71 : decode cX10_tells 71 = .ok (.aload_n 0, 1) := by decide +kernel
theorem dX10_tells_72 : decode cX10_tells 72 = .ok (.getfield 292, 3) := by decide +kernel
theorem dX10_tells_75 : decode cX10_tells 75 = .ok (.iload_n 2, 1) := by decide +kernel
theorem dX10_tells_76 : decode cX10_tells 76 = .ok (.invokevirtual 295, 3) := by decide +kernel
theorem dX10_tells_79 : decode cX10_tells 79 = .ok (.istore_n 3, 1) := by decide +kernel
theorem dX10_tells_80 : decode cX10_tells 80 = .ok (.iload_n 3, 1) := by decide +kernel
theorem dX10_tells_81 : decode cX10_tells 81 = .ok (.aload_n 0, 1) := by decide +kernel
theorem dX10_tells_82 : decode cX10_tells 82 = .ok (.iconst 2, 1) := by decide +kernel
theorem dX10_tells_83 : decode cX10_tells 83 = .ok (.iload_n 2, 1) := by decide +kernel
theorem dX10_tells_84 : decode cX10_tells 84 = .ok (.invokevirtual 304, 3) := by decide +kernel
theorem dX10_tells_87 : decode cX10_tells 87 = .ok (.isub, 1) := by decide +kernel
theorem dX10_tells_88 : decode cX10_tells 88 = .ok (.ireturn, 1) := by decide +kernel
theorem dX10_tells_89 : decode cX10_tells 89 = .ok (.aload_n 0, 1) := by decide +kernel
theorem dX10_tells_90 : decode cX10_tells 90 = .ok (.bipush 60, 2) := by decide +kernel
theorem dX10_tells_92 : decode cX10_tells 92 = .ok (.invokevirtual 280, 3) := by decide +kernel
theorem dX10_tells_95 : decode cX10_tells 95 = .ok (.aload_n 0, 1) := by decide +kernel
theorem dX10_tells_96 : decode cX10_tells 96 = .ok (.iconst 3, 1) := by decide +kernel
theorem dX10_tells_97 : decode cX10_tells 97 = .ok (.iload_n 2, 1) := by decide +kernel
theorem dX10_tells_98 : decode cX10_tells 98 = .ok (.invokevirtual 304, 3) := by decide +kernel
theorem dX10_tells_101 : decode cX10_tells 101 = .ok (.istore_n 3, 1) := by decide +kernel
theorem dX10_tells_102 : decode cX10_tells 102 = .ok (.iload_n 3, 1) := by decide +kernel
theorem dX10_tells_103 : decode cX10_tells 103 = .ok (.aload_n 0, 1) := by decide +kernel
theorem dX10_tells_104 : decode cX10_tells 104 = .ok (.aload_n 0, 1) := by decide +kernel
theorem dX10_tells_105 : decode cX10_tells 105 = .ok (.getfield 292, 3) := by decide +kernel
theorem dX10_tells_108 : decode cX10_tells 108 = .ok (.iconst 2, 1) := by decide +kernel
theorem dX10_tells_109 : decode cX10_tells 109 = .ok (.invokevirtual 289, 3) := by decide +kernel
theorem dX10_tells_112 : decode cX10_tells 112 = .ok (.isub, 1) := by decide +kernel
theorem dX10_tells_113 : decode cX10_tells 113 = .ok (.ireturn, 1) := by decide +kernel
theorem dX10_tells_114 : decode cX10_tells 114 = .ok (.aload_n 0, 1) := by decide +kernel
theorem dX10_tells_115 : decode cX10_tells 115 = .ok (.iload_n 1, 1) := by decide +kernel
theorem dX10_tells_116 : decode cX10_tells 116 = .ok (.invokestatic 286, 3) := by decide +kernel
theorem dX10_tells_119 : decode cX10_tells 119 = .ok (.iload_n 2, 1) := by decide +kernel
theorem dX10_tells_120 : decode cX10_tells 120 = .ok (.invokevirtual 304, 3) := by decide +kernel
theorem dX10_tells_123 : decode cX10_tells 123 = .ok (.ireturn, 1) := by decide +kernel
theorem dX10_voice_0 : decode cX10_voice 0 = .ok (.aload_n 0, 1) := by decide +kernel
theorem dX10_voice_1 : decode cX10_voice 1 = .ok (.iload_n 1, 1) := by decide +kernel
theorem dX10_voice_2 : decode cX10_voice 2 = .ok (.invokevirtual 87, 3) := by decide +kernel
theorem dX10_voice_5 : decode cX10_voice 5 = .ok (.ifCond .eq 15, 3) := by decide +kernel
theorem dX10_voice_8 : decode cX10_voice 8 = .ok (.iload_n 2, 1) := by decide +kernel
theorem dX10_voice_9 : decode cX10_voice 9 = .ok (.i2l, 1) := by decide +kernel
theorem dX10_voice_10 : decode cX10_voice 10 = .ok (.lconst 0, 1) := by decide +kernel
theorem dX10_voice_11 : decode cX10_voice 11 = .ok (.ldc2_w 264, 3) := by decide +kernel
theorem dX10_voice_14 : decode cX10_voice 14 = .ok (.invokestatic 53, 3) := by decide +kernel
theorem dX10_voice_17 : decode cX10_voice 17 = .ok (.ifCond .ne 9, 3) := by decide +kernel
theorem dX10_voice_20 : decode cX10_voice 20 = .ok (.aload_n 0, 1) := by decide +kernel
theorem dX10_voice_21 : decode cX10_voice 21 = .ok (.iconst 1, 1) := by decide +kernel
theorem dX10_voice_22 : decode cX10_voice 22 = .ok (.invokevirtual 79, 3) := by decide +kernel
theorem dX10_voice_25 : decode cX10_voice 25 = .ok (.ireturn, 1) := by decide +kernel
theorem dX10_voice_26 : decode cX10_voice 26 = .ok (.aload_n 0, 1) := by decide +kernel
theorem dX10_voice_27 : decode cX10_voice 27 = .ok (.iconst 0, 1) := by decide +kernel
theorem dX10_voice_28 : decode cX10_voice 28 = .ok (.putfield 277, 3) := by decide +kernel
theorem dX10_voice_31 : decode cX10_voice 31 = .ok (.aload_n 0, 1) := by decide +kernel
theorem dX10_voice_32 : decode cX10_voice 32 = .ok (.iload_n 1, 1) := by decide +kernel
theorem dX10_voice_33 : decode cX10_voice 33 = .ok (.putfield 283, 3) := by decide +kernel
theorem dX10_voice_36 : decode cX10_voice 36 = .ok (.aload_n 0, 1) := by decide +kernel
theorem dX10_voice_37 : decode cX10_voice 37 = .ok (.aload_n 0, 1) := by decide +kernel
theorem dX10_voice_38 : decode cX10_voice 38 = .ok (.iload_n 1, 1) := by decide +kernel
theorem dX10_voice_39 : decode cX10_voice 39 = .ok (.iconst 0, 1) := by decide +kernel
theorem dX10_voice_40 : decode cX10_voice 40 = .ok (.invokevirtual 61, 3) := by decide +kernel
theorem dX10_voice_43 : decode cX10_voice 43 = .ok (.putfield 292, 3) := by decide +kernel
theorem dX10_voice_46 : decode cX10_voice 46 = .ok (.aload_n 0, 1) := by decide +kernel
theorem dX10_voice_47 : decode cX10_voice 47 = .ok (.aload_n 0, 1) := by decide +kernel
theorem dX10_voice_48 : decode cX10_voice 48 = .ok (.iload_n 1, 1) := by decide +kernel
theorem dX10_voice_49 : decode cX10_voice 49 = .ok (.iconst 1, 1) := by decide +kernel
theorem dX10_voice_50 : decode cX10_voice 50 = .ok (.invokevirtual 61, 3) := by decide +kernel
theorem dX10_voice_53 : decode cX10_voice 53 = .ok (.putfield 301, 3) := by decide +kernel
theorem dX10_voice_56 : decode cX10_voice 56 = .ok (.iload_n 2, 1) := by decide +kernel
theorem dX10_voice_57 : decode cX10_voice 57 = .ok (.ifCond .ne 15, 3) := by decide +kernel
theorem dX10_voice_60 : decode cX10_voice 60 = .ok (.aload_n 0, 1) := by decide +kernel
theorem dX10_voice_61 : decode cX10_voice 61 = .ok (.aload_n 0, 1) := by decide +kernel
theorem dX10_voice_62 : decode cX10_voice 62 = .ok (.getfield 292, 3) := by decide +kernel
theorem dX10_voice_65 : decode cX10_voice 65 = .ok (.iload_n 3, 1) := by decide +kernel
theorem dX10_voice_66 : decode cX10_voice 66 = .ok (.invokevirtual 289, 3) := by decide +kernel
theorem dX10_voice_69 : decode cX10_voice 69 = .ok (.goto 46, 3) := by decide +kernel
theorem dX10_voice_72 : decode cX10_voice 72 = .ok (.iload_n 2, 1) := by decide +kernel
theorem dX10_voice_73 : decode cX10_voice 73 = .ok (.iconst 1, 1) := by decide +kernel
theorem dX10_voice_74 : decode cX10_voice 74 = .ok (.if_icmp .ne 15, 3) := by decide +kernel
theorem dX10_voice_77 : decode cX10_voice 77 = .ok (.aload_n 0, 1) := by decide +kernel
theorem dX10_voice_78 : decode cX10_voice 78 = .ok (.aload_n 0, 1) := by decide +kernel
theorem dX10_voice_79 : decode cX10_voice 79 = .ok (.getfield 292, 3) := by decide +kernel
theorem dX10_voice_82 : decode cX10_voice 82 = .ok (.iload_n 3, 1) := by decide +kernel
theorem dX10_voice_83 : decode cX10_voice 83 = .ok (.invokevirtual 295, 3) := by decide +kernel
theorem dX10_voice_86 : decode cX10_voice 86 = .ok (.goto 29, 3) := by decide +kernel
theorem dX10_voice_89 : decode cX10_voice 89 = .ok (.iload_n 2, 1) := by decide +kernel
theorem dX10_voice_90 : decode cX10_voice 90 = .ok (.iconst 2, 1) := by decide +kernel
theorem dX10_voice_91 : decode cX10_voice 91 = .ok (.if_icmp .ne 15, 3) := by decide +kernel
theorem dX10_voice_94 : decode cX10_voice 94 = .ok (.aload_n 0, 1) := by decide +kernel
theorem dX10_voice_95 : decode cX10_voice 95 = .ok (.aload_n 0, 1) := by decide +kernel
theorem dX10_voice_96 : decode cX10_voice 96 = .ok (.getfield 292, 3) := by decide +kernel
theorem dX10_voice_99 : decode cX10_voice 99 = .ok (.iload_n 3, 1) := by decide +kernel
theorem dX10_voice_100 : decode cX10_voice 100 = .ok (.invokevirtual 298, 3) := by decide +kernel
theorem dX10_voice_103 : decode cX10_voice 103 = .ok (.goto 12, 3) := by decide +kernel
theorem dX10_voice_106 : decode cX10_voice 106 = .ok (.aload_n 0, 1) := by decide +kernel
theorem dX10_voice_107 : decode cX10_voice 107 = .ok (.aload_n 0, 1) := by decide +kernel
theorem dX10_voice_108 : decode cX10_voice 108 = .ok (.getfield 292, 3) := by decide +kernel
theorem dX10_voice_111 : decode cX10_voice 111 = .ok (.iload_n 3, 1) := by decide +kernel
theorem dX10_voice_112 : decode cX10_voice 112 = .ok (.invokevirtual 304, 3) := by decide +kernel
theorem dX10_voice_115 : decode cX10_voice 115 = .ok (.ireturn, 1) := by decide +kernel
theorem dX10_trace_0 : decode cX10_trace 0 = .ok (.iload_n 1, 1) := by decide +kernel
theorem dX10_trace_1 : decode cX10_trace 1 = .ok (.i2l, 1) := by decide +kernel
theorem dX10_trace_2 : decode cX10_trace 2 = .ok (.lconst 0, 1) := by decide +kernel
theorem dX10_trace_3 : decode cX10_trace 3 = .ok (.aload_n 0, 1) := by decide +kernel
theorem dX10_trace_4 : decode cX10_trace 4 = .ok (.getfield 277, 3) := by decide +kernel
theorem dX10_trace_7 : decode cX10_trace 7 = .ok (.iconst 1, 1) := by decide +kernel
theorem dX10_trace_8 : decode cX10_trace 8 = .ok (.isub, 1) := by decide +kernel
theorem dX10_trace_9 : decode cX10_trace 9 = .ok (.i2l, 1) := by decide +kernel
theorem dX10_trace_10 : decode cX10_trace 10 = .ok (.invokestatic 53, 3) := by decide +kernel
theorem dX10_trace_13 : decode cX10_trace 13 = .ok (.ifCond .eq 12, 3) := by decide +kernel
theorem dX10_trace_16 : decode cX10_trace 16 = .ok (.aload_n 0, 1) := by decide +kernel
theorem dX10_trace_17 : decode cX10_trace 17 = .ok (.getfield 46, 3) := by decide +kernel
theorem dX10_trace_20 : decode cX10_trace 20 = .ok (.iload_n 1, 1) := by decide +kernel
theorem dX10_trace_21 : decode cX10_trace 21 = .ok (.iaload, 1) := by decide +kernel
theorem dX10_trace_22 : decode cX10_trace 22 = .ok (.goto 8, 3) := by decide +kernel
theorem dX10_trace_25 : decode cX10_trace 25 = .ok (.aload_n 0, 1) := by decide +kernel
theorem dX10_trace_26 : decode cX10_trace 26 = .ok (.iconst 2, 1) := by decide +kernel
theorem dX10_trace_27 : decode cX10_trace 27 = .ok (.invokevirtual 79, 3) := by decide +kernel
theorem dX10_trace_30 : decode cX10_trace 30 = .ok (.ireturn, 1) := by decide +kernel
theorem dX10_sheet_0 : decode cX10_sheet 0 = .ok (.iload_n 1, 1) := by decide +kernel
theorem dX10_sheet_1 : decode cX10_sheet 1 = .ok (.invokestatic 266, 3) := by decide +kernel
theorem dX10_sheet_4 : decode cX10_sheet 4 = .ok (.ifCond .eq 25, 3) := by decide +kernel
theorem dX10_sheet_7 : decode cX10_sheet 7 = .ok (.iload_n 2, 1) := by decide +kernel
theorem dX10_sheet_8 : decode cX10_sheet 8 = .ok (.ifCond .eq 27, 3) := by decide +kernel
theorem dX10_sheet_11 : decode cX10_sheet 11 = .ok (.iload_n 2, 1) := by decide +kernel
theorem dX10_sheet_12 : decode cX10_sheet 12 = .ok (.bipush 8, 2) := by decide +kernel
theorem dX10_sheet_14 : decode cX10_sheet 14 = .ok (.if_icmp .eq 21, 3) := by decide +kernel
theorem dX10_sheet_17 : decode cX10_sheet 17 = .ok (.iload_n 2, 1) := by decide +kernel
theorem dX10_sheet_18 : decode cX10_sheet 18 = .ok (.bipush 16, 2) := by decide +kernel
theorem dX10_sheet_20 : decode cX10_sheet 20 = .ok (.if_icmp .eq 15, 3) := by decide +kernel
theorem dX10_sheet_23 : decode cX10_sheet 23 = .ok (.iload_n 2, 1) := by decide +kernel
theorem dX10_sheet_24 : decode cX10_sheet 24 = .ok (.bipush 32, 2) := by decide +kernel
theorem dX10_sheet_26 : decode cX10_sheet 26 = .ok (.if_icmp .eq 9, 3) := by decide +kernel
theorem dX10_sheet_29 : decode cX10_sheet 29 = .ok (.aload_n 0, 1) := by decide +kernel
theorem dX10_sheet_30 : decode cX10_sheet 30 = .ok (.iconst 1, 1) := by decide +kernel
theorem dX10_sheet_31 : decode cX10_sheet 31 = .ok (.invokevirtual 79, 3) := by decide +kernel
theorem dX10_sheet_34 : decode cX10_sheet 34 = .ok (.ireturn, 1) := by decide +kernel
theorem dX10_sheet_35 : decode cX10_sheet 35 = .ok (.iload_n 2, 1) := by decide +kernel
theorem dX10_sheet_36 : decode cX10_sheet 36 = .ok (.ifCond .eq 29, 3) := by decide +kernel
theorem dX10_sheet_39 : decode cX10_sheet 39 = .ok (.iload_n 3, 1) := by decide +kernel
theorem dX10_sheet_40 : decode cX10_sheet 40 = .ok (.i2l, 1) := by decide +kernel
theorem dX10_sheet_41 : decode cX10_sheet 41 = .ok (.lconst 0, 1) := by decide +kernel
theorem dX10_sheet_42 : decode cX10_sheet 42 = .ok (.ldc2_w 77, 3) := by decide +kernel
theorem dX10_sheet_45 : decode cX10_sheet 45 = .ok (.invokestatic 53, 3) := by decide +kernel
theorem dX10_sheet_48 : decode cX10_sheet 48 = .ok (.ifCond .ne 17, 3) := by decide +kernel
theorem dX10_sheet_51 : decode cX10_sheet 51 = .ok (.aload_n 0, 1) := by decide +kernel
theorem dX10_sheet_52 : decode cX10_sheet 52 = .ok (.iload_n 3, 1) := by decide +kernel
theorem dX10_sheet_53 : decode cX10_sheet 53 = .ok (.ifCond .ge 7, 3) := by decide +kernel
theorem dX10_sheet_56 : decode cX10_sheet 56 = .ok (.iconst 3, 1) := by decide +kernel
theorem dX10_sheet_57 : decode cX10_sheet 57 = .ok (.goto 4, 3) := by decide +kernel
theorem dX10_sheet_60 : decode cX10_sheet 60 = .ok (.iconst 1, 1) := by decide +kernel
theorem dX10_sheet_61 : decode cX10_sheet 61 = .ok (.invokevirtual 79, 3) := by decide +kernel
theorem dX10_sheet_64 : decode cX10_sheet 64 = .ok (.ireturn, 1) := by decide +kernel
theorem dX10_sheet_65 : decode cX10_sheet 65 = .ok (.aload_n 0, 1) := by decide +kernel
theorem dX10_sheet_66 : decode cX10_sheet 66 = .ok (.getfield 37, 3) := by decide +kernel
theorem dX10_sheet_69 : decode cX10_sheet 69 = .ok (.iload_n 1, 1) := by decide +kernel
theorem dX10_sheet_70 : decode cX10_sheet 70 = .ok (.iload_n 2, 1) := by decide +kernel
theorem dX10_sheet_71 : decode cX10_sheet 71 = .ok (.iastore, 1) := by decide +kernel
theorem dX10_sheet_72 : decode cX10_sheet 72 = .ok (.aload_n 0, 1) := by decide +kernel
theorem dX10_sheet_73 : decode cX10_sheet 73 = .ok (.getfield 40, 3) := by decide +kernel
theorem dX10_sheet_76 : decode cX10_sheet 76 = .ok (.iload_n 1, 1) := by decide +kernel
theorem dX10_sheet_77 : decode cX10_sheet 77 = .ok (.iload_n 2, 1) := by decide +kernel
theorem dX10_sheet_78 : decode cX10_sheet 78 = .ok (.ifCond .ne 7, 3) := by decide +kernel
theorem dX10_sheet_81 : decode cX10_sheet 81 = .ok (.iconst 0, 1) := by decide +kernel
theorem dX10_sheet_82 : decode cX10_sheet 82 = .ok (.goto 4, 3) := by decide +kernel
theorem dX10_sheet_85 : decode cX10_sheet 85 = .ok (.iload_n 3, 1) := by decide +kernel
theorem dX10_sheet_86 : decode cX10_sheet 86 = .ok (.iastore, 1) := by decide +kernel
theorem dX10_sheet_87 : decode cX10_sheet 87 = .ok (.iconst 0, 1) := by decide +kernel
theorem dX10_sheet_88 : decode cX10_sheet 88 = .ok (.istore 4, 2) := by decide +kernel
theorem dX10_sheet_90 : decode cX10_sheet 90 = .ok (.iload 4, 2) := by decide +kernel
theorem dX10_sheet_92 : decode cX10_sheet 92 = .ok (.bipush 40, 2) := by decide +kernel
theorem dX10_sheet_94 : decode cX10_sheet 94 = .ok (.if_icmp .ge 22, 3) := by decide +kernel
theorem dX10_sheet_97 : decode cX10_sheet 97 = .ok (.aload_n 0, 1) := by decide +kernel
theorem dX10_sheet_98 : decode cX10_sheet 98 = .ok (.getfield 43, 3) := by decide +kernel
theorem dX10_sheet_101 : decode cX10_sheet 101 = .ok (.bipush 40, 2) := by decide +kernel
theorem dX10_sheet_103 : decode cX10_sheet 103 = .ok (.iload_n 1, 1) := by decide +kernel
theorem dX10_sheet_104 : decode cX10_sheet 104 = .ok (.imul, 1) := by decide +kernel
theorem dX10_sheet_105 : decode cX10_sheet 105 = .ok (.iload 4, 2) := by decide +kernel
theorem dX10_sheet_107 : decode cX10_sheet 107 = .ok (.iadd, 1) := by decide +kernel
theorem dX10_sheet_108 : decode cX10_sheet 108 = .ok (.iconst 0, 1) := by decide +kernel
theorem dX10_sheet_109 : decode cX10_sheet 109 = .ok (.iastore, 1) := by decide +kernel
theorem dX10_sheet_110 : decode cX10_sheet 110 = .ok (.iinc 4 1, 3) := by decide +kernel
theorem dX10_sheet_113 : decode cX10_sheet 113 = .ok (.goto (-23), 3) := by decide +kernel
theorem dX10_sheet_116 : decode cX10_sheet 116 = .ok (.iconst 1, 1) := by decide +kernel
theorem dX10_sheet_117 : decode cX10_sheet 117 = .ok (.ireturn, 1) := by decide +kernel
theorem dX10_noSheet_0 : decode cX10_noSheet 0 = .ok (.iload_n 1, 1) := by decide +kernel
theorem dX10_noSheet_1 : decode cX10_noSheet 1 = .ok (.invokestatic 266, 3) := by decide +kernel
theorem dX10_noSheet_4 : decode cX10_noSheet 4 = .ok (.ifCond .ne 11, 3) := by decide +kernel
theorem dX10_noSheet_7 : decode cX10_noSheet 7 = .ok (.aload_n 0, 1) := by decide +kernel
theorem dX10_noSheet_8 : decode cX10_noSheet 8 = .ok (.iconst 1, 1) := by decide +kernel
theorem dX10_noSheet_9 : decode cX10_noSheet 9 = .ok (.invokevirtual 79, 3) := by decide +kernel
theorem dX10_noSheet_12 : decode cX10_noSheet 12 = .ok (.goto 21, 3) := by decide +kernel
theorem dX10_noSheet_15 : decode cX10_noSheet 15 = .ok (.aload_n 0, 1) := by decide +kernel
theorem dX10_noSheet_16 : decode cX10_noSheet 16 = .ok (.getfield 37, 3) := by decide +kernel
theorem dX10_noSheet_19 : decode cX10_noSheet 19 = .ok (.iload_n 1, 1) := by decide +kernel
theorem dX10_noSheet_20 : decode cX10_noSheet 20 = .ok (.iaload, 1) := by decide +kernel
theorem dX10_noSheet_21 : decode cX10_noSheet 21 = .ok (.ifCond .ne 11, 3) := by decide +kernel
theorem dX10_noSheet_24 : decode cX10_noSheet 24 = .ok (.aload_n 0, 1) := by decide +kernel
theorem dX10_noSheet_25 : decode cX10_noSheet 25 = .ok (.iconst 2, 1) := by decide +kernel
theorem dX10_noSheet_26 : decode cX10_noSheet 26 = .ok (.invokevirtual 79, 3) := by decide +kernel
theorem dX10_noSheet_29 : decode cX10_noSheet 29 = .ok (.goto 4, 3) := by decide +kernel
theorem dX10_noSheet_32 : decode cX10_noSheet 32 = .ok (.iconst 0, 1) := by decide +kernel
theorem dX10_noSheet_33 : decode cX10_noSheet 33 = .ok (.ireturn, 1) := by decide +kernel
theorem dX10_put_0 : decode cX10_put 0 = .ok (.aload_n 0, 1) := by decide +kernel
theorem dX10_put_1 : decode cX10_put 1 = .ok (.iload_n 1, 1) := by decide +kernel
theorem dX10_put_2 : decode cX10_put 2 = .ok (.invokevirtual 307, 3) := by decide +kernel
theorem dX10_put_5 : decode cX10_put 5 = .ok (.istore 4, 2) := by decide +kernel
theorem dX10_put_7 : decode cX10_put 7 = .ok (.iload 4, 2) := by decide +kernel
theorem dX10_put_9 : decode cX10_put 9 = .ok (.ifCond .eq 6, 3) := by decide +kernel
theorem dX10_put_12 : decode cX10_put 12 = .ok (.iload 4, 2) := by decide +kernel
theorem dX10_put_14 : decode cX10_put 14 = .ok (.ireturn, 1) := by decide +kernel
theorem dX10_put_15 : decode cX10_put 15 = .ok (.iload_n 2, 1) := by decide +kernel
theorem dX10_put_16 : decode cX10_put 16 = .ok (.i2l, 1) := by decide +kernel
theorem dX10_put_17 : decode cX10_put 17 = .ok (.lconst 0, 1) := by decide +kernel
theorem dX10_put_18 : decode cX10_put 18 = .ok (.aload_n 0, 1) := by decide +kernel
theorem dX10_put_19 : decode cX10_put 19 = .ok (.getfield 40, 3) := by decide +kernel
theorem dX10_put_22 : decode cX10_put 22 = .ok (.iload_n 1, 1) := by decide +kernel
theorem dX10_put_23 : decode cX10_put 23 = .ok (.iaload, 1) := by decide +kernel
theorem dX10_put_24 : decode cX10_put 24 = .ok (.iconst 1, 1) := by decide +kernel
theorem dX10_put_25 : decode cX10_put 25 = .ok (.isub, 1) := by decide +kernel
theorem dX10_put_26 : decode cX10_put 26 = .ok (.i2l, 1) := by decide +kernel
theorem dX10_put_27 : decode cX10_put 27 = .ok (.invokestatic 53, 3) := by decide +kernel
theorem dX10_put_30 : decode cX10_put 30 = .ok (.ifCond .ne 9, 3) := by decide +kernel
theorem dX10_put_33 : decode cX10_put 33 = .ok (.aload_n 0, 1) := by decide +kernel
theorem dX10_put_34 : decode cX10_put 34 = .ok (.iconst 1, 1) := by decide +kernel
theorem dX10_put_35 : decode cX10_put 35 = .ok (.invokevirtual 79, 3) := by decide +kernel
theorem dX10_put_38 : decode cX10_put 38 = .ok (.ireturn, 1) := by decide +kernel
theorem dX10_put_39 : decode cX10_put 39 = .ok (.aload_n 0, 1) := by decide +kernel
theorem dX10_put_40 : decode cX10_put 40 = .ok (.getfield 43, 3) := by decide +kernel
theorem dX10_put_43 : decode cX10_put 43 = .ok (.bipush 40, 2) := by decide +kernel
theorem dX10_put_45 : decode cX10_put 45 = .ok (.iload_n 1, 1) := by decide +kernel
theorem dX10_put_46 : decode cX10_put 46 = .ok (.imul, 1) := by decide +kernel
theorem dX10_put_47 : decode cX10_put 47 = .ok (.iload_n 2, 1) := by decide +kernel
theorem dX10_put_48 : decode cX10_put 48 = .ok (.iadd, 1) := by decide +kernel
theorem dX10_put_49 : decode cX10_put 49 = .ok (.aload_n 0, 1) := by decide +kernel
theorem dX10_put_50 : decode cX10_put 50 = .ok (.getfield 37, 3) := by decide +kernel
theorem dX10_put_53 : decode cX10_put 53 = .ok (.iload_n 1, 1) := by decide +kernel
theorem dX10_put_54 : decode cX10_put 54 = .ok (.iaload, 1) := by decide +kernel
theorem dX10_put_55 : decode cX10_put 55 = .ok (.bipush 8, 2) := by decide +kernel
theorem dX10_put_57 : decode cX10_put 57 = .ok (.if_icmp .ne 8, 3) := by decide +kernel
theorem dX10_put_60 : decode cX10_put 60 = .ok (.iload_n 3, 1) := by decide +kernel
theorem dX10_put_61 : decode cX10_put 61 = .ok (.i2b, 1) := by decide +kernel
theorem dX10_put_62 : decode cX10_put 62 = .ok (.goto 20, 3) := by decide +kernel
theorem dX10_put_65 : decode cX10_put 65 = .ok (.aload_n 0, 1) := by decide +kernel
theorem dX10_put_66 : decode cX10_put 66 = .ok (.getfield 37, 3) := by decide +kernel
theorem dX10_put_69 : decode cX10_put 69 = .ok (.iload_n 1, 1) := by decide +kernel
theorem dX10_put_70 : decode cX10_put 70 = .ok (.iaload, 1) := by decide +kernel
theorem dX10_put_71 : decode cX10_put 71 = .ok (.bipush 16, 2) := by decide +kernel
theorem dX10_put_73 : decode cX10_put 73 = .ok (.if_icmp .ne 8, 3) := by decide +kernel
theorem dX10_put_76 : decode cX10_put 76 = .ok (.iload_n 3, 1) := by decide +kernel
theorem dX10_put_77 : decode cX10_put 77 = .ok (.i2s, 1) := by decide +kernel
theorem dX10_put_78 : decode cX10_put 78 = .ok (.goto 4, 3) := by decide +kernel
theorem dX10_put_81 : decode cX10_put 81 = .ok (.iload_n 3, 1) := by decide +kernel
theorem dX10_put_82 : decode cX10_put 82 = .ok (.iastore, 1) := by decide +kernel
theorem dX10_put_83 : decode cX10_put 83 = .ok (.iconst 1, 1) := by decide +kernel
theorem dX10_put_84 : decode cX10_put 84 = .ok (.ireturn, 1) := by decide +kernel
theorem dX10_move_0 : decode cX10_move 0 = .ok (.iload_n 1, 1) := by decide +kernel
theorem dX10_move_1 : decode cX10_move 1 = .ok (.invokestatic 266, 3) := by decide +kernel
theorem dX10_move_4 : decode cX10_move 4 = .ok (.ifCond .eq 10, 3) := by decide +kernel
theorem dX10_move_7 : decode cX10_move 7 = .ok (.iload_n 3, 1) := by decide +kernel
theorem dX10_move_8 : decode cX10_move 8 = .ok (.invokestatic 266, 3) := by decide +kernel
theorem dX10_move_11 : decode cX10_move 11 = .ok (.ifCond .ne 9, 3) := by decide +kernel
theorem dX10_move_14 : decode cX10_move 14 = .ok (.aload_n 0, 1) := by decide +kernel
theorem dX10_move_15 : decode cX10_move 15 = .ok (.iconst 1, 1) := by decide +kernel
theorem dX10_move_16 : decode cX10_move 16 = .ok (.invokevirtual 79, 3) := by decide +kernel
theorem dX10_move_19 : decode cX10_move 19 = .ok (.ireturn, 1) := by decide +kernel
theorem dX10_move_20 : decode cX10_move 20 = .ok (.aload_n 0, 1) := by decide +kernel
theorem dX10_move_21 : decode cX10_move 21 = .ok (.getfield 37, 3) := by decide +kernel
theorem dX10_move_24 : decode cX10_move 24 = .ok (.iload_n 1, 1) := by decide +kernel
theorem dX10_move_25 : decode cX10_move 25 = .ok (.iaload, 1) := by decide +kernel
theorem dX10_move_26 : decode cX10_move 26 = .ok (.ifCond .eq 12, 3) := by decide +kernel
theorem dX10_move_29 : decode cX10_move 29 = .ok (.aload_n 0, 1) := by decide +kernel
theorem dX10_move_30 : decode cX10_move 30 = .ok (.getfield 37, 3) := by decide +kernel
theorem dX10_move_33 : decode cX10_move 33 = .ok (.iload_n 3, 1) := by decide +kernel
theorem dX10_move_34 : decode cX10_move 34 = .ok (.iaload, 1) := by decide +kernel
theorem dX10_move_35 : decode cX10_move 35 = .ok (.ifCond .ne 9, 3) := by decide +kernel
theorem dX10_move_38 : decode cX10_move 38 = .ok (.aload_n 0, 1) := by decide +kernel
theorem dX10_move_39 : decode cX10_move 39 = .ok (.iconst 2, 1) := by decide +kernel
theorem dX10_move_40 : decode cX10_move 40 = .ok (.invokevirtual 79, 3) := by decide +kernel
theorem dX10_move_43 : decode cX10_move 43 = .ok (.ireturn, 1) := by decide +kernel
theorem dX10_move_44 : decode cX10_move 44 = .ok (.aload_n 0, 1) := by decide +kernel
theorem dX10_move_45 : decode cX10_move 45 = .ok (.getfield 37, 3) := by decide +kernel
theorem dX10_move_48 : decode cX10_move 48 = .ok (.iload_n 1, 1) := by decide +kernel
theorem dX10_move_49 : decode cX10_move 49 = .ok (.iaload, 1) := by decide +kernel
theorem dX10_move_50 : decode cX10_move 50 = .ok (.aload_n 0, 1) := by decide +kernel
theorem dX10_move_51 : decode cX10_move 51 = .ok (.getfield 37, 3) := by decide +kernel
theorem dX10_move_54 : decode cX10_move 54 = .ok (.iload_n 3, 1) := by decide +kernel
theorem dX10_move_55 : decode cX10_move 55 = .ok (.iaload, 1) := by decide +kernel
theorem dX10_move_56 : decode cX10_move 56 = .ok (.if_icmp .eq 9, 3) := by decide +kernel
theorem dX10_move_59 : decode cX10_move 59 = .ok (.aload_n 0, 1) := by decide +kernel
theorem dX10_move_60 : decode cX10_move 60 = .ok (.iconst 5, 1) := by decide +kernel
theorem dX10_move_61 : decode cX10_move 61 = .ok (.invokevirtual 79, 3) := by decide +kernel
theorem dX10_move_64 : decode cX10_move 64 = .ok (.ireturn, 1) := by decide +kernel
theorem dX10_move_65 : decode cX10_move 65 = .ok (.iload 5, 2) := by decide +kernel
theorem dX10_move_67 : decode cX10_move 67 = .ok (.ifCond .lt 39, 3) := by decide +kernel
theorem dX10_move_70 : decode cX10_move 70 = .ok (.iload_n 2, 1) := by decide +kernel
theorem dX10_move_71 : decode cX10_move 71 = .ok (.ifCond .lt 35, 3) := by decide +kernel
theorem dX10_move_74 : decode cX10_move 74 = .ok (.iload 4, 2) := by decide +kernel
theorem dX10_move_76 : decode cX10_move 76 = .ok (.ifCond .lt 30, 3) := by decide +kernel
theorem dX10_move_79 : decode cX10_move 79 = .ok (.iload_n 2, 1) := by decide +kernel
theorem dX10_move_80 : decode cX10_move 80 = .ok (.aload_n 0, 1) := by decide +kernel
theorem dX10_move_81 : decode cX10_move 81 = .ok (.getfield 40, 3) := by decide +kernel
theorem dX10_move_84 : decode cX10_move 84 = .ok (.iload_n 1, 1) := by decide +kernel
theorem dX10_move_85 : decode cX10_move 85 = .ok (.iaload, 1) := by decide +kernel
theorem dX10_move_86 : decode cX10_move 86 = .ok (.iload 5, 2) := by decide +kernel
theorem dX10_move_88 : decode cX10_move 88 = .ok (.isub, 1) := by decide +kernel
theorem dX10_move_89 : decode cX10_move 89 = .ok (.if_icmp .gt 17, 3) := by decide +kernel
theorem dX10_move_92 : decode cX10_move 92 = .ok (.iload 4, 2) := by decide +kernel
theorem dX10_move_94 : decode cX10_move 94 = .ok (.aload_n 0, 1) := by decide +kernel
theorem dX10_move_95 : decode cX10_move 95 = .ok (.getfield 40, 3) := by decide +kernel
theorem dX10_move_98 : decode cX10_move 98 = .ok (.iload_n 3, 1) := by decide +kernel
theorem dX10_move_99 : decode cX10_move 99 = .ok (.iaload, 1) := by decide +kernel
theorem dX10_move_100 : decode cX10_move 100 = .ok (.iload 5, 2) := by decide +kernel
theorem dX10_move_102 : decode cX10_move 102 = .ok (.isub, 1) := by decide +kernel
theorem dX10_move_103 : decode cX10_move 103 = .ok (.if_icmp .le 9, 3) := by decide +kernel
theorem dX10_move_106 : decode cX10_move 106 = .ok (.aload_n 0, 1) := by decide +kernel
theorem dX10_move_107 : decode cX10_move 107 = .ok (.iconst 1, 1) := by decide +kernel
theorem dX10_move_108 : decode cX10_move 108 = .ok (.invokevirtual 79, 3) := by decide +kernel
theorem dX10_move_111 : decode cX10_move 111 = .ok (.ireturn, 1) := by decide +kernel
theorem dX10_move_112 : decode cX10_move 112 = .ok (.iconst 0, 1) := by decide +kernel
theorem dX10_move_113 : decode cX10_move 113 = .ok (.istore 6, 2) := by decide +kernel
theorem dX10_move_115 : decode cX10_move 115 = .ok (.iload 6, 2) := by decide +kernel
theorem dX10_move_117 : decode cX10_move 117 = .ok (.iload 5, 2) := by decide +kernel
theorem dX10_move_119 : decode cX10_move 119 = .ok (.if_icmp .ge 30, 3) := by decide +kernel
theorem dX10_move_122 : decode cX10_move 122 = .ok (.aload_n 0, 1) := by decide +kernel
theorem dX10_move_123 : decode cX10_move 123 = .ok (.getfield 49, 3) := by decide +kernel
theorem dX10_move_126 : decode cX10_move 126 = .ok (.iload 6, 2) := by decide +kernel
theorem dX10_move_128 : decode cX10_move 128 = .ok (.aload_n 0, 1) := by decide +kernel
theorem dX10_move_129 : decode cX10_move 129 = .ok (.getfield 43, 3) := by decide +kernel
theorem dX10_move_132 : decode cX10_move 132 = .ok (.bipush 40, 2) := by decide +kernel
theorem dX10_move_134 : decode cX10_move 134 = .ok (.iload_n 1, 1) := by decide +kernel
theorem dX10_move_135 : decode cX10_move 135 = .ok (.imul, 1) := by decide +kernel
theorem dX10_move_136 : decode cX10_move 136 = .ok (.iload_n 2, 1) := by decide +kernel
theorem dX10_move_137 : decode cX10_move 137 = .ok (.iadd, 1) := by decide +kernel
theorem dX10_move_138 : decode cX10_move 138 = .ok (.iload 6, 2) := by decide +kernel
theorem dX10_move_140 : decode cX10_move 140 = .ok (.iadd, 1) := by decide +kernel
theorem dX10_move_141 : decode cX10_move 141 = .ok (.iaload, 1) := by decide +kernel
theorem dX10_move_142 : decode cX10_move 142 = .ok (.iastore, 1) := by decide +kernel
theorem dX10_move_143 : decode cX10_move 143 = .ok (.iinc 6 1, 3) := by decide +kernel
theorem dX10_move_146 : decode cX10_move 146 = .ok (.goto (-31), 3) := by decide +kernel
theorem dX10_move_149 : decode cX10_move 149 = .ok (.iconst 0, 1) := by decide +kernel
theorem dX10_move_150 : decode cX10_move 150 = .ok (.istore 6, 2) := by decide +kernel
theorem dX10_move_152 : decode cX10_move 152 = .ok (.iload 6, 2) := by decide +kernel
theorem dX10_move_154 : decode cX10_move 154 = .ok (.iload 5, 2) := by decide +kernel
theorem dX10_move_156 : decode cX10_move 156 = .ok (.if_icmp .ge 31, 3) := by decide +kernel
theorem dX10_move_159 : decode cX10_move 159 = .ok (.aload_n 0, 1) := by decide +kernel
theorem dX10_move_160 : decode cX10_move 160 = .ok (.getfield 43, 3) := by decide +kernel
theorem dX10_move_163 : decode cX10_move 163 = .ok (.bipush 40, 2) := by decide +kernel
theorem dX10_move_165 : decode cX10_move 165 = .ok (.iload_n 3, 1) := by decide +kernel
theorem dX10_move_166 : decode cX10_move 166 = .ok (.imul, 1) := by decide +kernel
theorem dX10_move_167 : decode cX10_move 167 = .ok (.iload 4, 2) := by decide +kernel
theorem dX10_move_169 : decode cX10_move 169 = .ok (.iadd, 1) := by decide +kernel
theorem dX10_move_170 : decode cX10_move 170 = .ok (.iload 6, 2) := by decide +kernel
theorem dX10_move_172 : decode cX10_move 172 = .ok (.iadd, 1) := by decide +kernel
theorem dX10_move_173 : decode cX10_move 173 = .ok (.aload_n 0, 1) := by decide +kernel
theorem dX10_move_174 : decode cX10_move 174 = .ok (.getfield 49, 3) := by decide +kernel
theorem dX10_move_177 : decode cX10_move 177 = .ok (.iload 6, 2) := by decide +kernel
theorem dX10_move_179 : decode cX10_move 179 = .ok (.iaload, 1) := by decide +kernel
theorem dX10_move_180 : decode cX10_move 180 = .ok (.iastore, 1) := by decide +kernel
theorem dX10_move_181 : decode cX10_move 181 = .ok (.iinc 6 1, 3) := by decide +kernel
theorem dX10_move_184 : decode cX10_move 184 = .ok (.goto (-32), 3) := by decide +kernel
theorem dX10_move_187 : decode cX10_move 187 = .ok (.iload 5, 2) := by decide +kernel
theorem dX10_move_189 : decode cX10_move 189 = .ok (.ireturn, 1) := by decide +kernel
theorem dX10_pushes_0 : decode cX10_pushes 0 = .ok (.aload_n 0, 1) := by decide +kernel
theorem dX10_pushes_1 : decode cX10_pushes 1 = .ok (.iload_n 1, 1) := by decide +kernel
theorem dX10_pushes_2 : decode cX10_pushes 2 = .ok (.invokevirtual 307, 3) := by decide +kernel
theorem dX10_pushes_5 : decode cX10_pushes 5 = .ok (.istore_n 2, 1) := by decide +kernel
theorem dX10_pushes_6 : decode cX10_pushes 6 = .ok (.iload_n 2, 1) := by decide +kernel
theorem dX10_pushes_7 : decode cX10_pushes 7 = .ok (.ifCond .eq 5, 3) := by decide +kernel
theorem dX10_pushes_10 : decode cX10_pushes 10 = .ok (.iload_n 2, 1) := by decide +kernel
theorem dX10_pushes_11 : decode cX10_pushes 11 = .ok (.ireturn, 1) := by decide +kernel
theorem dX10_pushes_12 : decode cX10_pushes 12 = .ok (.iconst 0, 1) := by decide +kernel
theorem dX10_pushes_13 : decode cX10_pushes 13 = .ok (.istore_n 3, 1) := by decide +kernel
theorem dX10_pushes_14 : decode cX10_pushes 14 = .ok (.iload_n 3, 1) := by decide +kernel
theorem dX10_pushes_15 : decode cX10_pushes 15 = .ok (.aload_n 0, 1) := by decide +kernel
theorem dX10_pushes_16 : decode cX10_pushes 16 = .ok (.getfield 40, 3) := by decide +kernel
theorem dX10_pushes_19 : decode cX10_pushes 19 = .ok (.iload_n 1, 1) := by decide +kernel
theorem dX10_pushes_20 : decode cX10_pushes 20 = .ok (.iaload, 1) := by decide +kernel
theorem dX10_pushes_21 : decode cX10_pushes 21 = .ok (.if_icmp .ge 54, 3) := by decide +kernel
theorem dX10_pushes_24 : decode cX10_pushes 24 = .ok (.iload_n 3, 1) := by decide +kernel
theorem dX10_pushes_25 : decode cX10_pushes 25 = .ok (.aload_n 0, 1) := by decide +kernel
theorem dX10_pushes_26 : decode cX10_pushes 26 = .ok (.getfield 9, 3) := by decide +kernel
theorem dX10_pushes_29 : decode cX10_pushes 29 = .ok (.bipush 6, 2) := by decide +kernel
theorem dX10_pushes_31 : decode cX10_pushes 31 = .ok (.iaload, 1) := by decide +kernel
theorem dX10_pushes_32 : decode cX10_pushes 32 = .ok (.if_icmp .ge 43, 3) := by decide +kernel
theorem dX10_pushes_35 : decode cX10_pushes 35 = .ok (.aload_n 0, 1) := by decide +kernel
theorem dX10_pushes_36 : decode cX10_pushes 36 = .ok (.getfield 43, 3) := by decide +kernel
theorem dX10_pushes_39 : decode cX10_pushes 39 = .ok (.bipush 40, 2) := by decide +kernel
theorem dX10_pushes_41 : decode cX10_pushes 41 = .ok (.iload_n 1, 1) := by decide +kernel
theorem dX10_pushes_42 : decode cX10_pushes 42 = .ok (.imul, 1) := by decide +kernel
theorem dX10_pushes_43 : decode cX10_pushes 43 = .ok (.iload_n 3, 1) := by decide +kernel
theorem dX10_pushes_44 : decode cX10_pushes 44 = .ok (.iadd, 1) := by decide +kernel
theorem dX10_pushes_45 : decode cX10_pushes 45 = .ok (.iaload, 1) := by decide +kernel
theorem dX10_pushes_46 : decode cX10_pushes 46 = .ok (.invokestatic 116, 3) := by decide +kernel
theorem dX10_pushes_49 : decode cX10_pushes 49 = .ok (.ifCond .eq 26, 3) := by decide +kernel
theorem dX10_pushes_52 : decode cX10_pushes 52 = .ok (.aload_n 0, 1) := by decide +kernel
theorem dX10_pushes_53 : decode cX10_pushes 53 = .ok (.iload_n 3, 1) := by decide +kernel
theorem dX10_pushes_54 : decode cX10_pushes 54 = .ok (.aload_n 0, 1) := by decide +kernel
theorem dX10_pushes_55 : decode cX10_pushes 55 = .ok (.getfield 43, 3) := by decide +kernel
theorem dX10_pushes_58 : decode cX10_pushes 58 = .ok (.bipush 40, 2) := by decide +kernel
theorem dX10_pushes_60 : decode cX10_pushes 60 = .ok (.iload_n 1, 1) := by decide +kernel
theorem dX10_pushes_61 : decode cX10_pushes 61 = .ok (.imul, 1) := by decide +kernel
theorem dX10_pushes_62 : decode cX10_pushes 62 = .ok (.iload_n 3, 1) := by decide +kernel
theorem dX10_pushes_63 : decode cX10_pushes 63 = .ok (.iadd, 1) := by decide +kernel
theorem dX10_pushes_64 : decode cX10_pushes 64 = .ok (.iaload, 1) := by decide +kernel
theorem dX10_pushes_65 : decode cX10_pushes 65 = .ok (.invokevirtual 119, 3) := by decide +kernel
theorem dX10_pushes_68 : decode cX10_pushes 68 = .ok (.pop, 1) := by decide +kernel
theorem dX10_pushes_69 : decode cX10_pushes 69 = .ok (.iinc 3 1, 3) := by decide +kernel
theorem dX10_pushes_72 : decode cX10_pushes 72 = .ok (.goto (-58), 3) := by decide +kernel
theorem dX10_pushes_75 : decode cX10_pushes 75 = .ok (.iload_n 3, 1) := by decide +kernel
theorem dX10_pushes_76 : decode cX10_pushes 76 = .ok (.ireturn, 1) := by decide +kernel
theorem dX10_judge_0 : decode cX10_judge 0 = .ok (.aload_n 0, 1) := by decide +kernel
theorem dX10_judge_1 : decode cX10_judge 1 = .ok (.iload_n 1, 1) := by decide +kernel
theorem dX10_judge_2 : decode cX10_judge 2 = .ok (.invokevirtual 307, 3) := by decide +kernel
theorem dX10_judge_5 : decode cX10_judge 5 = .ok (.istore_n 2, 1) := by decide +kernel
theorem dX10_judge_6 : decode cX10_judge 6 = .ok (.iload_n 2, 1) := by decide +kernel
theorem dX10_judge_7 : decode cX10_judge 7 = .ok (.ifCond .eq 5, 3) := by decide +kernel
theorem dX10_judge_10 : decode cX10_judge 10 = .ok (.iload_n 2, 1) := by decide +kernel
theorem dX10_judge_11 : decode cX10_judge 11 = .ok (.ireturn, 1) := by decide +kernel
theorem dX10_judge_12 : decode cX10_judge 12 = .ok (.iconst 0, 1) := by decide +kernel
theorem dX10_judge_13 : decode cX10_judge 13 = .ok (.istore_n 3, 1) := by decide +kernel
theorem dX10_judge_14 : decode cX10_judge 14 = .ok (.iload_n 3, 1) := by decide +kernel
theorem dX10_judge_15 : decode cX10_judge 15 = .ok (.aload_n 0, 1) := by decide +kernel
theorem dX10_judge_16 : decode cX10_judge 16 = .ok (.getfield 40, 3) := by decide +kernel
theorem dX10_judge_19 : decode cX10_judge 19 = .ok (.iload_n 1, 1) := by decide +kernel
theorem dX10_judge_20 : decode cX10_judge 20 = .ok (.iaload, 1) := by decide +kernel
theorem dX10_judge_21 : decode cX10_judge 21 = .ok (.if_icmp .ge 40, 3) := by decide +kernel
theorem dX10_judge_24 : decode cX10_judge 24 = .ok (.iload_n 3, 1) := by decide +kernel
theorem dX10_judge_25 : decode cX10_judge 25 = .ok (.aload_n 0, 1) := by decide +kernel
theorem dX10_judge_26 : decode cX10_judge 26 = .ok (.getfield 9, 3) := by decide +kernel
theorem dX10_judge_29 : decode cX10_judge 29 = .ok (.bipush 6, 2) := by decide +kernel
theorem dX10_judge_31 : decode cX10_judge 31 = .ok (.iaload, 1) := by decide +kernel
theorem dX10_judge_32 : decode cX10_judge 32 = .ok (.if_icmp .ge 29, 3) := by decide +kernel
theorem dX10_judge_35 : decode cX10_judge 35 = .ok (.aload_n 0, 1) := by decide +kernel
theorem dX10_judge_36 : decode cX10_judge 36 = .ok (.getfield 43, 3) := by decide +kernel
theorem dX10_judge_39 : decode cX10_judge 39 = .ok (.bipush 40, 2) := by decide +kernel
theorem dX10_judge_41 : decode cX10_judge 41 = .ok (.iload_n 1, 1) := by decide +kernel
theorem dX10_judge_42 : decode cX10_judge 42 = .ok (.imul, 1) := by decide +kernel
theorem dX10_judge_43 : decode cX10_judge 43 = .ok (.iload_n 3, 1) := by decide +kernel
theorem dX10_judge_44 : decode cX10_judge 44 = .ok (.iadd, 1) := by decide +kernel
theorem dX10_judge_45 : decode cX10_judge 45 = .ok (.iaload, 1) := by decide +kernel
theorem dX10_judge_46 : decode cX10_judge 46 = .ok (.aload_n 0, 1) := by decide +kernel
theorem dX10_judge_47 : decode cX10_judge 47 = .ok (.iload_n 3, 1) := by decide +kernel
theorem dX10_judge_48 : decode cX10_judge 48 = .ok (.iconst 2, 1) := by decide +kernel
theorem dX10_judge_49 : decode cX10_judge 49 = .ok (.invokevirtual 61, 3) := by decide +kernel
theorem dX10_judge_52 : decode cX10_judge 52 = .ok (.if_icmp .ne 9, 3) := by decide +kernel
theorem dX10_judge_55 : decode cX10_judge 55 = .ok (.iinc 3 1, 3) := by decide +kernel
theorem dX10_judge_58 : decode cX10_judge 58 = .ok (.goto (-44), 3) := by decide +kernel
theorem dX10_judge_61 : decode cX10_judge 61 = .ok (.iload_n 3, 1) := by decide +kernel
theorem dX10_judge_62 : decode cX10_judge 62 = .ok (.aload_n 0, 1) := by decide +kernel
theorem dX10_judge_63 : decode cX10_judge 63 = .ok (.getfield 40, 3) := by decide +kernel
theorem dX10_judge_66 : decode cX10_judge 66 = .ok (.iload_n 1, 1) := by decide +kernel
theorem dX10_judge_67 : decode cX10_judge 67 = .ok (.iaload, 1) := by decide +kernel
theorem dX10_judge_68 : decode cX10_judge 68 = .ok (.if_icmp .ne 18, 3) := by decide +kernel
theorem dX10_judge_71 : decode cX10_judge 71 = .ok (.iload_n 3, 1) := by decide +kernel
theorem dX10_judge_72 : decode cX10_judge 72 = .ok (.aload_n 0, 1) := by decide +kernel
theorem dX10_judge_73 : decode cX10_judge 73 = .ok (.getfield 9, 3) := by decide +kernel
theorem dX10_judge_76 : decode cX10_judge 76 = .ok (.bipush 6, 2) := by decide +kernel
theorem dX10_judge_78 : decode cX10_judge 78 = .ok (.iaload, 1) := by decide +kernel
theorem dX10_judge_79 : decode cX10_judge 79 = .ok (.if_icmp .ne 7, 3) := by decide +kernel
theorem dX10_judge_82 : decode cX10_judge 82 = .ok (.iconst (-1), 1) := by decide +kernel
theorem dX10_judge_83 : decode cX10_judge 83 = .ok (.goto 4, 3) := by decide +kernel
theorem dX10_judge_86 : decode cX10_judge 86 = .ok (.iload_n 3, 1) := by decide +kernel
theorem dX10_judge_87 : decode cX10_judge 87 = .ok (.ireturn, 1) := by decide +kernel
theorem dX10_over__0 : decode cX10_over_ 0 = .ok (.iconst 0, 1) := by decide +kernel
theorem dX10_over__1 : decode cX10_over_ 1 = .ok (.istore_n 2, 1) := by decide +kernel
theorem dX10_over__2 : decode cX10_over_ 2 = .ok (.iload_n 2, 1) := by decide +kernel
theorem dX10_over__3 : decode cX10_over_ 3 = .ok (.sipush 322, 3) := by decide +kernel
theorem dX10_over__6 : decode cX10_over_ 6 = .ok (.if_icmp .ge 15, 3) := by decide +kernel
theorem dX10_over__9 : decode cX10_over_ 9 = .ok (.aload_n 1, 1) := by decide +kernel
theorem dX10_over__10 : decode cX10_over_ 10 = .ok (.iload_n 2, 1) := by decide +kernel
theorem dX10_over__11 : decode cX10_over_ 11 = .ok (.aload_n 0, 1) := by decide +kernel
theorem dX10_over__12 : decode cX10_over_ 12 = .ok (.iload_n 2, 1) := by decide +kernel
theorem dX10_over__13 : decode cX10_over_ 13 = .ok (.iaload, 1) := by decide +kernel
theorem dX10_over__14 : decode cX10_over_ 14 = .ok (.iastore, 1) := by decide +kernel
theorem dX10_over__15 : decode cX10_over_ 15 = .ok (.iinc 2 1, 3) := by decide +kernel
theorem dX10_over__18 : decode cX10_over_ 18 = .ok (.goto (-16), 3) := by decide +kernel
theorem dX10_over__21 : decode cX10_over_ 21 = .ok (.return_, 1) := by decide +kernel
theorem dX10_image_0 : decode cX10_image 0 = .ok (.aload_n 0, 1) := by decide +kernel
theorem dX10_image_1 : decode cX10_image 1 = .ok (.getfield 9, 3) := by decide +kernel
theorem dX10_image_4 : decode cX10_image 4 = .ok (.aload_n 0, 1) := by decide +kernel
theorem dX10_image_5 : decode cX10_image 5 = .ok (.getfield 13, 3) := by decide +kernel
theorem dX10_image_8 : decode cX10_image 8 = .ok (.invokestatic 310, 3) := by decide +kernel
theorem dX10_image_11 : decode cX10_image 11 = .ok (.aload_n 0, 1) := by decide +kernel
theorem dX10_image_12 : decode cX10_image 12 = .ok (.iconst 1, 1) := by decide +kernel
theorem dX10_image_13 : decode cX10_image 13 = .ok (.putfield 314, 3) := by decide +kernel
theorem dX10_image_16 : decode cX10_image 16 = .ok (.aload_n 0, 1) := by decide +kernel
theorem dX10_image_17 : decode cX10_image 17 = .ok (.dup, 1) := by decide +kernel
theorem dX10_image_18 : decode cX10_image 18 = .ok (.getfield 318, 3) := by decide +kernel
theorem dX10_image_21 : decode cX10_image 21 = .ok (.iconst 1, 1) := by decide +kernel
theorem dX10_image_22 : decode cX10_image 22 = .ok (.iadd, 1) := by decide +kernel
theorem dX10_image_23 : decode cX10_image 23 = .ok (.putfield 318, 3) := by decide +kernel
theorem dX10_image_26 : decode cX10_image 26 = .ok (.aload_n 0, 1) := by decide +kernel
theorem dX10_image_27 : decode cX10_image 27 = .ok (.getfield 318, 3) := by decide +kernel
theorem dX10_image_30 : decode cX10_image 30 = .ok (.ireturn, 1) := by decide +kernel
theorem dX10_restore_0 : decode cX10_restore 0 = .ok (.aload_n 0, 1) := by decide +kernel
theorem dX10_restore_1 : decode cX10_restore 1 = .ok (.getfield 314, 3) := by decide +kernel
theorem dX10_restore_4 : decode cX10_restore 4 = .ok (.ifCond .ne 9, 3) := by decide +kernel
theorem dX10_restore_7 : decode cX10_restore 7 = .ok (.aload_n 0, 1) := by decide +kernel
theorem dX10_restore_8 : decode cX10_restore 8 = .ok (.iconst 2, 1) := by decide +kernel
theorem dX10_restore_9 : decode cX10_restore 9 = .ok (.invokevirtual 79, 3) := by decide +kernel
theorem dX10_restore_12 : decode cX10_restore 12 = .ok (.ireturn, 1) := by decide +kernel
theorem dX10_restore_13 : decode cX10_restore 13 = .ok (.aload_n 0, 1) := by decide +kernel
theorem dX10_restore_14 : decode cX10_restore 14 = .ok (.getfield 13, 3) := by decide +kernel
theorem dX10_restore_17 : decode cX10_restore 17 = .ok (.aload_n 0, 1) := by decide +kernel
theorem dX10_restore_18 : decode cX10_restore 18 = .ok (.getfield 9, 3) := by decide +kernel
theorem dX10_restore_21 : decode cX10_restore 21 = .ok (.invokestatic 310, 3) := by decide +kernel
theorem dX10_restore_24 : decode cX10_restore 24 = .ok (.aload_n 0, 1) := by decide +kernel
theorem dX10_restore_25 : decode cX10_restore 25 = .ok (.getfield 9, 3) := by decide +kernel
theorem dX10_restore_28 : decode cX10_restore 28 = .ok (.iconst 0, 1) := by decide +kernel
theorem dX10_restore_29 : decode cX10_restore 29 = .ok (.iaload, 1) := by decide +kernel
theorem dX10_restore_30 : decode cX10_restore 30 = .ok (.ireturn, 1) := by decide +kernel
theorem dX10_tell_0 : decode cX10_tell 0 = .ok (.aload_n 0, 1) := by decide +kernel
theorem dX10_tell_1 : decode cX10_tell 1 = .ok (.getfield 9, 3) := by decide +kernel
theorem dX10_tell_4 : decode cX10_tell 4 = .ok (.bipush 8, 2) := by decide +kernel
theorem dX10_tell_6 : decode cX10_tell 6 = .ok (.iaload, 1) := by decide +kernel
theorem dX10_tell_7 : decode cX10_tell 7 = .ok (.bipush 20, 2) := by decide +kernel
theorem dX10_tell_9 : decode cX10_tell 9 = .ok (.if_icmp .ne 9, 3) := by decide +kernel
theorem dX10_tell_12 : decode cX10_tell 12 = .ok (.aload_n 0, 1) := by decide +kernel
theorem dX10_tell_13 : decode cX10_tell 13 = .ok (.iconst 4, 1) := by decide +kernel
theorem dX10_tell_14 : decode cX10_tell 14 = .ok (.invokevirtual 79, 3) := by decide +kernel
theorem dX10_tell_17 : decode cX10_tell 17 = .ok (.ireturn, 1) := by decide +kernel
theorem dX10_tell_18 : decode cX10_tell 18 = .ok (.aload_n 0, 1) := by decide +kernel
theorem dX10_tell_19 : decode cX10_tell 19 = .ok (.getfield 9, 3) := by decide +kernel
theorem dX10_tell_22 : decode cX10_tell 22 = .ok (.bipush 100, 2) := by decide +kernel
theorem dX10_tell_24 : decode cX10_tell 24 = .ok (.aload_n 0, 1) := by decide +kernel
theorem dX10_tell_25 : decode cX10_tell 25 = .ok (.getfield 9, 3) := by decide +kernel
theorem dX10_tell_28 : decode cX10_tell 28 = .ok (.bipush 8, 2) := by decide +kernel
theorem dX10_tell_30 : decode cX10_tell 30 = .ok (.iaload, 1) := by decide +kernel
theorem dX10_tell_31 : decode cX10_tell 31 = .ok (.iadd, 1) := by decide +kernel
theorem dX10_tell_32 : decode cX10_tell 32 = .ok (.iload_n 1, 1) := by decide +kernel
theorem dX10_tell_33 : decode cX10_tell 33 = .ok (.iastore, 1) := by decide +kernel
theorem dX10_tell_34 : decode cX10_tell 34 = .ok (.aload_n 0, 1) := by decide +kernel
theorem dX10_tell_35 : decode cX10_tell 35 = .ok (.getfield 9, 3) := by decide +kernel
theorem dX10_tell_38 : decode cX10_tell 38 = .ok (.bipush 8, 2) := by decide +kernel
theorem dX10_tell_40 : decode cX10_tell 40 = .ok (.dup2, 1) := by decide +kernel
theorem dX10_tell_41 : decode cX10_tell 41 = .ok (.iaload, 1) := by decide +kernel
theorem dX10_tell_42 : decode cX10_tell 42 = .ok (.iconst 1, 1) := by decide +kernel
theorem dX10_tell_43 : decode cX10_tell 43 = .ok (.iadd, 1) := by decide +kernel
theorem dX10_tell_44 : decode cX10_tell 44 = .ok (.iastore, 1) := by decide +kernel
theorem dX10_tell_45 : decode cX10_tell 45 = .ok (.aload_n 0, 1) := by decide +kernel
theorem dX10_tell_46 : decode cX10_tell 46 = .ok (.getfield 9, 3) := by decide +kernel
theorem dX10_tell_49 : decode cX10_tell 49 = .ok (.bipush 8, 2) := by decide +kernel
theorem dX10_tell_51 : decode cX10_tell 51 = .ok (.iaload, 1) := by decide +kernel
theorem dX10_tell_52 : decode cX10_tell 52 = .ok (.ireturn, 1) := by decide +kernel
theorem dX10_floors_0 : decode cX10_floors 0 = .ok (.iconst 0, 1) := by decide +kernel
theorem dX10_floors_1 : decode cX10_floors 1 = .ok (.istore_n 1, 1) := by decide +kernel
theorem dX10_floors_2 : decode cX10_floors 2 = .ok (.iconst 0, 1) := by decide +kernel
theorem dX10_floors_3 : decode cX10_floors 3 = .ok (.istore_n 2, 1) := by decide +kernel
theorem dX10_floors_4 : decode cX10_floors 4 = .ok (.iload_n 2, 1) := by decide +kernel
theorem dX10_floors_5 : decode cX10_floors 5 = .ok (.aload_n 0, 1) := by decide +kernel
theorem dX10_floors_6 : decode cX10_floors 6 = .ok (.getfield 9, 3) := by decide +kernel
theorem dX10_floors_9 : decode cX10_floors 9 = .ok (.bipush 6, 2) := by decide +kernel
theorem dX10_floors_11 : decode cX10_floors 11 = .ok (.iaload, 1) := by decide +kernel
theorem dX10_floors_12 : decode cX10_floors 12 = .ok (.if_icmp .ge 18, 3) := by decide +kernel
theorem dX10_floors_15 : decode cX10_floors 15 = .ok (.iload_n 1, 1) := by decide +kernel
theorem dX10_floors_16 : decode cX10_floors 16 = .ok (.aload_n 0, 1) := by decide +kernel
theorem dX10_floors_17 : decode cX10_floors 17 = .ok (.iload_n 2, 1) := by decide +kernel
theorem dX10_floors_18 : decode cX10_floors 18 = .ok (.iconst 2, 1) := by decide +kernel
theorem dX10_floors_19 : decode cX10_floors 19 = .ok (.invokevirtual 61, 3) := by decide +kernel
theorem dX10_floors_22 : decode cX10_floors 22 = .ok (.iadd, 1) := by decide +kernel
theorem dX10_floors_23 : decode cX10_floors 23 = .ok (.istore_n 1, 1) := by decide +kernel
theorem dX10_floors_24 : decode cX10_floors 24 = .ok (.iinc 2 1, 3) := by decide +kernel
theorem dX10_floors_27 : decode cX10_floors 27 = .ok (.goto (-23), 3) := by decide +kernel
theorem dX10_floors_30 : decode cX10_floors 30 = .ok (.iload_n 1, 1) := by decide +kernel
theorem dX10_floors_31 : decode cX10_floors 31 = .ok (.ireturn, 1) := by decide +kernel
theorem dX10_check_0 : decode cX10_check 0 = .ok (.aload_n 0, 1) := by decide +kernel
theorem dX10_check_1 : decode cX10_check 1 = .ok (.invokevirtual 226, 3) := by decide +kernel
theorem dX10_check_4 : decode cX10_check 4 = .ok (.iconst 0, 1) := by decide +kernel
theorem dX10_check_5 : decode cX10_check 5 = .ok (.istore_n 1, 1) := by decide +kernel
theorem dX10_check_6 : decode cX10_check 6 = .ok (.iconst 0, 1) := by decide +kernel
theorem dX10_check_7 : decode cX10_check 7 = .ok (.istore_n 2, 1) := by decide +kernel
theorem dX10_check_8 : decode cX10_check 8 = .ok (.iload_n 2, 1) := by decide +kernel
theorem dX10_check_9 : decode cX10_check 9 = .ok (.aload_n 0, 1) := by decide +kernel
theorem dX10_check_10 : decode cX10_check 10 = .ok (.getfield 9, 3) := by decide +kernel
theorem dX10_check_13 : decode cX10_check 13 = .ok (.bipush 8, 2) := by decide +kernel
theorem dX10_check_15 : decode cX10_check 15 = .ok (.iaload, 1) := by decide +kernel
theorem dX10_check_16 : decode cX10_check 16 = .ok (.if_icmp .ge 41, 3) := by decide +kernel
theorem dX10_check_19 : decode cX10_check 19 = .ok (.iload_n 1, 1) := by decide +kernel
theorem dX10_check_20 : decode cX10_check 20 = .ok (.ifCond .ne 37, 3) := by decide +kernel
theorem dX10_check_23 : decode cX10_check 23 = .ok (.aload_n 0, 1) := by decide +kernel
theorem dX10_check_24 : decode cX10_check 24 = .ok (.invokevirtual 216, 3) := by decide +kernel
theorem dX10_check_27 : decode cX10_check 27 = .ok (.aload_n 0, 1) := by decide +kernel
theorem dX10_check_28 : decode cX10_check 28 = .ok (.invokevirtual 321, 3) := by decide +kernel
theorem dX10_check_31 : decode cX10_check 31 = .ok (.aload_n 0, 1) := by decide +kernel
theorem dX10_check_32 : decode cX10_check 32 = .ok (.getfield 9, 3) := by decide +kernel
theorem dX10_check_35 : decode cX10_check 35 = .ok (.bipush 100, 2) := by decide +kernel
theorem dX10_check_37 : decode cX10_check 37 = .ok (.iload_n 2, 1) := by decide +kernel
theorem dX10_check_38 : decode cX10_check 38 = .ok (.iadd, 1) := by decide +kernel
theorem dX10_check_39 : decode cX10_check 39 = .ok (.iaload, 1) := by decide +kernel
theorem dX10_check_40 : decode cX10_check 40 = .ok (.if_icmp .ne 7, 3) := by decide +kernel
theorem dX10_check_43 : decode cX10_check 43 = .ok (.iconst 0, 1) := by decide +kernel
theorem dX10_check_44 : decode cX10_check 44 = .ok (.goto 6, 3) := by decide +kernel
theorem dX10_check_47 : decode cX10_check 47 = .ok (.iload_n 2, 1) := by decide +kernel
theorem dX10_check_48 : decode cX10_check 48 = .ok (.iconst 1, 1) := by decide +kernel
theorem dX10_check_49 : decode cX10_check 49 = .ok (.iadd, 1) := by decide +kernel
theorem dX10_check_50 : decode cX10_check 50 = .ok (.istore_n 1, 1) := by decide +kernel
theorem dX10_check_51 : decode cX10_check 51 = .ok (.iinc 2 1, 3) := by decide +kernel
theorem dX10_check_54 : decode cX10_check 54 = .ok (.goto (-46), 3) := by decide +kernel
theorem dX10_check_57 : decode cX10_check 57 = .ok (.aload_n 0, 1) := by decide +kernel
theorem dX10_check_58 : decode cX10_check 58 = .ok (.invokevirtual 229, 3) := by decide +kernel
theorem dX10_check_61 : decode cX10_check 61 = .ok (.aload_n 0, 1) := by decide +kernel
theorem dX10_check_62 : decode cX10_check 62 = .ok (.getfield 9, 3) := by decide +kernel
theorem dX10_check_65 : decode cX10_check 65 = .ok (.bipush 8, 2) := by decide +kernel
theorem dX10_check_67 : decode cX10_check 67 = .ok (.iconst 0, 1) := by decide +kernel
theorem dX10_check_68 : decode cX10_check 68 = .ok (.iastore, 1) := by decide +kernel
theorem dX10_check_69 : decode cX10_check 69 = .ok (.iload_n 1, 1) := by decide +kernel
theorem dX10_check_70 : decode cX10_check 70 = .ok (.ireturn, 1) := by decide +kernel
theorem dX10_between_0 : decode cX10_between 0 = .ok (.iconst 0, 1) := by decide +kernel
theorem dX10_between_1 : decode cX10_between 1 = .ok (.istore_n 3, 1) := by decide +kernel
theorem dX10_between_2 : decode cX10_between 2 = .ok (.iconst 0, 1) := by decide +kernel
theorem dX10_between_3 : decode cX10_between 3 = .ok (.istore 4, 2) := by decide +kernel
theorem dX10_between_5 : decode cX10_between 5 = .ok (.iload 4, 2) := by decide +kernel
theorem dX10_between_7 : decode cX10_between 7 = .ok (.aload_n 0, 1) := by decide +kernel
theorem dX10_between_8 : decode cX10_between 8 = .ok (.getfield 9, 3) := by decide +kernel
theorem dX10_between_11 : decode cX10_between 11 = .ok (.bipush 6, 2) := by decide +kernel
theorem dX10_between_13 : decode cX10_between 13 = .ok (.iaload, 1) := by decide +kernel
theorem dX10_between_14 : decode cX10_between 14 = .ok (.if_icmp .ge 35, 3) := by decide +kernel
theorem dX10_between_17 : decode cX10_between 17 = .ok (.iload_n 3, 1) := by decide +kernel
theorem dX10_between_18 : decode cX10_between 18 = .ok (.aload_n 0, 1) := by decide +kernel
theorem dX10_between_19 : decode cX10_between 19 = .ok (.iload 4, 2) := by decide +kernel
theorem dX10_between_21 : decode cX10_between 21 = .ok (.iconst 2, 1) := by decide +kernel
theorem dX10_between_22 : decode cX10_between 22 = .ok (.invokevirtual 61, 3) := by decide +kernel
theorem dX10_between_25 : decode cX10_between 25 = .ok (.i2l, 1) := by decide +kernel
theorem dX10_between_26 : decode cX10_between 26 = .ok (.iload_n 1, 1) := by decide +kernel
theorem dX10_between_27 : decode cX10_between 27 = .ok (.i2l, 1) := by decide +kernel
theorem dX10_between_28 : decode cX10_between 28 = .ok (.iload_n 2, 1) := by decide +kernel
theorem dX10_between_29 : decode cX10_between 29 = .ok (.i2l, 1) := by decide +kernel
theorem dX10_between_30 : decode cX10_between 30 = .ok (.invokestatic 53, 3) := by decide +kernel
theorem dX10_between_33 : decode cX10_between 33 = .ok (.ifCond .eq 7, 3) := by decide +kernel
theorem dX10_between_36 : decode cX10_between 36 = .ok (.iconst 1, 1) := by decide +kernel
theorem dX10_between_37 : decode cX10_between 37 = .ok (.goto 4, 3) := by decide +kernel
theorem dX10_between_40 : decode cX10_between 40 = .ok (.iconst 0, 1) := by decide +kernel
theorem dX10_between_41 : decode cX10_between 41 = .ok (.iadd, 1) := by decide +kernel
theorem dX10_between_42 : decode cX10_between 42 = .ok (.istore_n 3, 1) := by decide +kernel
theorem dX10_between_43 : decode cX10_between 43 = .ok (.iinc 4 1, 3) := by decide +kernel
theorem dX10_between_46 : decode cX10_between 46 = .ok (.goto (-41), 3) := by decide +kernel
theorem dX10_between_49 : decode cX10_between 49 = .ok (.iload_n 3, 1) := by decide +kernel
theorem dX10_between_50 : decode cX10_between 50 = .ok (.ireturn, 1) := by decide +kernel
theorem dX10_count_0 : decode cX10_count 0 = .ok (.iload_n 1, 1) := by decide +kernel
theorem dX10_count_1 : decode cX10_count 1 = .ok (.tableswitch 139 0 10 #[59, 67, 74, 81, 88, 97, 106, 111, 119, 127, 132], 59) := by decide +kernel
theorem dX10_count_60 : decode cX10_count 60 = .ok (.aload_n 0, 1) := by decide +kernel
theorem dX10_count_61 : decode cX10_count 61 = .ok (.getfield 9, 3) := by decide +kernel
theorem dX10_count_64 : decode cX10_count 64 = .ok (.bipush 6, 2) := by decide +kernel
theorem dX10_count_66 : decode cX10_count 66 = .ok (.iaload, 1) := by decide +kernel
theorem dX10_count_67 : decode cX10_count 67 = .ok (.ireturn, 1) := by decide +kernel
theorem dX10_count_68 : decode cX10_count 68 = .ok (.aload_n 0, 1) := by decide +kernel
theorem dX10_count_69 : decode cX10_count 69 = .ok (.getfield 9, 3) := by decide +kernel
theorem dX10_count_72 : decode cX10_count 72 = .ok (.iconst 0, 1) := by decide +kernel
theorem dX10_count_73 : decode cX10_count 73 = .ok (.iaload, 1) := by decide +kernel
theorem dX10_count_74 : decode cX10_count 74 = .ok (.ireturn, 1) := by decide +kernel
theorem dX10_count_75 : decode cX10_count 75 = .ok (.aload_n 0, 1) := by decide +kernel
theorem dX10_count_76 : decode cX10_count 76 = .ok (.getfield 9, 3) := by decide +kernel
theorem dX10_count_79 : decode cX10_count 79 = .ok (.iconst 1, 1) := by decide +kernel
theorem dX10_count_80 : decode cX10_count 80 = .ok (.iaload, 1) := by decide +kernel
theorem dX10_count_81 : decode cX10_count 81 = .ok (.ireturn, 1) := by decide +kernel
theorem dX10_count_82 : decode cX10_count 82 = .ok (.aload_n 0, 1) := by decide +kernel
theorem dX10_count_83 : decode cX10_count 83 = .ok (.iconst 0, 1) := by decide +kernel
theorem dX10_count_84 : decode cX10_count 84 = .ok (.iconst 0, 1) := by decide +kernel
theorem dX10_count_85 : decode cX10_count 85 = .ok (.invokevirtual 324, 3) := by decide +kernel
theorem dX10_count_88 : decode cX10_count 88 = .ok (.ireturn, 1) := by decide +kernel
theorem dX10_count_89 : decode cX10_count 89 = .ok (.aload_n 0, 1) := by decide +kernel
theorem dX10_count_90 : decode cX10_count 90 = .ok (.bipush 40, 2) := by decide +kernel
theorem dX10_count_92 : decode cX10_count 92 = .ok (.bipush 40, 2) := by decide +kernel
theorem dX10_count_94 : decode cX10_count 94 = .ok (.invokevirtual 324, 3) := by decide +kernel
theorem dX10_count_97 : decode cX10_count 97 = .ok (.ireturn, 1) := by decide +kernel
theorem dX10_count_98 : decode cX10_count 98 = .ok (.aload_n 0, 1) := by decide +kernel
theorem dX10_count_99 : decode cX10_count 99 = .ok (.bipush 16, 2) := by decide +kernel
theorem dX10_count_101 : decode cX10_count 101 = .ok (.bipush 24, 2) := by decide +kernel
theorem dX10_count_103 : decode cX10_count 103 = .ok (.invokevirtual 324, 3) := by decide +kernel
theorem dX10_count_106 : decode cX10_count 106 = .ok (.ireturn, 1) := by decide +kernel
theorem dX10_count_107 : decode cX10_count 107 = .ok (.aload_n 0, 1) := by decide +kernel
theorem dX10_count_108 : decode cX10_count 108 = .ok (.invokevirtual 219, 3) := by decide +kernel
theorem dX10_count_111 : decode cX10_count 111 = .ok (.ireturn, 1) := by decide +kernel
theorem dX10_count_112 : decode cX10_count 112 = .ok (.aload_n 0, 1) := by decide +kernel
theorem dX10_count_113 : decode cX10_count 113 = .ok (.getfield 9, 3) := by decide +kernel
theorem dX10_count_116 : decode cX10_count 116 = .ok (.bipush 7, 2) := by decide +kernel
theorem dX10_count_118 : decode cX10_count 118 = .ok (.iaload, 1) := by decide +kernel
theorem dX10_count_119 : decode cX10_count 119 = .ok (.ireturn, 1) := by decide +kernel
theorem dX10_count_120 : decode cX10_count 120 = .ok (.aload_n 0, 1) := by decide +kernel
theorem dX10_count_121 : decode cX10_count 121 = .ok (.getfield 9, 3) := by decide +kernel
theorem dX10_count_124 : decode cX10_count 124 = .ok (.bipush 8, 2) := by decide +kernel
theorem dX10_count_126 : decode cX10_count 126 = .ok (.iaload, 1) := by decide +kernel
theorem dX10_count_127 : decode cX10_count 127 = .ok (.ireturn, 1) := by decide +kernel
theorem dX10_count_128 : decode cX10_count 128 = .ok (.aload_n 0, 1) := by decide +kernel
theorem dX10_count_129 : decode cX10_count 129 = .ok (.getfield 277, 3) := by decide +kernel
theorem dX10_count_132 : decode cX10_count 132 = .ok (.ireturn, 1) := by decide +kernel
theorem dX10_count_133 : decode cX10_count 133 = .ok (.aload_n 0, 1) := by decide +kernel
theorem dX10_count_134 : decode cX10_count 134 = .ok (.getfield 9, 3) := by decide +kernel
theorem dX10_count_137 : decode cX10_count 137 = .ok (.iconst 5, 1) := by decide +kernel
theorem dX10_count_138 : decode cX10_count 138 = .ok (.iaload, 1) := by decide +kernel
theorem dX10_count_139 : decode cX10_count 139 = .ok (.ireturn, 1) := by decide +kernel
theorem dX10_count_140 : decode cX10_count 140 = .ok (.aload_n 0, 1) := by decide +kernel
theorem dX10_count_141 : decode cX10_count 141 = .ok (.iconst 1, 1) := by decide +kernel
theorem dX10_count_142 : decode cX10_count 142 = .ok (.invokevirtual 79, 3) := by decide +kernel
theorem dX10_count_145 : decode cX10_count 145 = .ok (.ireturn, 1) := by decide +kernel
theorem dX10_told_0 : decode cX10_told 0 = .ok (.iload_n 1, 1) := by decide +kernel
theorem dX10_told_1 : decode cX10_told 1 = .ok (.i2l, 1) := by decide +kernel
theorem dX10_told_2 : decode cX10_told 2 = .ok (.lconst 1, 1) := by decide +kernel
theorem dX10_told_3 : decode cX10_told 3 = .ok (.ldc2_w 275, 3) := by decide +kernel
theorem dX10_told_6 : decode cX10_told 6 = .ok (.invokestatic 53, 3) := by decide +kernel
theorem dX10_told_9 : decode cX10_told 9 = .ok (.ifCond .eq 12, 3) := by decide +kernel
theorem dX10_told_12 : decode cX10_told 12 = .ok (.aload_n 0, 1) := by decide +kernel
theorem dX10_told_13 : decode cX10_told 13 = .ok (.getfield 16, 3) := by decide +kernel
theorem dX10_told_16 : decode cX10_told 16 = .ok (.iload_n 1, 1) := by decide +kernel
theorem dX10_told_17 : decode cX10_told 17 = .ok (.iaload, 1) := by decide +kernel
theorem dX10_told_18 : decode cX10_told 18 = .ok (.goto 8, 3) := by decide +kernel
theorem dX10_told_21 : decode cX10_told 21 = .ok (.aload_n 0, 1) := by decide +kernel
theorem dX10_told_22 : decode cX10_told 22 = .ok (.iconst 1, 1) := by decide +kernel
theorem dX10_told_23 : decode cX10_told 23 = .ok (.invokevirtual 79, 3) := by decide +kernel
theorem dX10_told_26 : decode cX10_told 26 = .ok (.ireturn, 1) := by decide +kernel
theorem dJ11_isValidCodePoint_9a6ad_0 : decode cJ11_isValidCodePoint_9a6ad 0 = .ok (.iload_n 0, 1) := by decide +kernel
theorem dJ11_isValidCodePoint_9a6ad_1 : decode cJ11_isValidCodePoint_9a6ad 1 = .ok (.bipush 16, 2) := by decide +kernel
theorem dJ11_isValidCodePoint_9a6ad_3 : decode cJ11_isValidCodePoint_9a6ad 3 = .ok (.iushr, 1) := by decide +kernel
theorem dJ11_isValidCodePoint_9a6ad_4 : decode cJ11_isValidCodePoint_9a6ad 4 = .ok (.istore_n 1, 1) := by decide +kernel
theorem dJ11_isValidCodePoint_9a6ad_5 : decode cJ11_isValidCodePoint_9a6ad 5 = .ok (.iload_n 1, 1) := by decide +kernel
theorem dJ11_isValidCodePoint_9a6ad_6 : decode cJ11_isValidCodePoint_9a6ad 6 = .ok (.bipush 17, 2) := by decide +kernel
theorem dJ11_isValidCodePoint_9a6ad_8 : decode cJ11_isValidCodePoint_9a6ad 8 = .ok (.if_icmp .ge 7, 3) := by decide +kernel
theorem dJ11_isValidCodePoint_9a6ad_11 : decode cJ11_isValidCodePoint_9a6ad 11 = .ok (.iconst 1, 1) := by decide +kernel
theorem dJ11_isValidCodePoint_9a6ad_12 : decode cJ11_isValidCodePoint_9a6ad 12 = .ok (.goto 4, 3) := by decide +kernel
theorem dJ11_isValidCodePoint_9a6ad_15 : decode cJ11_isValidCodePoint_9a6ad 15 = .ok (.iconst 0, 1) := by decide +kernel
theorem dJ11_isValidCodePoint_9a6ad_16 : decode cJ11_isValidCodePoint_9a6ad 16 = .ok (.ireturn, 1) := by decide +kernel
theorem dJ11_highSurrogate_5068e_0 : decode cJ11_highSurrogate_5068e 0 = .ok (.iload_n 0, 1) := by decide +kernel
theorem dJ11_highSurrogate_5068e_1 : decode cJ11_highSurrogate_5068e 1 = .ok (.bipush 10, 2) := by decide +kernel
theorem dJ11_highSurrogate_5068e_3 : decode cJ11_highSurrogate_5068e 3 = .ok (.iushr, 1) := by decide +kernel
theorem dJ11_highSurrogate_5068e_4 : decode cJ11_highSurrogate_5068e 4 = .ok (.ldc 110, 2) := by decide +kernel
theorem dJ11_highSurrogate_5068e_6 : decode cJ11_highSurrogate_5068e 6 = .ok (.iadd, 1) := by decide +kernel
theorem dJ11_highSurrogate_5068e_7 : decode cJ11_highSurrogate_5068e 7 = .ok (.i2c, 1) := by decide +kernel
theorem dJ11_highSurrogate_5068e_8 : decode cJ11_highSurrogate_5068e 8 = .ok (.ireturn, 1) := by decide +kernel
theorem dJ11_lowSurrogate_5068e_0 : decode cJ11_lowSurrogate_5068e 0 = .ok (.iload_n 0, 1) := by decide +kernel
theorem dJ11_lowSurrogate_5068e_1 : decode cJ11_lowSurrogate_5068e 1 = .ok (.sipush 1023, 3) := by decide +kernel
theorem dJ11_lowSurrogate_5068e_4 : decode cJ11_lowSurrogate_5068e 4 = .ok (.iand, 1) := by decide +kernel
theorem dJ11_lowSurrogate_5068e_5 : decode cJ11_lowSurrogate_5068e 5 = .ok (.ldc 76, 2) := by decide +kernel
theorem dJ11_lowSurrogate_5068e_7 : decode cJ11_lowSurrogate_5068e 7 = .ok (.iadd, 1) := by decide +kernel
theorem dJ11_lowSurrogate_5068e_8 : decode cJ11_lowSurrogate_5068e 8 = .ok (.i2c, 1) := by decide +kernel
theorem dJ11_lowSurrogate_5068e_9 : decode cJ11_lowSurrogate_5068e 9 = .ok (.ireturn, 1) := by decide +kernel
theorem dJ6_bitCount_0f7a4_0 : decode cJ6_bitCount_0f7a4 0 = .ok (.iload_n 0, 1) := by decide +kernel
theorem dJ6_bitCount_0f7a4_1 : decode cJ6_bitCount_0f7a4 1 = .ok (.iload_n 0, 1) := by decide +kernel
theorem dJ6_bitCount_0f7a4_2 : decode cJ6_bitCount_0f7a4 2 = .ok (.iconst 1, 1) := by decide +kernel
theorem dJ6_bitCount_0f7a4_3 : decode cJ6_bitCount_0f7a4 3 = .ok (.iushr, 1) := by decide +kernel
theorem dJ6_bitCount_0f7a4_4 : decode cJ6_bitCount_0f7a4 4 = .ok (.ldc_w 265, 3) := by decide +kernel
theorem dJ6_bitCount_0f7a4_7 : decode cJ6_bitCount_0f7a4 7 = .ok (.iand, 1) := by decide +kernel
theorem dJ6_bitCount_0f7a4_8 : decode cJ6_bitCount_0f7a4 8 = .ok (.isub, 1) := by decide +kernel
theorem dJ6_bitCount_0f7a4_9 : decode cJ6_bitCount_0f7a4 9 = .ok (.istore_n 0, 1) := by decide +kernel
theorem dJ6_bitCount_0f7a4_10 : decode cJ6_bitCount_0f7a4 10 = .ok (.iload_n 0, 1) := by decide +kernel
theorem dJ6_bitCount_0f7a4_11 : decode cJ6_bitCount_0f7a4 11 = .ok (.ldc_w 266, 3) := by decide +kernel
theorem dJ6_bitCount_0f7a4_14 : decode cJ6_bitCount_0f7a4 14 = .ok (.iand, 1) := by decide +kernel
theorem dJ6_bitCount_0f7a4_15 : decode cJ6_bitCount_0f7a4 15 = .ok (.iload_n 0, 1) := by decide +kernel
theorem dJ6_bitCount_0f7a4_16 : decode cJ6_bitCount_0f7a4 16 = .ok (.iconst 2, 1) := by decide +kernel
theorem dJ6_bitCount_0f7a4_17 : decode cJ6_bitCount_0f7a4 17 = .ok (.iushr, 1) := by decide +kernel
theorem dJ6_bitCount_0f7a4_18 : decode cJ6_bitCount_0f7a4 18 = .ok (.ldc_w 266, 3) := by decide +kernel
theorem dJ6_bitCount_0f7a4_21 : decode cJ6_bitCount_0f7a4 21 = .ok (.iand, 1) := by decide +kernel
theorem dJ6_bitCount_0f7a4_22 : decode cJ6_bitCount_0f7a4 22 = .ok (.iadd, 1) := by decide +kernel
theorem dJ6_bitCount_0f7a4_23 : decode cJ6_bitCount_0f7a4 23 = .ok (.istore_n 0, 1) := by decide +kernel
theorem dJ6_bitCount_0f7a4_24 : decode cJ6_bitCount_0f7a4 24 = .ok (.iload_n 0, 1) := by decide +kernel
theorem dJ6_bitCount_0f7a4_25 : decode cJ6_bitCount_0f7a4 25 = .ok (.iload_n 0, 1) := by decide +kernel
theorem dJ6_bitCount_0f7a4_26 : decode cJ6_bitCount_0f7a4 26 = .ok (.iconst 4, 1) := by decide +kernel
theorem dJ6_bitCount_0f7a4_27 : decode cJ6_bitCount_0f7a4 27 = .ok (.iushr, 1) := by decide +kernel
theorem dJ6_bitCount_0f7a4_28 : decode cJ6_bitCount_0f7a4 28 = .ok (.iadd, 1) := by decide +kernel
theorem dJ6_bitCount_0f7a4_29 : decode cJ6_bitCount_0f7a4 29 = .ok (.ldc_w 267, 3) := by decide +kernel
theorem dJ6_bitCount_0f7a4_32 : decode cJ6_bitCount_0f7a4 32 = .ok (.iand, 1) := by decide +kernel
theorem dJ6_bitCount_0f7a4_33 : decode cJ6_bitCount_0f7a4 33 = .ok (.istore_n 0, 1) := by decide +kernel
theorem dJ6_bitCount_0f7a4_34 : decode cJ6_bitCount_0f7a4 34 = .ok (.iload_n 0, 1) := by decide +kernel
theorem dJ6_bitCount_0f7a4_35 : decode cJ6_bitCount_0f7a4 35 = .ok (.iload_n 0, 1) := by decide +kernel
theorem dJ6_bitCount_0f7a4_36 : decode cJ6_bitCount_0f7a4 36 = .ok (.bipush 8, 2) := by decide +kernel
theorem dJ6_bitCount_0f7a4_38 : decode cJ6_bitCount_0f7a4 38 = .ok (.iushr, 1) := by decide +kernel
theorem dJ6_bitCount_0f7a4_39 : decode cJ6_bitCount_0f7a4 39 = .ok (.iadd, 1) := by decide +kernel
theorem dJ6_bitCount_0f7a4_40 : decode cJ6_bitCount_0f7a4 40 = .ok (.istore_n 0, 1) := by decide +kernel
theorem dJ6_bitCount_0f7a4_41 : decode cJ6_bitCount_0f7a4 41 = .ok (.iload_n 0, 1) := by decide +kernel
theorem dJ6_bitCount_0f7a4_42 : decode cJ6_bitCount_0f7a4 42 = .ok (.iload_n 0, 1) := by decide +kernel
theorem dJ6_bitCount_0f7a4_43 : decode cJ6_bitCount_0f7a4 43 = .ok (.bipush 16, 2) := by decide +kernel
theorem dJ6_bitCount_0f7a4_45 : decode cJ6_bitCount_0f7a4 45 = .ok (.iushr, 1) := by decide +kernel
theorem dJ6_bitCount_0f7a4_46 : decode cJ6_bitCount_0f7a4 46 = .ok (.iadd, 1) := by decide +kernel
theorem dJ6_bitCount_0f7a4_47 : decode cJ6_bitCount_0f7a4 47 = .ok (.istore_n 0, 1) := by decide +kernel
theorem dJ6_bitCount_0f7a4_48 : decode cJ6_bitCount_0f7a4 48 = .ok (.iload_n 0, 1) := by decide +kernel
theorem dJ6_bitCount_0f7a4_49 : decode cJ6_bitCount_0f7a4 49 = .ok (.bipush 63, 2) := by decide +kernel
theorem dJ6_bitCount_0f7a4_51 : decode cJ6_bitCount_0f7a4 51 = .ok (.iand, 1) := by decide +kernel
theorem dJ6_bitCount_0f7a4_52 : decode cJ6_bitCount_0f7a4 52 = .ok (.ireturn, 1) := by decide +kernel
theorem dJ9_floorMod_7cf53_0 : decode cJ9_floorMod_7cf53 0 = .ok (.iload_n 0, 1) := by decide +kernel
theorem dJ9_floorMod_7cf53_1 : decode cJ9_floorMod_7cf53 1 = .ok (.iload_n 1, 1) := by decide +kernel
theorem dJ9_floorMod_7cf53_2 : decode cJ9_floorMod_7cf53 2 = .ok (.irem, 1) := by decide +kernel
theorem dJ9_floorMod_7cf53_3 : decode cJ9_floorMod_7cf53 3 = .ok (.istore_n 2, 1) := by decide +kernel
theorem dJ9_floorMod_7cf53_4 : decode cJ9_floorMod_7cf53 4 = .ok (.iload_n 0, 1) := by decide +kernel
theorem dJ9_floorMod_7cf53_5 : decode cJ9_floorMod_7cf53 5 = .ok (.iload_n 1, 1) := by decide +kernel
theorem dJ9_floorMod_7cf53_6 : decode cJ9_floorMod_7cf53 6 = .ok (.ixor, 1) := by decide +kernel
theorem dJ9_floorMod_7cf53_7 : decode cJ9_floorMod_7cf53 7 = .ok (.ifCond .ge 11, 3) := by decide +kernel
theorem dJ9_floorMod_7cf53_10 : decode cJ9_floorMod_7cf53 10 = .ok (.iload_n 2, 1) := by decide +kernel
theorem dJ9_floorMod_7cf53_11 : decode cJ9_floorMod_7cf53 11 = .ok (.ifCond .eq 7, 3) := by decide +kernel
theorem dJ9_floorMod_7cf53_14 : decode cJ9_floorMod_7cf53 14 = .ok (.iload_n 2, 1) := by decide +kernel
theorem dJ9_floorMod_7cf53_15 : decode cJ9_floorMod_7cf53 15 = .ok (.iload_n 1, 1) := by decide +kernel
theorem dJ9_floorMod_7cf53_16 : decode cJ9_floorMod_7cf53 16 = .ok (.iadd, 1) := by decide +kernel
theorem dJ9_floorMod_7cf53_17 : decode cJ9_floorMod_7cf53 17 = .ok (.ireturn, 1) := by decide +kernel
theorem dJ9_floorMod_7cf53_18 : decode cJ9_floorMod_7cf53 18 = .ok (.iload_n 2, 1) := by decide +kernel
theorem dJ9_floorMod_7cf53_19 : decode cJ9_floorMod_7cf53 19 = .ok (.ireturn, 1) := by decide +kernel
theorem dJ9_abs_0f7a4_0 : decode cJ9_abs_0f7a4 0 = .ok (.iload_n 0, 1) := by decide +kernel
theorem dJ9_abs_0f7a4_1 : decode cJ9_abs_0f7a4 1 = .ok (.ifCond .ge 8, 3) := by decide +kernel
theorem dJ9_abs_0f7a4_4 : decode cJ9_abs_0f7a4 4 = .ok (.iload_n 0, 1) := by decide +kernel
theorem dJ9_abs_0f7a4_5 : decode cJ9_abs_0f7a4 5 = .ok (.ineg, 1) := by decide +kernel
theorem dJ9_abs_0f7a4_6 : decode cJ9_abs_0f7a4 6 = .ok (.goto 4, 3) := by decide +kernel
theorem dJ9_abs_0f7a4_9 : decode cJ9_abs_0f7a4 9 = .ok (.iload_n 0, 1) := by decide +kernel
theorem dJ9_abs_0f7a4_10 : decode cJ9_abs_0f7a4 10 = .ok (.ireturn, 1) := by decide +kernel
theorem dJ9_max_7cf53_0 : decode cJ9_max_7cf53 0 = .ok (.iload_n 0, 1) := by decide +kernel
theorem dJ9_max_7cf53_1 : decode cJ9_max_7cf53 1 = .ok (.iload_n 1, 1) := by decide +kernel
theorem dJ9_max_7cf53_2 : decode cJ9_max_7cf53 2 = .ok (.if_icmp .lt 7, 3) := by decide +kernel
theorem dJ9_max_7cf53_5 : decode cJ9_max_7cf53 5 = .ok (.iload_n 0, 1) := by decide +kernel
theorem dJ9_max_7cf53_6 : decode cJ9_max_7cf53 6 = .ok (.goto 4, 3) := by decide +kernel
theorem dJ9_max_7cf53_9 : decode cJ9_max_7cf53 9 = .ok (.iload_n 1, 1) := by decide +kernel
theorem dJ9_max_7cf53_10 : decode cJ9_max_7cf53 10 = .ok (.ireturn, 1) := by decide +kernel
theorem dJ9_min_7cf53_0 : decode cJ9_min_7cf53 0 = .ok (.iload_n 0, 1) := by decide +kernel
theorem dJ9_min_7cf53_1 : decode cJ9_min_7cf53 1 = .ok (.iload_n 1, 1) := by decide +kernel
theorem dJ9_min_7cf53_2 : decode cJ9_min_7cf53 2 = .ok (.if_icmp .gt 7, 3) := by decide +kernel
theorem dJ9_min_7cf53_5 : decode cJ9_min_7cf53 5 = .ok (.iload_n 0, 1) := by decide +kernel
theorem dJ9_min_7cf53_6 : decode cJ9_min_7cf53 6 = .ok (.goto 4, 3) := by decide +kernel
theorem dJ9_min_7cf53_9 : decode cJ9_min_7cf53 9 = .ok (.iload_n 1, 1) := by decide +kernel
theorem dJ9_min_7cf53_10 : decode cJ9_min_7cf53 10 = .ok (.ireturn, 1) := by decide +kernel
theorem dJ0_length_8abf5_0 : decode cJ0_length_8abf5 0 = .ok (.aload_n 0, 1) := by decide +kernel
theorem dJ0_length_8abf5_1 : decode cJ0_length_8abf5 1 = .ok (.getfield 9, 3) := by decide +kernel
theorem dJ0_length_8abf5_4 : decode cJ0_length_8abf5 4 = .ok (.arraylength, 1) := by decide +kernel
theorem dJ0_length_8abf5_5 : decode cJ0_length_8abf5 5 = .ok (.aload_n 0, 1) := by decide +kernel
theorem dJ0_length_8abf5_6 : decode cJ0_length_8abf5 6 = .ok (.invokevirtual 335, 3) := by decide +kernel
theorem dJ0_length_8abf5_9 : decode cJ0_length_8abf5 9 = .ok (.ishr, 1) := by decide +kernel
theorem dJ0_length_8abf5_10 : decode cJ0_length_8abf5 10 = .ok (.ireturn, 1) := by decide +kernel
theorem dJ0_indexOf_0f7a4_0 : decode cJ0_indexOf_0f7a4 0 = .ok (.aload_n 0, 1) := by decide +kernel
theorem dJ0_indexOf_0f7a4_1 : decode cJ0_indexOf_0f7a4 1 = .ok (.iload_n 1, 1) := by decide +kernel
theorem dJ0_indexOf_0f7a4_2 : decode cJ0_indexOf_0f7a4 2 = .ok (.iconst 0, 1) := by decide +kernel
theorem dJ0_indexOf_0f7a4_3 : decode cJ0_indexOf_0f7a4 3 = .ok (.invokevirtual 633, 3) := by decide +kernel
theorem dJ0_indexOf_0f7a4_6 : decode cJ0_indexOf_0f7a4 6 = .ok (.ireturn, 1) := by decide +kernel
theorem dJ0_indexOf_7cf53_0 : decode cJ0_indexOf_7cf53 0 = .ok (.aload_n 0, 1) := by decide +kernel
theorem dJ0_indexOf_7cf53_1 : decode cJ0_indexOf_7cf53 1 = .ok (.invokevirtual 492, 3) := by decide +kernel
theorem dJ0_indexOf_7cf53_4 : decode cJ0_indexOf_7cf53 4 = .ok (.ifCond .eq 19, 3) := by decide +kernel
theorem dJ0_indexOf_7cf53_7 : decode cJ0_indexOf_7cf53 7 = .ok (.aload_n 0, 1) := by decide +kernel
theorem dJ0_indexOf_7cf53_8 : decode cJ0_indexOf_7cf53 8 = .ok (.getfield 9, 3) := by decide +kernel
theorem dJ0_indexOf_7cf53_11 : decode cJ0_indexOf_7cf53 11 = .ok (.iload_n 1, 1) := by decide +kernel
theorem dJ0_indexOf_7cf53_12 : decode cJ0_indexOf_7cf53 12 = .ok (.iload_n 2, 1) := by decide +kernel
theorem dJ0_indexOf_7cf53_13 : decode cJ0_indexOf_7cf53 13 = .ok (.aload_n 0, 1) := by decide +kernel
theorem dJ0_indexOf_7cf53_14 : decode cJ0_indexOf_7cf53 14 = .ok (.invokevirtual 505, 3) := by decide +kernel
theorem dJ0_indexOf_7cf53_17 : decode cJ0_indexOf_7cf53 17 = .ok (.invokestatic 637, 3) := by decide +kernel
theorem dJ0_indexOf_7cf53_20 : decode cJ0_indexOf_7cf53 20 = .ok (.goto 16, 3) := by decide +kernel
theorem dJ0_indexOf_7cf53_23 : decode cJ0_indexOf_7cf53 23 = .ok (.aload_n 0, 1) := by decide +kernel
theorem dJ0_indexOf_7cf53_24 : decode cJ0_indexOf_7cf53 24 = .ok (.getfield 9, 3) := by decide +kernel
theorem dJ0_indexOf_7cf53_27 : decode cJ0_indexOf_7cf53 27 = .ok (.iload_n 1, 1) := by decide +kernel
theorem dJ0_indexOf_7cf53_28 : decode cJ0_indexOf_7cf53 28 = .ok (.iload_n 2, 1) := by decide +kernel
theorem dJ0_indexOf_7cf53_29 : decode cJ0_indexOf_7cf53 29 = .ok (.aload_n 0, 1) := by decide +kernel
theorem dJ0_indexOf_7cf53_30 : decode cJ0_indexOf_7cf53 30 = .ok (.invokevirtual 505, 3) := by decide +kernel
theorem dJ0_indexOf_7cf53_33 : decode cJ0_indexOf_7cf53 33 = .ok (.invokestatic 640, 3) := by decide +kernel
theorem dJ0_indexOf_7cf53_36 : decode cJ0_indexOf_7cf53 36 = .ok (.ireturn, 1) := by decide +kernel
theorem dJ0_coder_7d493_0 : decode cJ0_coder_7d493 0 = .ok (.getstatic 38, 3) := by decide +kernel
theorem dJ0_coder_7d493_3 : decode cJ0_coder_7d493 3 = .ok (.ifCond .eq 10, 3) := by decide +kernel
theorem dJ0_coder_7d493_6 : decode cJ0_coder_7d493 6 = .ok (.aload_n 0, 1) := by decide +kernel
theorem dJ0_coder_7d493_7 : decode cJ0_coder_7d493 7 = .ok (.getfield 15, 3) := by decide +kernel
theorem dJ0_coder_7d493_10 : decode cJ0_coder_7d493 10 = .ok (.goto 4, 3) := by decide +kernel
theorem dJ0_coder_7d493_13 : decode cJ0_coder_7d493 13 = .ok (.iconst 1, 1) := by decide +kernel
theorem dJ0_coder_7d493_14 : decode cJ0_coder_7d493 14 = .ok (.ireturn, 1) := by decide +kernel
theorem dJ0_isLatin1_aae02_0 : decode cJ0_isLatin1_aae02 0 = .ok (.getstatic 38, 3) := by decide +kernel
theorem dJ0_isLatin1_aae02_3 : decode cJ0_isLatin1_aae02 3 = .ok (.ifCond .eq 14, 3) := by decide +kernel
theorem dJ0_isLatin1_aae02_6 : decode cJ0_isLatin1_aae02 6 = .ok (.aload_n 0, 1) := by decide +kernel
theorem dJ0_isLatin1_aae02_7 : decode cJ0_isLatin1_aae02 7 = .ok (.getfield 15, 3) := by decide +kernel
theorem dJ0_isLatin1_aae02_10 : decode cJ0_isLatin1_aae02 10 = .ok (.ifCond .ne 7, 3) := by decide +kernel
theorem dJ0_isLatin1_aae02_13 : decode cJ0_isLatin1_aae02 13 = .ok (.iconst 1, 1) := by decide +kernel
theorem dJ0_isLatin1_aae02_14 : decode cJ0_isLatin1_aae02 14 = .ok (.goto 4, 3) := by decide +kernel
theorem dJ0_isLatin1_aae02_17 : decode cJ0_isLatin1_aae02 17 = .ok (.iconst 0, 1) := by decide +kernel
theorem dJ0_isLatin1_aae02_18 : decode cJ0_isLatin1_aae02 18 = .ok (.ireturn, 1) := by decide +kernel
theorem dJ0_checkBoundsBeginEnd_23922_0 : decode cJ0_checkBoundsBeginEnd_23922 0 = .ok (.iload_n 0, 1) := by decide +kernel
theorem dJ0_checkBoundsBeginEnd_23922_1 : decode cJ0_checkBoundsBeginEnd_23922 1 = .ok (.iload_n 1, 1) := by decide +kernel
theorem dJ0_checkBoundsBeginEnd_23922_2 : decode cJ0_checkBoundsBeginEnd_23922 2 = .ok (.iload_n 2, 1) := by decide +kernel
theorem dJ0_checkBoundsBeginEnd_23922_3 : decode cJ0_checkBoundsBeginEnd_23922 3 = .ok (.getstatic 1053, 3) := by decide +kernel
theorem dJ0_checkBoundsBeginEnd_23922_6 : decode cJ0_checkBoundsBeginEnd_23922 6 = .ok (.invokestatic 1062, 3) := by decide +kernel
theorem dJ0_checkBoundsBeginEnd_23922_9 : decode cJ0_checkBoundsBeginEnd_23922 9 = .ok (.pop, 1) := by decide +kernel
theorem dJ0_checkBoundsBeginEnd_23922_10 : decode cJ0_checkBoundsBeginEnd_23922 10 = .ok (.return_, 1) := by decide +kernel
theorem dJ1_canEncode_9a6ad_0 : decode cJ1_canEncode_9a6ad 0 = .ok (.iload_n 0, 1) := by decide +kernel
theorem dJ1_canEncode_9a6ad_1 : decode cJ1_canEncode_9a6ad 1 = .ok (.ifCond .lt 14, 3) := by decide +kernel
theorem dJ1_canEncode_9a6ad_4 : decode cJ1_canEncode_9a6ad 4 = .ok (.iload_n 0, 1) := by decide +kernel
theorem dJ1_canEncode_9a6ad_5 : decode cJ1_canEncode_9a6ad 5 = .ok (.sipush 255, 3) := by decide +kernel
theorem dJ1_canEncode_9a6ad_8 : decode cJ1_canEncode_9a6ad 8 = .ok (.if_icmp .gt 7, 3) := by decide +kernel
theorem dJ1_canEncode_9a6ad_11 : decode cJ1_canEncode_9a6ad 11 = .ok (.iconst 1, 1) := by decide +kernel
theorem dJ1_canEncode_9a6ad_12 : decode cJ1_canEncode_9a6ad 12 = .ok (.goto 4, 3) := by decide +kernel
theorem dJ1_canEncode_9a6ad_15 : decode cJ1_canEncode_9a6ad 15 = .ok (.iconst 0, 1) := by decide +kernel
theorem dJ1_canEncode_9a6ad_16 : decode cJ1_canEncode_9a6ad 16 = .ok (.ireturn, 1) := by decide +kernel
theorem dJ1_indexOf_4cfef_0 : decode cJ1_indexOf_4cfef 0 = .ok (.iload_n 1, 1) := by decide +kernel
theorem dJ1_indexOf_4cfef_1 : decode cJ1_indexOf_4cfef 1 = .ok (.invokestatic 88, 3) := by decide +kernel
theorem dJ1_indexOf_4cfef_4 : decode cJ1_indexOf_4cfef 4 = .ok (.ifCond .ne 5, 3) := by decide +kernel
theorem dJ1_indexOf_4cfef_7 : decode cJ1_indexOf_4cfef 7 = .ok (.iconst (-1), 1) := by decide +kernel
theorem dJ1_indexOf_4cfef_8 : decode cJ1_indexOf_4cfef 8 = .ok (.ireturn, 1) := by decide +kernel
theorem dJ1_indexOf_4cfef_9 : decode cJ1_indexOf_4cfef 9 = .ok (.iload_n 2, 1) := by decide +kernel
theorem dJ1_indexOf_4cfef_10 : decode cJ1_indexOf_4cfef 10 = .ok (.iconst 0, 1) := by decide +kernel
theorem dJ1_indexOf_4cfef_11 : decode cJ1_indexOf_4cfef 11 = .ok (.invokestatic 92, 3) := by decide +kernel
theorem dJ1_indexOf_4cfef_14 : decode cJ1_indexOf_4cfef 14 = .ok (.istore_n 2, 1) := by decide +kernel
theorem dJ1_indexOf_4cfef_15 : decode cJ1_indexOf_4cfef 15 = .ok (.iload_n 3, 1) := by decide +kernel
theorem dJ1_indexOf_4cfef_16 : decode cJ1_indexOf_4cfef 16 = .ok (.aload_n 0, 1) := by decide +kernel
theorem dJ1_indexOf_4cfef_17 : decode cJ1_indexOf_4cfef 17 = .ok (.arraylength, 1) := by decide +kernel
theorem dJ1_indexOf_4cfef_18 : decode cJ1_indexOf_4cfef 18 = .ok (.invokestatic 38, 3) := by decide +kernel
theorem dJ1_indexOf_4cfef_21 : decode cJ1_indexOf_4cfef 21 = .ok (.istore_n 3, 1) := by decide +kernel
theorem dJ1_indexOf_4cfef_22 : decode cJ1_indexOf_4cfef 22 = .ok (.iload_n 2, 1) := by decide +kernel
theorem dJ1_indexOf_4cfef_23 : decode cJ1_indexOf_4cfef 23 = .ok (.iload_n 3, 1) := by decide +kernel
theorem dJ1_indexOf_4cfef_24 : decode cJ1_indexOf_4cfef 24 = .ok (.if_icmp .lt 5, 3) := by decide +kernel
theorem dJ1_indexOf_4cfef_27 : decode cJ1_indexOf_4cfef 27 = .ok (.iconst (-1), 1) := by decide +kernel
theorem dJ1_indexOf_4cfef_28 : decode cJ1_indexOf_4cfef 28 = .ok (.ireturn, 1) := by decide +kernel
theorem dJ1_indexOf_4cfef_29 : decode cJ1_indexOf_4cfef 29 = .ok (.aload_n 0, 1) := by decide +kernel
theorem dJ1_indexOf_4cfef_30 : decode cJ1_indexOf_4cfef 30 = .ok (.iload_n 1, 1) := by decide +kernel
theorem dJ1_indexOf_4cfef_31 : decode cJ1_indexOf_4cfef 31 = .ok (.iload_n 2, 1) := by decide +kernel
theorem dJ1_indexOf_4cfef_32 : decode cJ1_indexOf_4cfef 32 = .ok (.iload_n 3, 1) := by decide +kernel
theorem dJ1_indexOf_4cfef_33 : decode cJ1_indexOf_4cfef 33 = .ok (.invokestatic 95, 3) := by decide +kernel
theorem dJ1_indexOf_4cfef_36 : decode cJ1_indexOf_4cfef 36 = .ok (.ireturn, 1) := by decide +kernel
theorem dJ1_indexOfChar_4cfef_0 : decode cJ1_indexOfChar_4cfef 0 = .ok (.iload_n 1, 1) := by decide +kernel
theorem dJ1_indexOfChar_4cfef_1 : decode cJ1_indexOfChar_4cfef 1 = .ok (.i2b, 1) := by decide +kernel
theorem dJ1_indexOfChar_4cfef_2 : decode cJ1_indexOfChar_4cfef 2 = .ok (.istore 4, 2) := by decide +kernel
theorem dJ1_indexOfChar_4cfef_4 : decode cJ1_indexOfChar_4cfef 4 = .ok (.iload_n 2, 1) := by decide +kernel
theorem dJ1_indexOfChar_4cfef_5 : decode cJ1_indexOfChar_4cfef 5 = .ok (.istore 5, 2) := by decide +kernel
theorem dJ1_indexOfChar_4cfef_7 : decode cJ1_indexOfChar_4cfef 7 = .ok (.iload 5, 2) := by decide +kernel
theorem dJ1_indexOfChar_4cfef_9 : decode cJ1_indexOfChar_4cfef 9 = .ok (.iload_n 3, 1) := by decide +kernel
theorem dJ1_indexOfChar_4cfef_10 : decode cJ1_indexOfChar_4cfef 10 = .ok (.if_icmp .ge 21, 3) := by decide +kernel
theorem dJ1_indexOfChar_4cfef_13 : decode cJ1_indexOfChar_4cfef 13 = .ok (.aload_n 0, 1) := by decide +kernel
theorem dJ1_indexOfChar_4cfef_14 : decode cJ1_indexOfChar_4cfef 14 = .ok (.iload 5, 2) := by decide +kernel
theorem dJ1_indexOfChar_4cfef_16 : decode cJ1_indexOfChar_4cfef 16 = .ok (.baload, 1) := by decide +kernel
theorem dJ1_indexOfChar_4cfef_17 : decode cJ1_indexOfChar_4cfef 17 = .ok (.iload 4, 2) := by decide +kernel
theorem dJ1_indexOfChar_4cfef_19 : decode cJ1_indexOfChar_4cfef 19 = .ok (.if_icmp .ne 6, 3) := by decide +kernel
theorem dJ1_indexOfChar_4cfef_22 : decode cJ1_indexOfChar_4cfef 22 = .ok (.iload 5, 2) := by decide +kernel
theorem dJ1_indexOfChar_4cfef_24 : decode cJ1_indexOfChar_4cfef 24 = .ok (.ireturn, 1) := by decide +kernel
theorem dJ1_indexOfChar_4cfef_25 : decode cJ1_indexOfChar_4cfef 25 = .ok (.iinc 5 1, 3) := by decide +kernel
theorem dJ1_indexOfChar_4cfef_28 : decode cJ1_indexOfChar_4cfef 28 = .ok (.goto (-21), 3) := by decide +kernel
theorem dJ1_indexOfChar_4cfef_31 : decode cJ1_indexOfChar_4cfef 31 = .ok (.iconst (-1), 1) := by decide +kernel
theorem dJ1_indexOfChar_4cfef_32 : decode cJ1_indexOfChar_4cfef 32 = .ok (.ireturn, 1) := by decide +kernel
theorem dJ2_getChar_3b067_0 : decode cJ2_getChar_3b067 0 = .ok (.getstatic 44, 3) := by decide +kernel
theorem dJ2_getChar_3b067_3 : decode cJ2_getChar_3b067 3 = .ok (.ifCond .ne 25, 3) := by decide +kernel
theorem dJ2_getChar_3b067_6 : decode cJ2_getChar_3b067 6 = .ok (.iload_n 1, 1) := by decide +kernel
theorem dJ2_getChar_3b067_7 : decode cJ2_getChar_3b067 7 = .ok (.ifCond .lt 11, 3) := by decide +kernel
theorem dJ2_getChar_3b067_10 : decode cJ2_getChar_3b067 10 = .ok (.iload_n 1, 1) := by decide +kernel
theorem dJ2_getChar_3b067_11 : decode cJ2_getChar_3b067 11 = .ok (.aload_n 0, 1) := by decide +kernel
theorem dJ2_getChar_3b067_12 : decode cJ2_getChar_3b067 12 = .ok (.invokestatic 48, 3) := by decide +kernel
theorem dJ2_getChar_3b067_15 : decode cJ2_getChar_3b067 15 = .ok (.if_icmp .lt 13, 3) := by decide +kernel
theorem dJ2_getChar_3b067_18 : decode cJ2_getChar_3b067 18 = .ok (.new 52, 3) := by decide +kernel
theorem dJ2_getChar_3b067_21 : decode cJ2_getChar_3b067 21 = .ok (.dup, 1) := by decide +kernel
theorem dJ2_getChar_3b067_22 : decode cJ2_getChar_3b067 22 = .ok (.ldc 54, 2) := by decide +kernel
theorem dJ2_getChar_3b067_24 : decode cJ2_getChar_3b067 24 = .ok (.invokespecial 56, 3) := by decide +kernel
theorem dJ2_getChar_3b067_27 : decode cJ2_getChar_3b067 27 = .ok (.athrow, 1) := by decide +kernel
theorem dJ2_getChar_3b067_28 : decode cJ2_getChar_3b067 28 = .ok (.iload_n 1, 1) := by decide +kernel
theorem dJ2_getChar_3b067_29 : decode cJ2_getChar_3b067 29 = .ok (.iconst 1, 1) := by decide +kernel
theorem dJ2_getChar_3b067_30 : decode cJ2_getChar_3b067 30 = .ok (.ishl, 1) := by decide +kernel
theorem dJ2_getChar_3b067_31 : decode cJ2_getChar_3b067 31 = .ok (.istore_n 1, 1) := by decide +kernel
theorem dJ2_getChar_3b067_32 : decode cJ2_getChar_3b067 32 = .ok (.aload_n 0, 1) := by decide +kernel
theorem dJ2_getChar_3b067_33 : decode cJ2_getChar_3b067 33 = .ok (.iload_n 1, 1) := by decide +kernel
theorem dJ2_getChar_3b067_34 : decode cJ2_getChar_3b067 34 = .ok (.iinc 1 1, 3) := by decide +kernel
theorem dJ2_getChar_3b067_37 : decode cJ2_getChar_3b067 37 = .ok (.baload, 1) := by decide +kernel
theorem dJ2_getChar_3b067_38 : decode cJ2_getChar_3b067 38 = .ok (.sipush 255, 3) := by decide +kernel
theorem dJ2_getChar_3b067_41 : decode cJ2_getChar_3b067 41 = .ok (.iand, 1) := by decide +kernel
theorem dJ2_getChar_3b067_42 : decode cJ2_getChar_3b067 42 = .ok (.getstatic 59, 3) := by decide +kernel
theorem dJ2_getChar_3b067_45 : decode cJ2_getChar_3b067 45 = .ok (.ishl, 1) := by decide +kernel
theorem dJ2_getChar_3b067_46 : decode cJ2_getChar_3b067 46 = .ok (.aload_n 0, 1) := by decide +kernel
theorem dJ2_getChar_3b067_47 : decode cJ2_getChar_3b067 47 = .ok (.iload_n 1, 1) := by decide +kernel
theorem dJ2_getChar_3b067_48 : decode cJ2_getChar_3b067 48 = .ok (.baload, 1) := by decide +kernel
theorem dJ2_getChar_3b067_49 : decode cJ2_getChar_3b067 49 = .ok (.sipush 255, 3) := by decide +kernel
theorem dJ2_getChar_3b067_52 : decode cJ2_getChar_3b067 52 = .ok (.iand, 1) := by decide +kernel
theorem dJ2_getChar_3b067_53 : decode cJ2_getChar_3b067 53 = .ok (.getstatic 63, 3) := by decide +kernel
theorem dJ2_getChar_3b067_56 : decode cJ2_getChar_3b067 56 = .ok (.ishl, 1) := by decide +kernel
theorem dJ2_getChar_3b067_57 : decode cJ2_getChar_3b067 57 = .ok (.ior, 1) := by decide +kernel
theorem dJ2_getChar_3b067_58 : decode cJ2_getChar_3b067 58 = .ok (.i2c, 1) := by decide +kernel
theorem dJ2_getChar_3b067_59 : decode cJ2_getChar_3b067 59 = .ok (.ireturn, 1) := by decide +kernel
theorem dJ2_length_9d52b_0 : decode cJ2_length_9d52b 0 = .ok (.aload_n 0, 1) := by decide +kernel
theorem dJ2_length_9d52b_1 : decode cJ2_length_9d52b 1 = .ok (.arraylength, 1) := by decide +kernel
theorem dJ2_length_9d52b_2 : decode cJ2_length_9d52b 2 = .ok (.iconst 1, 1) := by decide +kernel
theorem dJ2_length_9d52b_3 : decode cJ2_length_9d52b 3 = .ok (.ishr, 1) := by decide +kernel
theorem dJ2_length_9d52b_4 : decode cJ2_length_9d52b 4 = .ok (.ireturn, 1) := by decide +kernel
theorem dJ2_indexOf_4cfef_0 : decode cJ2_indexOf_4cfef 0 = .ok (.iload_n 2, 1) := by decide +kernel
theorem dJ2_indexOf_4cfef_1 : decode cJ2_indexOf_4cfef 1 = .ok (.iconst 0, 1) := by decide +kernel
theorem dJ2_indexOf_4cfef_2 : decode cJ2_indexOf_4cfef 2 = .ok (.invokestatic 224, 3) := by decide +kernel
theorem dJ2_indexOf_4cfef_5 : decode cJ2_indexOf_4cfef 5 = .ok (.istore_n 2, 1) := by decide +kernel
theorem dJ2_indexOf_4cfef_6 : decode cJ2_indexOf_4cfef 6 = .ok (.iload_n 3, 1) := by decide +kernel
theorem dJ2_indexOf_4cfef_7 : decode cJ2_indexOf_4cfef 7 = .ok (.aload_n 0, 1) := by decide +kernel
theorem dJ2_indexOf_4cfef_8 : decode cJ2_indexOf_4cfef 8 = .ok (.arraylength, 1) := by decide +kernel
theorem dJ2_indexOf_4cfef_9 : decode cJ2_indexOf_4cfef 9 = .ok (.iconst 1, 1) := by decide +kernel
theorem dJ2_indexOf_4cfef_10 : decode cJ2_indexOf_4cfef 10 = .ok (.ishr, 1) := by decide +kernel
theorem dJ2_indexOf_4cfef_11 : decode cJ2_indexOf_4cfef 11 = .ok (.invokestatic 183, 3) := by decide +kernel
theorem dJ2_indexOf_4cfef_14 : decode cJ2_indexOf_4cfef 14 = .ok (.istore_n 3, 1) := by decide +kernel
theorem dJ2_indexOf_4cfef_15 : decode cJ2_indexOf_4cfef 15 = .ok (.iload_n 2, 1) := by decide +kernel
theorem dJ2_indexOf_4cfef_16 : decode cJ2_indexOf_4cfef 16 = .ok (.iload_n 3, 1) := by decide +kernel
theorem dJ2_indexOf_4cfef_17 : decode cJ2_indexOf_4cfef 17 = .ok (.if_icmp .lt 5, 3) := by decide +kernel
theorem dJ2_indexOf_4cfef_20 : decode cJ2_indexOf_4cfef 20 = .ok (.iconst (-1), 1) := by decide +kernel
theorem dJ2_indexOf_4cfef_21 : decode cJ2_indexOf_4cfef 21 = .ok (.ireturn, 1) := by decide +kernel
theorem dJ2_indexOf_4cfef_22 : decode cJ2_indexOf_4cfef 22 = .ok (.iload_n 1, 1) := by decide +kernel
theorem dJ2_indexOf_4cfef_23 : decode cJ2_indexOf_4cfef 23 = .ok (.ldc 227, 2) := by decide +kernel
theorem dJ2_indexOf_4cfef_25 : decode cJ2_indexOf_4cfef 25 = .ok (.if_icmp .ge 11, 3) := by decide +kernel
theorem dJ2_indexOf_4cfef_28 : decode cJ2_indexOf_4cfef 28 = .ok (.aload_n 0, 1) := by decide +kernel
theorem dJ2_indexOf_4cfef_29 : decode cJ2_indexOf_4cfef 29 = .ok (.iload_n 1, 1) := by decide +kernel
theorem dJ2_indexOf_4cfef_30 : decode cJ2_indexOf_4cfef 30 = .ok (.iload_n 2, 1) := by decide +kernel
theorem dJ2_indexOf_4cfef_31 : decode cJ2_indexOf_4cfef 31 = .ok (.iload_n 3, 1) := by decide +kernel
theorem dJ2_indexOf_4cfef_32 : decode cJ2_indexOf_4cfef 32 = .ok (.invokestatic 228, 3) := by decide +kernel
theorem dJ2_indexOf_4cfef_35 : decode cJ2_indexOf_4cfef 35 = .ok (.ireturn, 1) := by decide +kernel
theorem dJ2_indexOf_4cfef_36 : decode cJ2_indexOf_4cfef 36 = .ok (.aload_n 0, 1) := by decide +kernel
theorem dJ2_indexOf_4cfef_37 : decode cJ2_indexOf_4cfef 37 = .ok (.iload_n 1, 1) := by decide +kernel
theorem dJ2_indexOf_4cfef_38 : decode cJ2_indexOf_4cfef 38 = .ok (.iload_n 2, 1) := by decide +kernel
theorem dJ2_indexOf_4cfef_39 : decode cJ2_indexOf_4cfef 39 = .ok (.iload_n 3, 1) := by decide +kernel
theorem dJ2_indexOf_4cfef_40 : decode cJ2_indexOf_4cfef 40 = .ok (.invokestatic 232, 3) := by decide +kernel
theorem dJ2_indexOf_4cfef_43 : decode cJ2_indexOf_4cfef 43 = .ok (.ireturn, 1) := by decide +kernel
theorem dJ2_indexOfChar_4cfef_0 : decode cJ2_indexOfChar_4cfef 0 = .ok (.iload_n 2, 1) := by decide +kernel
theorem dJ2_indexOfChar_4cfef_1 : decode cJ2_indexOfChar_4cfef 1 = .ok (.iload_n 3, 1) := by decide +kernel
theorem dJ2_indexOfChar_4cfef_2 : decode cJ2_indexOfChar_4cfef 2 = .ok (.aload_n 0, 1) := by decide +kernel
theorem dJ2_indexOfChar_4cfef_3 : decode cJ2_indexOfChar_4cfef 3 = .ok (.invokestatic 96, 3) := by decide +kernel
theorem dJ2_indexOfChar_4cfef_6 : decode cJ2_indexOfChar_4cfef 6 = .ok (.aload_n 0, 1) := by decide +kernel
theorem dJ2_indexOfChar_4cfef_7 : decode cJ2_indexOfChar_4cfef 7 = .ok (.iload_n 1, 1) := by decide +kernel
theorem dJ2_indexOfChar_4cfef_8 : decode cJ2_indexOfChar_4cfef 8 = .ok (.iload_n 2, 1) := by decide +kernel
theorem dJ2_indexOfChar_4cfef_9 : decode cJ2_indexOfChar_4cfef 9 = .ok (.iload_n 3, 1) := by decide +kernel
theorem dJ2_indexOfChar_4cfef_10 : decode cJ2_indexOfChar_4cfef 10 = .ok (.invokestatic 244, 3) := by decide +kernel
theorem dJ2_indexOfChar_4cfef_13 : decode cJ2_indexOfChar_4cfef 13 = .ok (.ireturn, 1) := by decide +kernel
theorem dJ2_indexOfCharUnsafe_4cfef_0 : decode cJ2_indexOfCharUnsafe_4cfef 0 = .ok (.iload_n 2, 1) := by decide +kernel
theorem dJ2_indexOfCharUnsafe_4cfef_1 : decode cJ2_indexOfCharUnsafe_4cfef 1 = .ok (.istore 4, 2) := by decide +kernel
theorem dJ2_indexOfCharUnsafe_4cfef_3 : decode cJ2_indexOfCharUnsafe_4cfef 3 = .ok (.iload 4, 2) := by decide +kernel
theorem dJ2_indexOfCharUnsafe_4cfef_5 : decode cJ2_indexOfCharUnsafe_4cfef 5 = .ok (.iload_n 3, 1) := by decide +kernel
theorem dJ2_indexOfCharUnsafe_4cfef_6 : decode cJ2_indexOfCharUnsafe_4cfef 6 = .ok (.if_icmp .ge 22, 3) := by decide +kernel
theorem dJ2_indexOfCharUnsafe_4cfef_9 : decode cJ2_indexOfCharUnsafe_4cfef 9 = .ok (.aload_n 0, 1) := by decide +kernel
theorem dJ2_indexOfCharUnsafe_4cfef_10 : decode cJ2_indexOfCharUnsafe_4cfef 10 = .ok (.iload 4, 2) := by decide +kernel
theorem dJ2_indexOfCharUnsafe_4cfef_12 : decode cJ2_indexOfCharUnsafe_4cfef 12 = .ok (.invokestatic 71, 3) := by decide +kernel
theorem dJ2_indexOfCharUnsafe_4cfef_15 : decode cJ2_indexOfCharUnsafe_4cfef 15 = .ok (.iload_n 1, 1) := by decide +kernel
theorem dJ2_indexOfCharUnsafe_4cfef_16 : decode cJ2_indexOfCharUnsafe_4cfef 16 = .ok (.if_icmp .ne 6, 3) := by decide +kernel
theorem dJ2_indexOfCharUnsafe_4cfef_19 : decode cJ2_indexOfCharUnsafe_4cfef 19 = .ok (.iload 4, 2) := by decide +kernel
theorem dJ2_indexOfCharUnsafe_4cfef_21 : decode cJ2_indexOfCharUnsafe_4cfef 21 = .ok (.ireturn, 1) := by decide +kernel
theorem dJ2_indexOfCharUnsafe_4cfef_22 : decode cJ2_indexOfCharUnsafe_4cfef 22 = .ok (.iinc 4 1, 3) := by decide +kernel
theorem dJ2_indexOfCharUnsafe_4cfef_25 : decode cJ2_indexOfCharUnsafe_4cfef 25 = .ok (.goto (-22), 3) := by decide +kernel
theorem dJ2_indexOfCharUnsafe_4cfef_28 : decode cJ2_indexOfCharUnsafe_4cfef 28 = .ok (.iconst (-1), 1) := by decide +kernel
theorem dJ2_indexOfCharUnsafe_4cfef_29 : decode cJ2_indexOfCharUnsafe_4cfef 29 = .ok (.ireturn, 1) := by decide +kernel
theorem dJ2_indexOfSupplementary_4cfef_0 : decode cJ2_indexOfSupplementary_4cfef 0 = .ok (.iload_n 1, 1) := by decide +kernel
theorem dJ2_indexOfSupplementary_4cfef_1 : decode cJ2_indexOfSupplementary_4cfef 1 = .ok (.invokestatic 164, 3) := by decide +kernel
theorem dJ2_indexOfSupplementary_4cfef_4 : decode cJ2_indexOfSupplementary_4cfef 4 = .ok (.ifCond .eq 65, 3) := by decide +kernel
theorem dJ2_indexOfSupplementary_4cfef_7 : decode cJ2_indexOfSupplementary_4cfef 7 = .ok (.iload_n 1, 1) := by decide +kernel
theorem dJ2_indexOfSupplementary_4cfef_8 : decode cJ2_indexOfSupplementary_4cfef 8 = .ok (.invokestatic 157, 3) := by decide +kernel
theorem dJ2_indexOfSupplementary_4cfef_11 : decode cJ2_indexOfSupplementary_4cfef 11 = .ok (.istore 4, 2) := by decide +kernel
theorem dJ2_indexOfSupplementary_4cfef_13 : decode cJ2_indexOfSupplementary_4cfef 13 = .ok (.iload_n 1, 1) := by decide +kernel
theorem dJ2_indexOfSupplementary_4cfef_14 : decode cJ2_indexOfSupplementary_4cfef 14 = .ok (.invokestatic 161, 3) := by decide +kernel
theorem dJ2_indexOfSupplementary_4cfef_17 : decode cJ2_indexOfSupplementary_4cfef 17 = .ok (.istore 5, 2) := by decide +kernel
theorem dJ2_indexOfSupplementary_4cfef_19 : decode cJ2_indexOfSupplementary_4cfef 19 = .ok (.iload_n 2, 1) := by decide +kernel
theorem dJ2_indexOfSupplementary_4cfef_20 : decode cJ2_indexOfSupplementary_4cfef 20 = .ok (.iload_n 3, 1) := by decide +kernel
theorem dJ2_indexOfSupplementary_4cfef_21 : decode cJ2_indexOfSupplementary_4cfef 21 = .ok (.aload_n 0, 1) := by decide +kernel
theorem dJ2_indexOfSupplementary_4cfef_22 : decode cJ2_indexOfSupplementary_4cfef 22 = .ok (.invokestatic 96, 3) := by decide +kernel
theorem dJ2_indexOfSupplementary_4cfef_25 : decode cJ2_indexOfSupplementary_4cfef 25 = .ok (.iload_n 2, 1) := by decide +kernel
theorem dJ2_indexOfSupplementary_4cfef_26 : decode cJ2_indexOfSupplementary_4cfef 26 = .ok (.istore 6, 2) := by decide +kernel
theorem dJ2_indexOfSupplementary_4cfef_28 : decode cJ2_indexOfSupplementary_4cfef 28 = .ok (.iload 6, 2) := by decide +kernel
theorem dJ2_indexOfSupplementary_4cfef_30 : decode cJ2_indexOfSupplementary_4cfef 30 = .ok (.iload_n 3, 1) := by decide +kernel
theorem dJ2_indexOfSupplementary_4cfef_31 : decode cJ2_indexOfSupplementary_4cfef 31 = .ok (.iconst 1, 1) := by decide +kernel
theorem dJ2_indexOfSupplementary_4cfef_32 : decode cJ2_indexOfSupplementary_4cfef 32 = .ok (.isub, 1) := by decide +kernel
theorem dJ2_indexOfSupplementary_4cfef_33 : decode cJ2_indexOfSupplementary_4cfef 33 = .ok (.if_icmp .ge 36, 3) := by decide +kernel
theorem dJ2_indexOfSupplementary_4cfef_36 : decode cJ2_indexOfSupplementary_4cfef 36 = .ok (.aload_n 0, 1) := by decide +kernel
theorem dJ2_indexOfSupplementary_4cfef_37 : decode cJ2_indexOfSupplementary_4cfef 37 = .ok (.iload 6, 2) := by decide +kernel
theorem dJ2_indexOfSupplementary_4cfef_39 : decode cJ2_indexOfSupplementary_4cfef 39 = .ok (.invokestatic 71, 3) := by decide +kernel
theorem dJ2_indexOfSupplementary_4cfef_42 : decode cJ2_indexOfSupplementary_4cfef 42 = .ok (.iload 4, 2) := by decide +kernel
theorem dJ2_indexOfSupplementary_4cfef_44 : decode cJ2_indexOfSupplementary_4cfef 44 = .ok (.if_icmp .ne 19, 3) := by decide +kernel
theorem dJ2_indexOfSupplementary_4cfef_47 : decode cJ2_indexOfSupplementary_4cfef 47 = .ok (.aload_n 0, 1) := by decide +kernel
theorem dJ2_indexOfSupplementary_4cfef_48 : decode cJ2_indexOfSupplementary_4cfef 48 = .ok (.iload 6, 2) := by decide +kernel
theorem dJ2_indexOfSupplementary_4cfef_50 : decode cJ2_indexOfSupplementary_4cfef 50 = .ok (.iconst 1, 1) := by decide +kernel
theorem dJ2_indexOfSupplementary_4cfef_51 : decode cJ2_indexOfSupplementary_4cfef 51 = .ok (.iadd, 1) := by decide +kernel
theorem dJ2_indexOfSupplementary_4cfef_52 : decode cJ2_indexOfSupplementary_4cfef 52 = .ok (.invokestatic 71, 3) := by decide +kernel
theorem dJ2_indexOfSupplementary_4cfef_55 : decode cJ2_indexOfSupplementary_4cfef 55 = .ok (.iload 5, 2) := by decide +kernel
theorem dJ2_indexOfSupplementary_4cfef_57 : decode cJ2_indexOfSupplementary_4cfef 57 = .ok (.if_icmp .ne 6, 3) := by decide +kernel
theorem dJ2_indexOfSupplementary_4cfef_60 : decode cJ2_indexOfSupplementary_4cfef 60 = .ok (.iload 6, 2) := by decide +kernel
theorem dJ2_indexOfSupplementary_4cfef_62 : decode cJ2_indexOfSupplementary_4cfef 62 = .ok (.ireturn, 1) := by decide +kernel
theorem dJ2_indexOfSupplementary_4cfef_63 : decode cJ2_indexOfSupplementary_4cfef 63 = .ok (.iinc 6 1, 3) := by decide +kernel
theorem dJ2_indexOfSupplementary_4cfef_66 : decode cJ2_indexOfSupplementary_4cfef 66 = .ok (.goto (-38), 3) := by decide +kernel
theorem dJ2_indexOfSupplementary_4cfef_69 : decode cJ2_indexOfSupplementary_4cfef 69 = .ok (.iconst (-1), 1) := by decide +kernel
theorem dJ2_indexOfSupplementary_4cfef_70 : decode cJ2_indexOfSupplementary_4cfef 70 = .ok (.ireturn, 1) := by decide +kernel
theorem dJ2_checkBoundsBeginEnd_d044e_0 : decode cJ2_checkBoundsBeginEnd_d044e 0 = .ok (.iload_n 0, 1) := by decide +kernel
theorem dJ2_checkBoundsBeginEnd_d044e_1 : decode cJ2_checkBoundsBeginEnd_d044e 1 = .ok (.iload_n 1, 1) := by decide +kernel
theorem dJ2_checkBoundsBeginEnd_d044e_2 : decode cJ2_checkBoundsBeginEnd_d044e 2 = .ok (.aload_n 2, 1) := by decide +kernel
theorem dJ2_checkBoundsBeginEnd_d044e_3 : decode cJ2_checkBoundsBeginEnd_d044e 3 = .ok (.invokestatic 48, 3) := by decide +kernel
theorem dJ2_checkBoundsBeginEnd_d044e_6 : decode cJ2_checkBoundsBeginEnd_d044e 6 = .ok (.invokestatic 241, 3) := by decide +kernel
theorem dJ2_checkBoundsBeginEnd_d044e_9 : decode cJ2_checkBoundsBeginEnd_d044e 9 = .ok (.return_, 1) := by decide +kernel
theorem dJ7_fill_53178_0 : decode cJ7_fill_53178 0 = .ok (.iconst 0, 1) := by decide +kernel
theorem dJ7_fill_53178_1 : decode cJ7_fill_53178 1 = .ok (.istore_n 2, 1) := by decide +kernel
theorem dJ7_fill_53178_2 : decode cJ7_fill_53178 2 = .ok (.aload_n 0, 1) := by decide +kernel
theorem dJ7_fill_53178_3 : decode cJ7_fill_53178 3 = .ok (.arraylength, 1) := by decide +kernel
theorem dJ7_fill_53178_4 : decode cJ7_fill_53178 4 = .ok (.istore_n 3, 1) := by decide +kernel
theorem dJ7_fill_53178_5 : decode cJ7_fill_53178 5 = .ok (.iload_n 2, 1) := by decide +kernel
theorem dJ7_fill_53178_6 : decode cJ7_fill_53178 6 = .ok (.iload_n 3, 1) := by decide +kernel
theorem dJ7_fill_53178_7 : decode cJ7_fill_53178 7 = .ok (.if_icmp .ge 13, 3) := by decide +kernel
theorem dJ7_fill_53178_10 : decode cJ7_fill_53178 10 = .ok (.aload_n 0, 1) := by decide +kernel
theorem dJ7_fill_53178_11 : decode cJ7_fill_53178 11 = .ok (.iload_n 2, 1) := by decide +kernel
theorem dJ7_fill_53178_12 : decode cJ7_fill_53178 12 = .ok (.iload_n 1, 1) := by decide +kernel
theorem dJ7_fill_53178_13 : decode cJ7_fill_53178 13 = .ok (.iastore, 1) := by decide +kernel
theorem dJ7_fill_53178_14 : decode cJ7_fill_53178 14 = .ok (.iinc 2 1, 3) := by decide +kernel
theorem dJ7_fill_53178_17 : decode cJ7_fill_53178 17 = .ok (.goto (-12), 3) := by decide +kernel
theorem dJ7_fill_53178_20 : decode cJ7_fill_53178 20 = .ok (.return_, 1) := by decide +kernel
theorem dJ7_fill_031fb_0 : decode cJ7_fill_031fb 0 = .ok (.iconst 0, 1) := by decide +kernel
theorem dJ7_fill_031fb_1 : decode cJ7_fill_031fb 1 = .ok (.istore_n 2, 1) := by decide +kernel
theorem dJ7_fill_031fb_2 : decode cJ7_fill_031fb 2 = .ok (.aload_n 0, 1) := by decide +kernel
theorem dJ7_fill_031fb_3 : decode cJ7_fill_031fb 3 = .ok (.arraylength, 1) := by decide +kernel
theorem dJ7_fill_031fb_4 : decode cJ7_fill_031fb 4 = .ok (.istore_n 3, 1) := by decide +kernel
theorem dJ7_fill_031fb_5 : decode cJ7_fill_031fb 5 = .ok (.iload_n 2, 1) := by decide +kernel
theorem dJ7_fill_031fb_6 : decode cJ7_fill_031fb 6 = .ok (.iload_n 3, 1) := by decide +kernel
theorem dJ7_fill_031fb_7 : decode cJ7_fill_031fb 7 = .ok (.if_icmp .ge 13, 3) := by decide +kernel
theorem dJ7_fill_031fb_10 : decode cJ7_fill_031fb 10 = .ok (.aload_n 0, 1) := by decide +kernel
theorem dJ7_fill_031fb_11 : decode cJ7_fill_031fb 11 = .ok (.iload_n 2, 1) := by decide +kernel
theorem dJ7_fill_031fb_12 : decode cJ7_fill_031fb 12 = .ok (.iload_n 1, 1) := by decide +kernel
theorem dJ7_fill_031fb_13 : decode cJ7_fill_031fb 13 = .ok (.bastore, 1) := by decide +kernel
theorem dJ7_fill_031fb_14 : decode cJ7_fill_031fb 14 = .ok (.iinc 2 1, 3) := by decide +kernel
theorem dJ7_fill_031fb_17 : decode cJ7_fill_031fb 17 = .ok (.goto (-12), 3) := by decide +kernel
theorem dJ7_fill_031fb_20 : decode cJ7_fill_031fb 20 = .ok (.return_, 1) := by decide +kernel
theorem dJ3_checkFromToIndex_8c36e_0 : decode cJ3_checkFromToIndex_8c36e 0 = .ok (.iload_n 0, 1) := by decide +kernel
theorem dJ3_checkFromToIndex_8c36e_1 : decode cJ3_checkFromToIndex_8c36e 1 = .ok (.ifCond .lt 13, 3) := by decide +kernel
theorem dJ3_checkFromToIndex_8c36e_4 : decode cJ3_checkFromToIndex_8c36e 4 = .ok (.iload_n 0, 1) := by decide +kernel
theorem dJ3_checkFromToIndex_8c36e_5 : decode cJ3_checkFromToIndex_8c36e 5 = .ok (.iload_n 1, 1) := by decide +kernel
theorem dJ3_checkFromToIndex_8c36e_6 : decode cJ3_checkFromToIndex_8c36e 6 = .ok (.if_icmp .gt 8, 3) := by decide +kernel
theorem dJ3_checkFromToIndex_8c36e_9 : decode cJ3_checkFromToIndex_8c36e 9 = .ok (.iload_n 1, 1) := by decide +kernel
theorem dJ3_checkFromToIndex_8c36e_10 : decode cJ3_checkFromToIndex_8c36e 10 = .ok (.iload_n 2, 1) := by decide +kernel
theorem dJ3_checkFromToIndex_8c36e_11 : decode cJ3_checkFromToIndex_8c36e 11 = .ok (.if_icmp .le 11, 3) := by decide +kernel
theorem dJ3_checkFromToIndex_8c36e_14 : decode cJ3_checkFromToIndex_8c36e 14 = .ok (.aload_n 3, 1) := by decide +kernel
theorem dJ3_checkFromToIndex_8c36e_15 : decode cJ3_checkFromToIndex_8c36e 15 = .ok (.iload_n 0, 1) := by decide +kernel
theorem dJ3_checkFromToIndex_8c36e_16 : decode cJ3_checkFromToIndex_8c36e 16 = .ok (.iload_n 1, 1) := by decide +kernel
theorem dJ3_checkFromToIndex_8c36e_17 : decode cJ3_checkFromToIndex_8c36e 17 = .ok (.iload_n 2, 1) := by decide +kernel
theorem dJ3_checkFromToIndex_8c36e_18 : decode cJ3_checkFromToIndex_8c36e 18 = .ok (.invokestatic 99, 3) := by decide +kernel
theorem dJ3_checkFromToIndex_8c36e_21 : decode cJ3_checkFromToIndex_8c36e 21 = .ok (.athrow, 1) := by decide +kernel
theorem dJ3_checkFromToIndex_8c36e_22 : decode cJ3_checkFromToIndex_8c36e 22 = .ok (.iload_n 0, 1) := by decide +kernel
theorem dJ3_checkFromToIndex_8c36e_23 : decode cJ3_checkFromToIndex_8c36e 23 = .ok (.ireturn, 1) := by decide +kernel
theorem dL_law_0 : decode cL_law 0 = .ok (.new 7, 3) := by decide +kernel
theorem dL_law_3 : decode cL_law 3 = .ok (.dup, 1) := by decide +kernel
theorem dL_law_4 : decode cL_law 4 = .ok (.invokespecial 9, 3) := by decide +kernel
theorem dL_law_7 : decode cL_law 7 = .ok (.astore_n 1, 1) := by decide +kernel
theorem dL_law_8 : decode cL_law 8 = .ok (.new 10, 3) := by decide +kernel
theorem dL_law_11 : decode cL_law 11 = .ok (.dup, 1) := by decide +kernel
theorem dL_law_12 : decode cL_law 12 = .ok (.invokespecial 12, 3) := by decide +kernel
theorem dL_law_15 : decode cL_law 15 = .ok (.astore_n 2, 1) := by decide +kernel
theorem dL_law_16 : decode cL_law 16 = .ok (.iconst 0, 1) := by decide +kernel
theorem dL_law_17 : decode cL_law 17 = .ok (.istore_n 3, 1) := by decide +kernel
theorem dL_law_18 : decode cL_law 18 = .ok (.iload_n 3, 1) := by decide +kernel
theorem dL_law_19 : decode cL_law 19 = .ok (.aload_n 0, 1) := by decide +kernel
theorem dL_law_20 : decode cL_law 20 = .ok (.arraylength, 1) := by decide +kernel
theorem dL_law_21 : decode cL_law 21 = .ok (.bipush 6, 2) := by decide +kernel
theorem dL_law_23 : decode cL_law 23 = .ok (.isub, 1) := by decide +kernel
theorem dL_law_24 : decode cL_law 24 = .ok (.if_icmp .gt 1463, 3) := by decide +kernel
theorem dL_law_27 : decode cL_law 27 = .ok (.aload_n 0, 1) := by decide +kernel
theorem dL_law_28 : decode cL_law 28 = .ok (.iload_n 3, 1) := by decide +kernel
theorem dL_law_29 : decode cL_law 29 = .ok (.iaload, 1) := by decide +kernel
theorem dL_law_30 : decode cL_law 30 = .ok (.bipush 63, 2) := by decide +kernel
theorem dL_law_32 : decode cL_law 32 = .ok (.iand, 1) := by decide +kernel
theorem dL_law_33 : decode cL_law 33 = .ok (.tableswitch 1448 0 38 #[171, 204, 237, 270, 303, 336, 369, 412, 445, 478, 511, 574, 597, 650, 673, 696, 739, 772, 785, 828, 871, 904, 927, 970, 1003, 1056, 1079, 1122, 1145, 1188, 1231, 1294, 1317, 1340, 1353, 1366, 1389, 1402, 1425], 171) := by decide +kernel
theorem dL_law_204 : decode cL_law 204 = .ok (.aload_n 1, 1) := by decide +kernel
theorem dL_law_205 : decode cL_law 205 = .ok (.aload_n 0, 1) := by decide +kernel
theorem dL_law_206 : decode cL_law 206 = .ok (.iload_n 3, 1) := by decide +kernel
theorem dL_law_207 : decode cL_law 207 = .ok (.iconst 1, 1) := by decide +kernel
theorem dL_law_208 : decode cL_law 208 = .ok (.iadd, 1) := by decide +kernel
theorem dL_law_209 : decode cL_law 209 = .ok (.iaload, 1) := by decide +kernel
theorem dL_law_210 : decode cL_law 210 = .ok (.aload_n 0, 1) := by decide +kernel
theorem dL_law_211 : decode cL_law 211 = .ok (.iload_n 3, 1) := by decide +kernel
theorem dL_law_212 : decode cL_law 212 = .ok (.iconst 2, 1) := by decide +kernel
theorem dL_law_213 : decode cL_law 213 = .ok (.iadd, 1) := by decide +kernel
theorem dL_law_214 : decode cL_law 214 = .ok (.iaload, 1) := by decide +kernel
theorem dL_law_215 : decode cL_law 215 = .ok (.invokevirtual 13, 3) := by decide +kernel
theorem dL_law_218 : decode cL_law 218 = .ok (.aload_n 2, 1) := by decide +kernel
theorem dL_law_219 : decode cL_law 219 = .ok (.aload_n 0, 1) := by decide +kernel
theorem dL_law_220 : decode cL_law 220 = .ok (.iload_n 3, 1) := by decide +kernel
theorem dL_law_221 : decode cL_law 221 = .ok (.iconst 1, 1) := by decide +kernel
theorem dL_law_222 : decode cL_law 222 = .ok (.iadd, 1) := by decide +kernel
theorem dL_law_223 : decode cL_law 223 = .ok (.iaload, 1) := by decide +kernel
theorem dL_law_224 : decode cL_law 224 = .ok (.aload_n 0, 1) := by decide +kernel
theorem dL_law_225 : decode cL_law 225 = .ok (.iload_n 3, 1) := by decide +kernel
theorem dL_law_226 : decode cL_law 226 = .ok (.iconst 2, 1) := by decide +kernel
theorem dL_law_227 : decode cL_law 227 = .ok (.iadd, 1) := by decide +kernel
theorem dL_law_228 : decode cL_law 228 = .ok (.iaload, 1) := by decide +kernel
theorem dL_law_229 : decode cL_law 229 = .ok (.invokevirtual 17, 3) := by decide +kernel
theorem dL_law_232 : decode cL_law 232 = .ok (.if_icmp .eq 1249, 3) := by decide +kernel
theorem dL_law_235 : decode cL_law 235 = .ok (.iconst 0, 1) := by decide +kernel
theorem dL_law_236 : decode cL_law 236 = .ok (.ireturn, 1) := by decide +kernel
theorem dL_law_237 : decode cL_law 237 = .ok (.aload_n 1, 1) := by decide +kernel
theorem dL_law_238 : decode cL_law 238 = .ok (.aload_n 0, 1) := by decide +kernel
theorem dL_law_239 : decode cL_law 239 = .ok (.iload_n 3, 1) := by decide +kernel
theorem dL_law_240 : decode cL_law 240 = .ok (.iconst 1, 1) := by decide +kernel
theorem dL_law_241 : decode cL_law 241 = .ok (.iadd, 1) := by decide +kernel
theorem dL_law_242 : decode cL_law 242 = .ok (.iaload, 1) := by decide +kernel
theorem dL_law_243 : decode cL_law 243 = .ok (.aload_n 0, 1) := by decide +kernel
theorem dL_law_244 : decode cL_law 244 = .ok (.iload_n 3, 1) := by decide +kernel
theorem dL_law_245 : decode cL_law 245 = .ok (.iconst 2, 1) := by decide +kernel
theorem dL_law_246 : decode cL_law 246 = .ok (.iadd, 1) := by decide +kernel
theorem dL_law_247 : decode cL_law 247 = .ok (.iaload, 1) := by decide +kernel
theorem dL_law_248 : decode cL_law 248 = .ok (.invokevirtual 18, 3) := by decide +kernel
theorem dL_law_251 : decode cL_law 251 = .ok (.aload_n 2, 1) := by decide +kernel
theorem dL_law_252 : decode cL_law 252 = .ok (.aload_n 0, 1) := by decide +kernel
theorem dL_law_253 : decode cL_law 253 = .ok (.iload_n 3, 1) := by decide +kernel
theorem dL_law_254 : decode cL_law 254 = .ok (.iconst 1, 1) := by decide +kernel
theorem dL_law_255 : decode cL_law 255 = .ok (.iadd, 1) := by decide +kernel
theorem dL_law_256 : decode cL_law 256 = .ok (.iaload, 1) := by decide +kernel
theorem dL_law_257 : decode cL_law 257 = .ok (.aload_n 0, 1) := by decide +kernel
theorem dL_law_258 : decode cL_law 258 = .ok (.iload_n 3, 1) := by decide +kernel
theorem dL_law_259 : decode cL_law 259 = .ok (.iconst 2, 1) := by decide +kernel
theorem dL_law_260 : decode cL_law 260 = .ok (.iadd, 1) := by decide +kernel
theorem dL_law_261 : decode cL_law 261 = .ok (.iaload, 1) := by decide +kernel
theorem dL_law_262 : decode cL_law 262 = .ok (.invokevirtual 21, 3) := by decide +kernel
theorem dL_law_265 : decode cL_law 265 = .ok (.if_icmp .eq 1216, 3) := by decide +kernel
theorem dL_law_268 : decode cL_law 268 = .ok (.iconst 0, 1) := by decide +kernel
theorem dL_law_269 : decode cL_law 269 = .ok (.ireturn, 1) := by decide +kernel
theorem dL_law_270 : decode cL_law 270 = .ok (.aload_n 1, 1) := by decide +kernel
theorem dL_law_271 : decode cL_law 271 = .ok (.aload_n 0, 1) := by decide +kernel
theorem dL_law_272 : decode cL_law 272 = .ok (.iload_n 3, 1) := by decide +kernel
theorem dL_law_273 : decode cL_law 273 = .ok (.iconst 1, 1) := by decide +kernel
theorem dL_law_274 : decode cL_law 274 = .ok (.iadd, 1) := by decide +kernel
theorem dL_law_275 : decode cL_law 275 = .ok (.iaload, 1) := by decide +kernel
theorem dL_law_276 : decode cL_law 276 = .ok (.aload_n 0, 1) := by decide +kernel
theorem dL_law_277 : decode cL_law 277 = .ok (.iload_n 3, 1) := by decide +kernel
theorem dL_law_278 : decode cL_law 278 = .ok (.iconst 2, 1) := by decide +kernel
theorem dL_law_279 : decode cL_law 279 = .ok (.iadd, 1) := by decide +kernel
theorem dL_law_280 : decode cL_law 280 = .ok (.iaload, 1) := by decide +kernel
theorem dL_law_281 : decode cL_law 281 = .ok (.invokevirtual 22, 3) := by decide +kernel
theorem dL_law_284 : decode cL_law 284 = .ok (.aload_n 2, 1) := by decide +kernel
theorem dL_law_285 : decode cL_law 285 = .ok (.aload_n 0, 1) := by decide +kernel
theorem dL_law_286 : decode cL_law 286 = .ok (.iload_n 3, 1) := by decide +kernel
theorem dL_law_287 : decode cL_law 287 = .ok (.iconst 1, 1) := by decide +kernel
theorem dL_law_288 : decode cL_law 288 = .ok (.iadd, 1) := by decide +kernel
theorem dL_law_289 : decode cL_law 289 = .ok (.iaload, 1) := by decide +kernel
theorem dL_law_290 : decode cL_law 290 = .ok (.aload_n 0, 1) := by decide +kernel
theorem dL_law_291 : decode cL_law 291 = .ok (.iload_n 3, 1) := by decide +kernel
theorem dL_law_292 : decode cL_law 292 = .ok (.iconst 2, 1) := by decide +kernel
theorem dL_law_293 : decode cL_law 293 = .ok (.iadd, 1) := by decide +kernel
theorem dL_law_294 : decode cL_law 294 = .ok (.iaload, 1) := by decide +kernel
theorem dL_law_295 : decode cL_law 295 = .ok (.invokevirtual 25, 3) := by decide +kernel
theorem dL_law_298 : decode cL_law 298 = .ok (.if_icmp .eq 1183, 3) := by decide +kernel
theorem dL_law_301 : decode cL_law 301 = .ok (.iconst 0, 1) := by decide +kernel
theorem dL_law_302 : decode cL_law 302 = .ok (.ireturn, 1) := by decide +kernel
theorem dL_law_303 : decode cL_law 303 = .ok (.aload_n 1, 1) := by decide +kernel
theorem dL_law_304 : decode cL_law 304 = .ok (.aload_n 0, 1) := by decide +kernel
theorem dL_law_305 : decode cL_law 305 = .ok (.iload_n 3, 1) := by decide +kernel
theorem dL_law_306 : decode cL_law 306 = .ok (.iconst 1, 1) := by decide +kernel
theorem dL_law_307 : decode cL_law 307 = .ok (.iadd, 1) := by decide +kernel
theorem dL_law_308 : decode cL_law 308 = .ok (.iaload, 1) := by decide +kernel
theorem dL_law_309 : decode cL_law 309 = .ok (.aload_n 0, 1) := by decide +kernel
theorem dL_law_310 : decode cL_law 310 = .ok (.iload_n 3, 1) := by decide +kernel
theorem dL_law_311 : decode cL_law 311 = .ok (.iconst 2, 1) := by decide +kernel
theorem dL_law_312 : decode cL_law 312 = .ok (.iadd, 1) := by decide +kernel
theorem dL_law_313 : decode cL_law 313 = .ok (.iaload, 1) := by decide +kernel
theorem dL_law_314 : decode cL_law 314 = .ok (.invokevirtual 26, 3) := by decide +kernel
theorem dL_law_317 : decode cL_law 317 = .ok (.aload_n 2, 1) := by decide +kernel
theorem dL_law_318 : decode cL_law 318 = .ok (.aload_n 0, 1) := by decide +kernel
theorem dL_law_319 : decode cL_law 319 = .ok (.iload_n 3, 1) := by decide +kernel
theorem dL_law_320 : decode cL_law 320 = .ok (.iconst 1, 1) := by decide +kernel
theorem dL_law_321 : decode cL_law 321 = .ok (.iadd, 1) := by decide +kernel
theorem dL_law_322 : decode cL_law 322 = .ok (.iaload, 1) := by decide +kernel
theorem dL_law_323 : decode cL_law 323 = .ok (.aload_n 0, 1) := by decide +kernel
theorem dL_law_324 : decode cL_law 324 = .ok (.iload_n 3, 1) := by decide +kernel
theorem dL_law_325 : decode cL_law 325 = .ok (.iconst 2, 1) := by decide +kernel
theorem dL_law_326 : decode cL_law 326 = .ok (.iadd, 1) := by decide +kernel
theorem dL_law_327 : decode cL_law 327 = .ok (.iaload, 1) := by decide +kernel
theorem dL_law_328 : decode cL_law 328 = .ok (.invokevirtual 29, 3) := by decide +kernel
theorem dL_law_331 : decode cL_law 331 = .ok (.if_icmp .eq 1150, 3) := by decide +kernel
theorem dL_law_334 : decode cL_law 334 = .ok (.iconst 0, 1) := by decide +kernel
theorem dL_law_335 : decode cL_law 335 = .ok (.ireturn, 1) := by decide +kernel
theorem dL_law_336 : decode cL_law 336 = .ok (.aload_n 1, 1) := by decide +kernel
theorem dL_law_337 : decode cL_law 337 = .ok (.aload_n 0, 1) := by decide +kernel
theorem dL_law_338 : decode cL_law 338 = .ok (.iload_n 3, 1) := by decide +kernel
theorem dL_law_339 : decode cL_law 339 = .ok (.iconst 1, 1) := by decide +kernel
theorem dL_law_340 : decode cL_law 340 = .ok (.iadd, 1) := by decide +kernel
theorem dL_law_341 : decode cL_law 341 = .ok (.iaload, 1) := by decide +kernel
theorem dL_law_342 : decode cL_law 342 = .ok (.aload_n 0, 1) := by decide +kernel
theorem dL_law_343 : decode cL_law 343 = .ok (.iload_n 3, 1) := by decide +kernel
theorem dL_law_344 : decode cL_law 344 = .ok (.iconst 2, 1) := by decide +kernel
theorem dL_law_345 : decode cL_law 345 = .ok (.iadd, 1) := by decide +kernel
theorem dL_law_346 : decode cL_law 346 = .ok (.iaload, 1) := by decide +kernel
theorem dL_law_347 : decode cL_law 347 = .ok (.invokevirtual 30, 3) := by decide +kernel
theorem dL_law_350 : decode cL_law 350 = .ok (.aload_n 2, 1) := by decide +kernel
theorem dL_law_351 : decode cL_law 351 = .ok (.aload_n 0, 1) := by decide +kernel
theorem dL_law_352 : decode cL_law 352 = .ok (.iload_n 3, 1) := by decide +kernel
theorem dL_law_353 : decode cL_law 353 = .ok (.iconst 1, 1) := by decide +kernel
theorem dL_law_354 : decode cL_law 354 = .ok (.iadd, 1) := by decide +kernel
theorem dL_law_355 : decode cL_law 355 = .ok (.iaload, 1) := by decide +kernel
theorem dL_law_356 : decode cL_law 356 = .ok (.aload_n 0, 1) := by decide +kernel
theorem dL_law_357 : decode cL_law 357 = .ok (.iload_n 3, 1) := by decide +kernel
theorem dL_law_358 : decode cL_law 358 = .ok (.iconst 2, 1) := by decide +kernel
theorem dL_law_359 : decode cL_law 359 = .ok (.iadd, 1) := by decide +kernel
theorem dL_law_360 : decode cL_law 360 = .ok (.iaload, 1) := by decide +kernel
theorem dL_law_361 : decode cL_law 361 = .ok (.invokevirtual 33, 3) := by decide +kernel
theorem dL_law_364 : decode cL_law 364 = .ok (.if_icmp .eq 1117, 3) := by decide +kernel
theorem dL_law_367 : decode cL_law 367 = .ok (.iconst 0, 1) := by decide +kernel
theorem dL_law_368 : decode cL_law 368 = .ok (.ireturn, 1) := by decide +kernel
theorem dL_law_369 : decode cL_law 369 = .ok (.aload_n 1, 1) := by decide +kernel
theorem dL_law_370 : decode cL_law 370 = .ok (.aload_n 0, 1) := by decide +kernel
theorem dL_law_371 : decode cL_law 371 = .ok (.iload_n 3, 1) := by decide +kernel
theorem dL_law_372 : decode cL_law 372 = .ok (.iconst 1, 1) := by decide +kernel
theorem dL_law_373 : decode cL_law 373 = .ok (.iadd, 1) := by decide +kernel
theorem dL_law_374 : decode cL_law 374 = .ok (.iaload, 1) := by decide +kernel
theorem dL_law_375 : decode cL_law 375 = .ok (.aload_n 0, 1) := by decide +kernel
theorem dL_law_376 : decode cL_law 376 = .ok (.iload_n 3, 1) := by decide +kernel
theorem dL_law_377 : decode cL_law 377 = .ok (.iconst 2, 1) := by decide +kernel
theorem dL_law_378 : decode cL_law 378 = .ok (.iadd, 1) := by decide +kernel
theorem dL_law_379 : decode cL_law 379 = .ok (.iaload, 1) := by decide +kernel
theorem dL_law_380 : decode cL_law 380 = .ok (.invokevirtual 34, 3) := by decide +kernel
theorem dL_law_383 : decode cL_law 383 = .ok (.aload_n 2, 1) := by decide +kernel
theorem dL_law_384 : decode cL_law 384 = .ok (.aload_n 0, 1) := by decide +kernel
theorem dL_law_385 : decode cL_law 385 = .ok (.iload_n 3, 1) := by decide +kernel
theorem dL_law_386 : decode cL_law 386 = .ok (.iconst 1, 1) := by decide +kernel
theorem dL_law_387 : decode cL_law 387 = .ok (.iadd, 1) := by decide +kernel
theorem dL_law_388 : decode cL_law 388 = .ok (.iaload, 1) := by decide +kernel
theorem dL_law_389 : decode cL_law 389 = .ok (.aload_n 0, 1) := by decide +kernel
theorem dL_law_390 : decode cL_law 390 = .ok (.iload_n 3, 1) := by decide +kernel
theorem dL_law_391 : decode cL_law 391 = .ok (.iconst 2, 1) := by decide +kernel
theorem dL_law_392 : decode cL_law 392 = .ok (.iadd, 1) := by decide +kernel
theorem dL_law_393 : decode cL_law 393 = .ok (.iaload, 1) := by decide +kernel
theorem dL_law_394 : decode cL_law 394 = .ok (.invokevirtual 37, 3) := by decide +kernel
theorem dL_law_397 : decode cL_law 397 = .ok (.if_icmp .eq 1084, 3) := by decide +kernel
theorem dL_law_400 : decode cL_law 400 = .ok (.iconst 0, 1) := by decide +kernel
theorem dL_law_401 : decode cL_law 401 = .ok (.ireturn, 1) := by decide +kernel
theorem dL_law_402 : decode cL_law 402 = .ok (.aload_n 1, 1) := by decide +kernel
theorem dL_law_403 : decode cL_law 403 = .ok (.aload_n 0, 1) := by decide +kernel
theorem dL_law_404 : decode cL_law 404 = .ok (.iload_n 3, 1) := by decide +kernel
theorem dL_law_405 : decode cL_law 405 = .ok (.iconst 1, 1) := by decide +kernel
theorem dL_law_406 : decode cL_law 406 = .ok (.iadd, 1) := by decide +kernel
theorem dL_law_407 : decode cL_law 407 = .ok (.iaload, 1) := by decide +kernel
theorem dL_law_408 : decode cL_law 408 = .ok (.aload_n 0, 1) := by decide +kernel
theorem dL_law_409 : decode cL_law 409 = .ok (.iload_n 3, 1) := by decide +kernel
theorem dL_law_410 : decode cL_law 410 = .ok (.iconst 2, 1) := by decide +kernel
theorem dL_law_411 : decode cL_law 411 = .ok (.iadd, 1) := by decide +kernel
theorem dL_law_412 : decode cL_law 412 = .ok (.iaload, 1) := by decide +kernel
theorem dL_law_413 : decode cL_law 413 = .ok (.aload_n 0, 1) := by decide +kernel
theorem dL_law_414 : decode cL_law 414 = .ok (.iload_n 3, 1) := by decide +kernel
theorem dL_law_415 : decode cL_law 415 = .ok (.iconst 3, 1) := by decide +kernel
theorem dL_law_416 : decode cL_law 416 = .ok (.iadd, 1) := by decide +kernel
theorem dL_law_417 : decode cL_law 417 = .ok (.iaload, 1) := by decide +kernel
theorem dL_law_418 : decode cL_law 418 = .ok (.invokevirtual 38, 3) := by decide +kernel
theorem dL_law_421 : decode cL_law 421 = .ok (.aload_n 2, 1) := by decide +kernel
theorem dL_law_422 : decode cL_law 422 = .ok (.aload_n 0, 1) := by decide +kernel
theorem dL_law_423 : decode cL_law 423 = .ok (.iload_n 3, 1) := by decide +kernel
theorem dL_law_424 : decode cL_law 424 = .ok (.iconst 1, 1) := by decide +kernel
theorem dL_law_425 : decode cL_law 425 = .ok (.iadd, 1) := by decide +kernel
theorem dL_law_426 : decode cL_law 426 = .ok (.iaload, 1) := by decide +kernel
theorem dL_law_427 : decode cL_law 427 = .ok (.aload_n 0, 1) := by decide +kernel
theorem dL_law_428 : decode cL_law 428 = .ok (.iload_n 3, 1) := by decide +kernel
theorem dL_law_429 : decode cL_law 429 = .ok (.iconst 2, 1) := by decide +kernel
theorem dL_law_430 : decode cL_law 430 = .ok (.iadd, 1) := by decide +kernel
theorem dL_law_431 : decode cL_law 431 = .ok (.iaload, 1) := by decide +kernel
theorem dL_law_432 : decode cL_law 432 = .ok (.aload_n 0, 1) := by decide +kernel
theorem dL_law_433 : decode cL_law 433 = .ok (.iload_n 3, 1) := by decide +kernel
theorem dL_law_434 : decode cL_law 434 = .ok (.iconst 3, 1) := by decide +kernel
theorem dL_law_435 : decode cL_law 435 = .ok (.iadd, 1) := by decide +kernel
theorem dL_law_436 : decode cL_law 436 = .ok (.iaload, 1) := by decide +kernel
theorem dL_law_437 : decode cL_law 437 = .ok (.invokevirtual 42, 3) := by decide +kernel
theorem dL_law_440 : decode cL_law 440 = .ok (.if_icmp .eq 1041, 3) := by decide +kernel
theorem dL_law_443 : decode cL_law 443 = .ok (.iconst 0, 1) := by decide +kernel
theorem dL_law_444 : decode cL_law 444 = .ok (.ireturn, 1) := by decide +kernel
theorem dL_law_445 : decode cL_law 445 = .ok (.aload_n 1, 1) := by decide +kernel
theorem dL_law_446 : decode cL_law 446 = .ok (.aload_n 0, 1) := by decide +kernel
theorem dL_law_447 : decode cL_law 447 = .ok (.iload_n 3, 1) := by decide +kernel
theorem dL_law_448 : decode cL_law 448 = .ok (.iconst 1, 1) := by decide +kernel
theorem dL_law_449 : decode cL_law 449 = .ok (.iadd, 1) := by decide +kernel
theorem dL_law_450 : decode cL_law 450 = .ok (.iaload, 1) := by decide +kernel
theorem dL_law_451 : decode cL_law 451 = .ok (.aload_n 0, 1) := by decide +kernel
theorem dL_law_452 : decode cL_law 452 = .ok (.iload_n 3, 1) := by decide +kernel
theorem dL_law_453 : decode cL_law 453 = .ok (.iconst 2, 1) := by decide +kernel
theorem dL_law_454 : decode cL_law 454 = .ok (.iadd, 1) := by decide +kernel
theorem dL_law_455 : decode cL_law 455 = .ok (.iaload, 1) := by decide +kernel
theorem dL_law_456 : decode cL_law 456 = .ok (.invokevirtual 43, 3) := by decide +kernel
theorem dL_law_459 : decode cL_law 459 = .ok (.aload_n 2, 1) := by decide +kernel
theorem dL_law_460 : decode cL_law 460 = .ok (.aload_n 0, 1) := by decide +kernel
theorem dL_law_461 : decode cL_law 461 = .ok (.iload_n 3, 1) := by decide +kernel
theorem dL_law_462 : decode cL_law 462 = .ok (.iconst 1, 1) := by decide +kernel
theorem dL_law_463 : decode cL_law 463 = .ok (.iadd, 1) := by decide +kernel
theorem dL_law_464 : decode cL_law 464 = .ok (.iaload, 1) := by decide +kernel
theorem dL_law_465 : decode cL_law 465 = .ok (.aload_n 0, 1) := by decide +kernel
theorem dL_law_466 : decode cL_law 466 = .ok (.iload_n 3, 1) := by decide +kernel
theorem dL_law_467 : decode cL_law 467 = .ok (.iconst 2, 1) := by decide +kernel
theorem dL_law_468 : decode cL_law 468 = .ok (.iadd, 1) := by decide +kernel
theorem dL_law_469 : decode cL_law 469 = .ok (.iaload, 1) := by decide +kernel
theorem dL_law_470 : decode cL_law 470 = .ok (.invokevirtual 46, 3) := by decide +kernel
theorem dL_law_473 : decode cL_law 473 = .ok (.if_icmp .eq 1008, 3) := by decide +kernel
theorem dL_law_476 : decode cL_law 476 = .ok (.iconst 0, 1) := by decide +kernel
theorem dL_law_477 : decode cL_law 477 = .ok (.ireturn, 1) := by decide +kernel
theorem dL_law_478 : decode cL_law 478 = .ok (.aload_n 1, 1) := by decide +kernel
theorem dL_law_479 : decode cL_law 479 = .ok (.aload_n 0, 1) := by decide +kernel
theorem dL_law_480 : decode cL_law 480 = .ok (.iload_n 3, 1) := by decide +kernel
theorem dL_law_481 : decode cL_law 481 = .ok (.iconst 1, 1) := by decide +kernel
theorem dL_law_482 : decode cL_law 482 = .ok (.iadd, 1) := by decide +kernel
theorem dL_law_483 : decode cL_law 483 = .ok (.iaload, 1) := by decide +kernel
theorem dL_law_484 : decode cL_law 484 = .ok (.aload_n 0, 1) := by decide +kernel
theorem dL_law_485 : decode cL_law 485 = .ok (.iload_n 3, 1) := by decide +kernel
theorem dL_law_486 : decode cL_law 486 = .ok (.iconst 2, 1) := by decide +kernel
theorem dL_law_487 : decode cL_law 487 = .ok (.iadd, 1) := by decide +kernel
theorem dL_law_488 : decode cL_law 488 = .ok (.iaload, 1) := by decide +kernel
theorem dL_law_489 : decode cL_law 489 = .ok (.invokevirtual 47, 3) := by decide +kernel
theorem dL_law_492 : decode cL_law 492 = .ok (.aload_n 2, 1) := by decide +kernel
theorem dL_law_493 : decode cL_law 493 = .ok (.aload_n 0, 1) := by decide +kernel
theorem dL_law_494 : decode cL_law 494 = .ok (.iload_n 3, 1) := by decide +kernel
theorem dL_law_495 : decode cL_law 495 = .ok (.iconst 1, 1) := by decide +kernel
theorem dL_law_496 : decode cL_law 496 = .ok (.iadd, 1) := by decide +kernel
theorem dL_law_497 : decode cL_law 497 = .ok (.iaload, 1) := by decide +kernel
theorem dL_law_498 : decode cL_law 498 = .ok (.aload_n 0, 1) := by decide +kernel
theorem dL_law_499 : decode cL_law 499 = .ok (.iload_n 3, 1) := by decide +kernel
theorem dL_law_500 : decode cL_law 500 = .ok (.iconst 2, 1) := by decide +kernel
theorem dL_law_501 : decode cL_law 501 = .ok (.iadd, 1) := by decide +kernel
theorem dL_law_502 : decode cL_law 502 = .ok (.iaload, 1) := by decide +kernel
theorem dL_law_503 : decode cL_law 503 = .ok (.invokevirtual 50, 3) := by decide +kernel
theorem dL_law_506 : decode cL_law 506 = .ok (.if_icmp .eq 975, 3) := by decide +kernel
theorem dL_law_509 : decode cL_law 509 = .ok (.iconst 0, 1) := by decide +kernel
theorem dL_law_510 : decode cL_law 510 = .ok (.ireturn, 1) := by decide +kernel
theorem dL_law_511 : decode cL_law 511 = .ok (.aload_n 1, 1) := by decide +kernel
theorem dL_law_512 : decode cL_law 512 = .ok (.aload_n 0, 1) := by decide +kernel
theorem dL_law_513 : decode cL_law 513 = .ok (.iload_n 3, 1) := by decide +kernel
theorem dL_law_514 : decode cL_law 514 = .ok (.iconst 1, 1) := by decide +kernel
theorem dL_law_515 : decode cL_law 515 = .ok (.iadd, 1) := by decide +kernel
theorem dL_law_516 : decode cL_law 516 = .ok (.iaload, 1) := by decide +kernel
theorem dL_law_517 : decode cL_law 517 = .ok (.aload_n 0, 1) := by decide +kernel
theorem dL_law_518 : decode cL_law 518 = .ok (.iload_n 3, 1) := by decide +kernel
theorem dL_law_519 : decode cL_law 519 = .ok (.iconst 2, 1) := by decide +kernel
theorem dL_law_520 : decode cL_law 520 = .ok (.iadd, 1) := by decide +kernel
theorem dL_law_521 : decode cL_law 521 = .ok (.iaload, 1) := by decide +kernel
theorem dL_law_522 : decode cL_law 522 = .ok (.invokevirtual 51, 3) := by decide +kernel
theorem dL_law_525 : decode cL_law 525 = .ok (.aload_n 2, 1) := by decide +kernel
theorem dL_law_526 : decode cL_law 526 = .ok (.aload_n 0, 1) := by decide +kernel
theorem dL_law_527 : decode cL_law 527 = .ok (.iload_n 3, 1) := by decide +kernel
theorem dL_law_528 : decode cL_law 528 = .ok (.iconst 1, 1) := by decide +kernel
theorem dL_law_529 : decode cL_law 529 = .ok (.iadd, 1) := by decide +kernel
theorem dL_law_530 : decode cL_law 530 = .ok (.iaload, 1) := by decide +kernel
theorem dL_law_531 : decode cL_law 531 = .ok (.aload_n 0, 1) := by decide +kernel
theorem dL_law_532 : decode cL_law 532 = .ok (.iload_n 3, 1) := by decide +kernel
theorem dL_law_533 : decode cL_law 533 = .ok (.iconst 2, 1) := by decide +kernel
theorem dL_law_534 : decode cL_law 534 = .ok (.iadd, 1) := by decide +kernel
theorem dL_law_535 : decode cL_law 535 = .ok (.iaload, 1) := by decide +kernel
theorem dL_law_536 : decode cL_law 536 = .ok (.invokevirtual 54, 3) := by decide +kernel
theorem dL_law_539 : decode cL_law 539 = .ok (.if_icmp .eq 942, 3) := by decide +kernel
theorem dL_law_542 : decode cL_law 542 = .ok (.iconst 0, 1) := by decide +kernel
theorem dL_law_543 : decode cL_law 543 = .ok (.ireturn, 1) := by decide +kernel
theorem dL_law_544 : decode cL_law 544 = .ok (.aload_n 1, 1) := by decide +kernel
theorem dL_law_545 : decode cL_law 545 = .ok (.aload_n 0, 1) := by decide +kernel
theorem dL_law_546 : decode cL_law 546 = .ok (.iload_n 3, 1) := by decide +kernel
theorem dL_law_547 : decode cL_law 547 = .ok (.iconst 1, 1) := by decide +kernel
theorem dL_law_548 : decode cL_law 548 = .ok (.iadd, 1) := by decide +kernel
theorem dL_law_549 : decode cL_law 549 = .ok (.iaload, 1) := by decide +kernel
theorem dL_law_550 : decode cL_law 550 = .ok (.i2l, 1) := by decide +kernel
theorem dL_law_551 : decode cL_law 551 = .ok (.bipush 32, 2) := by decide +kernel
theorem dL_law_553 : decode cL_law 553 = .ok (.lshl, 1) := by decide +kernel
theorem dL_law_554 : decode cL_law 554 = .ok (.aload_n 0, 1) := by decide +kernel
theorem dL_law_555 : decode cL_law 555 = .ok (.iload_n 3, 1) := by decide +kernel
theorem dL_law_556 : decode cL_law 556 = .ok (.iconst 2, 1) := by decide +kernel
theorem dL_law_557 : decode cL_law 557 = .ok (.iadd, 1) := by decide +kernel
theorem dL_law_558 : decode cL_law 558 = .ok (.iaload, 1) := by decide +kernel
theorem dL_law_559 : decode cL_law 559 = .ok (.i2l, 1) := by decide +kernel
theorem dL_law_560 : decode cL_law 560 = .ok (.ldc2_w 55, 3) := by decide +kernel
theorem dL_law_563 : decode cL_law 563 = .ok (.land, 1) := by decide +kernel
theorem dL_law_564 : decode cL_law 564 = .ok (.lor, 1) := by decide +kernel
theorem dL_law_565 : decode cL_law 565 = .ok (.aload_n 0, 1) := by decide +kernel
theorem dL_law_566 : decode cL_law 566 = .ok (.iload_n 3, 1) := by decide +kernel
theorem dL_law_567 : decode cL_law 567 = .ok (.iconst 3, 1) := by decide +kernel
theorem dL_law_568 : decode cL_law 568 = .ok (.iadd, 1) := by decide +kernel
theorem dL_law_569 : decode cL_law 569 = .ok (.iaload, 1) := by decide +kernel
theorem dL_law_570 : decode cL_law 570 = .ok (.invokevirtual 57, 3) := by decide +kernel
theorem dL_law_573 : decode cL_law 573 = .ok (.aload_n 2, 1) := by decide +kernel
theorem dL_law_574 : decode cL_law 574 = .ok (.aload_n 0, 1) := by decide +kernel
theorem dL_law_575 : decode cL_law 575 = .ok (.iload_n 3, 1) := by decide +kernel
theorem dL_law_576 : decode cL_law 576 = .ok (.iconst 1, 1) := by decide +kernel
theorem dL_law_577 : decode cL_law 577 = .ok (.iadd, 1) := by decide +kernel
theorem dL_law_578 : decode cL_law 578 = .ok (.iaload, 1) := by decide +kernel
theorem dL_law_579 : decode cL_law 579 = .ok (.i2l, 1) := by decide +kernel
theorem dL_law_580 : decode cL_law 580 = .ok (.bipush 32, 2) := by decide +kernel
theorem dL_law_582 : decode cL_law 582 = .ok (.lshl, 1) := by decide +kernel
theorem dL_law_583 : decode cL_law 583 = .ok (.aload_n 0, 1) := by decide +kernel
theorem dL_law_584 : decode cL_law 584 = .ok (.iload_n 3, 1) := by decide +kernel
theorem dL_law_585 : decode cL_law 585 = .ok (.iconst 2, 1) := by decide +kernel
theorem dL_law_586 : decode cL_law 586 = .ok (.iadd, 1) := by decide +kernel
theorem dL_law_587 : decode cL_law 587 = .ok (.iaload, 1) := by decide +kernel
theorem dL_law_588 : decode cL_law 588 = .ok (.i2l, 1) := by decide +kernel
theorem dL_law_589 : decode cL_law 589 = .ok (.ldc2_w 55, 3) := by decide +kernel
theorem dL_law_592 : decode cL_law 592 = .ok (.land, 1) := by decide +kernel
theorem dL_law_593 : decode cL_law 593 = .ok (.lor, 1) := by decide +kernel
theorem dL_law_594 : decode cL_law 594 = .ok (.aload_n 0, 1) := by decide +kernel
theorem dL_law_595 : decode cL_law 595 = .ok (.iload_n 3, 1) := by decide +kernel
theorem dL_law_596 : decode cL_law 596 = .ok (.iconst 3, 1) := by decide +kernel
theorem dL_law_597 : decode cL_law 597 = .ok (.iadd, 1) := by decide +kernel
theorem dL_law_598 : decode cL_law 598 = .ok (.iaload, 1) := by decide +kernel
theorem dL_law_599 : decode cL_law 599 = .ok (.invokevirtual 61, 3) := by decide +kernel
theorem dL_law_602 : decode cL_law 602 = .ok (.if_icmp .eq 879, 3) := by decide +kernel
theorem dL_law_605 : decode cL_law 605 = .ok (.iconst 0, 1) := by decide +kernel
theorem dL_law_606 : decode cL_law 606 = .ok (.ireturn, 1) := by decide +kernel
theorem dL_law_607 : decode cL_law 607 = .ok (.aload_n 1, 1) := by decide +kernel
theorem dL_law_608 : decode cL_law 608 = .ok (.aload_n 0, 1) := by decide +kernel
theorem dL_law_609 : decode cL_law 609 = .ok (.iload_n 3, 1) := by decide +kernel
theorem dL_law_610 : decode cL_law 610 = .ok (.iconst 1, 1) := by decide +kernel
theorem dL_law_611 : decode cL_law 611 = .ok (.iadd, 1) := by decide +kernel
theorem dL_law_612 : decode cL_law 612 = .ok (.iaload, 1) := by decide +kernel
theorem dL_law_613 : decode cL_law 613 = .ok (.invokevirtual 62, 3) := by decide +kernel
theorem dL_law_616 : decode cL_law 616 = .ok (.aload_n 2, 1) := by decide +kernel
theorem dL_law_617 : decode cL_law 617 = .ok (.aload_n 0, 1) := by decide +kernel
theorem dL_law_618 : decode cL_law 618 = .ok (.iload_n 3, 1) := by decide +kernel
theorem dL_law_619 : decode cL_law 619 = .ok (.iconst 1, 1) := by decide +kernel
theorem dL_law_620 : decode cL_law 620 = .ok (.iadd, 1) := by decide +kernel
theorem dL_law_621 : decode cL_law 621 = .ok (.iaload, 1) := by decide +kernel
theorem dL_law_622 : decode cL_law 622 = .ok (.invokevirtual 66, 3) := by decide +kernel
theorem dL_law_625 : decode cL_law 625 = .ok (.if_icmp .eq 856, 3) := by decide +kernel
theorem dL_law_628 : decode cL_law 628 = .ok (.iconst 0, 1) := by decide +kernel
theorem dL_law_629 : decode cL_law 629 = .ok (.ireturn, 1) := by decide +kernel
theorem dL_law_630 : decode cL_law 630 = .ok (.aload_n 1, 1) := by decide +kernel
theorem dL_law_631 : decode cL_law 631 = .ok (.aload_n 0, 1) := by decide +kernel
theorem dL_law_632 : decode cL_law 632 = .ok (.iload_n 3, 1) := by decide +kernel
theorem dL_law_633 : decode cL_law 633 = .ok (.iconst 1, 1) := by decide +kernel
theorem dL_law_634 : decode cL_law 634 = .ok (.iadd, 1) := by decide +kernel
theorem dL_law_635 : decode cL_law 635 = .ok (.iaload, 1) := by decide +kernel
theorem dL_law_636 : decode cL_law 636 = .ok (.aload_n 0, 1) := by decide +kernel
theorem dL_law_637 : decode cL_law 637 = .ok (.iload_n 3, 1) := by decide +kernel
theorem dL_law_638 : decode cL_law 638 = .ok (.iconst 2, 1) := by decide +kernel
theorem dL_law_639 : decode cL_law 639 = .ok (.iadd, 1) := by decide +kernel
theorem dL_law_640 : decode cL_law 640 = .ok (.iaload, 1) := by decide +kernel
theorem dL_law_641 : decode cL_law 641 = .ok (.aload_n 0, 1) := by decide +kernel
theorem dL_law_642 : decode cL_law 642 = .ok (.iload_n 3, 1) := by decide +kernel
theorem dL_law_643 : decode cL_law 643 = .ok (.iconst 3, 1) := by decide +kernel
theorem dL_law_644 : decode cL_law 644 = .ok (.iadd, 1) := by decide +kernel
theorem dL_law_645 : decode cL_law 645 = .ok (.iaload, 1) := by decide +kernel
theorem dL_law_646 : decode cL_law 646 = .ok (.aload_n 0, 1) := by decide +kernel
theorem dL_law_647 : decode cL_law 647 = .ok (.iload_n 3, 1) := by decide +kernel
theorem dL_law_648 : decode cL_law 648 = .ok (.iconst 4, 1) := by decide +kernel
theorem dL_law_649 : decode cL_law 649 = .ok (.iadd, 1) := by decide +kernel
theorem dL_law_650 : decode cL_law 650 = .ok (.iaload, 1) := by decide +kernel
theorem dL_law_651 : decode cL_law 651 = .ok (.invokevirtual 67, 3) := by decide +kernel
theorem dL_law_654 : decode cL_law 654 = .ok (.aload_n 2, 1) := by decide +kernel
theorem dL_law_655 : decode cL_law 655 = .ok (.aload_n 0, 1) := by decide +kernel
theorem dL_law_656 : decode cL_law 656 = .ok (.iload_n 3, 1) := by decide +kernel
theorem dL_law_657 : decode cL_law 657 = .ok (.iconst 1, 1) := by decide +kernel
theorem dL_law_658 : decode cL_law 658 = .ok (.iadd, 1) := by decide +kernel
theorem dL_law_659 : decode cL_law 659 = .ok (.iaload, 1) := by decide +kernel
theorem dL_law_660 : decode cL_law 660 = .ok (.aload_n 0, 1) := by decide +kernel
theorem dL_law_661 : decode cL_law 661 = .ok (.iload_n 3, 1) := by decide +kernel
theorem dL_law_662 : decode cL_law 662 = .ok (.iconst 2, 1) := by decide +kernel
theorem dL_law_663 : decode cL_law 663 = .ok (.iadd, 1) := by decide +kernel
theorem dL_law_664 : decode cL_law 664 = .ok (.iaload, 1) := by decide +kernel
theorem dL_law_665 : decode cL_law 665 = .ok (.aload_n 0, 1) := by decide +kernel
theorem dL_law_666 : decode cL_law 666 = .ok (.iload_n 3, 1) := by decide +kernel
theorem dL_law_667 : decode cL_law 667 = .ok (.iconst 3, 1) := by decide +kernel
theorem dL_law_668 : decode cL_law 668 = .ok (.iadd, 1) := by decide +kernel
theorem dL_law_669 : decode cL_law 669 = .ok (.iaload, 1) := by decide +kernel
theorem dL_law_670 : decode cL_law 670 = .ok (.aload_n 0, 1) := by decide +kernel
theorem dL_law_671 : decode cL_law 671 = .ok (.iload_n 3, 1) := by decide +kernel
theorem dL_law_672 : decode cL_law 672 = .ok (.iconst 4, 1) := by decide +kernel
theorem dL_law_673 : decode cL_law 673 = .ok (.iadd, 1) := by decide +kernel
theorem dL_law_674 : decode cL_law 674 = .ok (.iaload, 1) := by decide +kernel
theorem dL_law_675 : decode cL_law 675 = .ok (.invokevirtual 71, 3) := by decide +kernel
theorem dL_law_678 : decode cL_law 678 = .ok (.if_icmp .eq 803, 3) := by decide +kernel
theorem dL_law_681 : decode cL_law 681 = .ok (.iconst 0, 1) := by decide +kernel
theorem dL_law_682 : decode cL_law 682 = .ok (.ireturn, 1) := by decide +kernel
theorem dL_law_683 : decode cL_law 683 = .ok (.aload_n 1, 1) := by decide +kernel
theorem dL_law_684 : decode cL_law 684 = .ok (.aload_n 0, 1) := by decide +kernel
theorem dL_law_685 : decode cL_law 685 = .ok (.iload_n 3, 1) := by decide +kernel
theorem dL_law_686 : decode cL_law 686 = .ok (.iconst 1, 1) := by decide +kernel
theorem dL_law_687 : decode cL_law 687 = .ok (.iadd, 1) := by decide +kernel
theorem dL_law_688 : decode cL_law 688 = .ok (.iaload, 1) := by decide +kernel
theorem dL_law_689 : decode cL_law 689 = .ok (.invokevirtual 72, 3) := by decide +kernel
theorem dL_law_692 : decode cL_law 692 = .ok (.aload_n 2, 1) := by decide +kernel
theorem dL_law_693 : decode cL_law 693 = .ok (.aload_n 0, 1) := by decide +kernel
theorem dL_law_694 : decode cL_law 694 = .ok (.iload_n 3, 1) := by decide +kernel
theorem dL_law_695 : decode cL_law 695 = .ok (.iconst 1, 1) := by decide +kernel
theorem dL_law_696 : decode cL_law 696 = .ok (.iadd, 1) := by decide +kernel
theorem dL_law_697 : decode cL_law 697 = .ok (.iaload, 1) := by decide +kernel
theorem dL_law_698 : decode cL_law 698 = .ok (.invokevirtual 75, 3) := by decide +kernel
theorem dL_law_701 : decode cL_law 701 = .ok (.if_icmp .eq 780, 3) := by decide +kernel
theorem dL_law_704 : decode cL_law 704 = .ok (.iconst 0, 1) := by decide +kernel
theorem dL_law_705 : decode cL_law 705 = .ok (.ireturn, 1) := by decide +kernel
theorem dL_law_706 : decode cL_law 706 = .ok (.aload_n 1, 1) := by decide +kernel
theorem dL_law_707 : decode cL_law 707 = .ok (.aload_n 0, 1) := by decide +kernel
theorem dL_law_708 : decode cL_law 708 = .ok (.iload_n 3, 1) := by decide +kernel
theorem dL_law_709 : decode cL_law 709 = .ok (.iconst 1, 1) := by decide +kernel
theorem dL_law_710 : decode cL_law 710 = .ok (.iadd, 1) := by decide +kernel
theorem dL_law_711 : decode cL_law 711 = .ok (.iaload, 1) := by decide +kernel
theorem dL_law_712 : decode cL_law 712 = .ok (.invokevirtual 76, 3) := by decide +kernel
theorem dL_law_715 : decode cL_law 715 = .ok (.aload_n 2, 1) := by decide +kernel
theorem dL_law_716 : decode cL_law 716 = .ok (.aload_n 0, 1) := by decide +kernel
theorem dL_law_717 : decode cL_law 717 = .ok (.iload_n 3, 1) := by decide +kernel
theorem dL_law_718 : decode cL_law 718 = .ok (.iconst 1, 1) := by decide +kernel
theorem dL_law_719 : decode cL_law 719 = .ok (.iadd, 1) := by decide +kernel
theorem dL_law_720 : decode cL_law 720 = .ok (.iaload, 1) := by decide +kernel
theorem dL_law_721 : decode cL_law 721 = .ok (.invokevirtual 79, 3) := by decide +kernel
theorem dL_law_724 : decode cL_law 724 = .ok (.if_icmp .eq 757, 3) := by decide +kernel
theorem dL_law_727 : decode cL_law 727 = .ok (.iconst 0, 1) := by decide +kernel
theorem dL_law_728 : decode cL_law 728 = .ok (.ireturn, 1) := by decide +kernel
theorem dL_law_729 : decode cL_law 729 = .ok (.aload_n 1, 1) := by decide +kernel
theorem dL_law_730 : decode cL_law 730 = .ok (.aload_n 0, 1) := by decide +kernel
theorem dL_law_731 : decode cL_law 731 = .ok (.iload_n 3, 1) := by decide +kernel
theorem dL_law_732 : decode cL_law 732 = .ok (.iconst 1, 1) := by decide +kernel
theorem dL_law_733 : decode cL_law 733 = .ok (.iadd, 1) := by decide +kernel
theorem dL_law_734 : decode cL_law 734 = .ok (.iaload, 1) := by decide +kernel
theorem dL_law_735 : decode cL_law 735 = .ok (.aload_n 0, 1) := by decide +kernel
theorem dL_law_736 : decode cL_law 736 = .ok (.iload_n 3, 1) := by decide +kernel
theorem dL_law_737 : decode cL_law 737 = .ok (.iconst 2, 1) := by decide +kernel
theorem dL_law_738 : decode cL_law 738 = .ok (.iadd, 1) := by decide +kernel
theorem dL_law_739 : decode cL_law 739 = .ok (.iaload, 1) := by decide +kernel
theorem dL_law_740 : decode cL_law 740 = .ok (.aload_n 0, 1) := by decide +kernel
theorem dL_law_741 : decode cL_law 741 = .ok (.iload_n 3, 1) := by decide +kernel
theorem dL_law_742 : decode cL_law 742 = .ok (.iconst 3, 1) := by decide +kernel
theorem dL_law_743 : decode cL_law 743 = .ok (.iadd, 1) := by decide +kernel
theorem dL_law_744 : decode cL_law 744 = .ok (.iaload, 1) := by decide +kernel
theorem dL_law_745 : decode cL_law 745 = .ok (.invokevirtual 80, 3) := by decide +kernel
theorem dL_law_748 : decode cL_law 748 = .ok (.aload_n 2, 1) := by decide +kernel
theorem dL_law_749 : decode cL_law 749 = .ok (.aload_n 0, 1) := by decide +kernel
theorem dL_law_750 : decode cL_law 750 = .ok (.iload_n 3, 1) := by decide +kernel
theorem dL_law_751 : decode cL_law 751 = .ok (.iconst 1, 1) := by decide +kernel
theorem dL_law_752 : decode cL_law 752 = .ok (.iadd, 1) := by decide +kernel
theorem dL_law_753 : decode cL_law 753 = .ok (.iaload, 1) := by decide +kernel
theorem dL_law_754 : decode cL_law 754 = .ok (.aload_n 0, 1) := by decide +kernel
theorem dL_law_755 : decode cL_law 755 = .ok (.iload_n 3, 1) := by decide +kernel
theorem dL_law_756 : decode cL_law 756 = .ok (.iconst 2, 1) := by decide +kernel
theorem dL_law_757 : decode cL_law 757 = .ok (.iadd, 1) := by decide +kernel
theorem dL_law_758 : decode cL_law 758 = .ok (.iaload, 1) := by decide +kernel
theorem dL_law_759 : decode cL_law 759 = .ok (.aload_n 0, 1) := by decide +kernel
theorem dL_law_760 : decode cL_law 760 = .ok (.iload_n 3, 1) := by decide +kernel
theorem dL_law_761 : decode cL_law 761 = .ok (.iconst 3, 1) := by decide +kernel
theorem dL_law_762 : decode cL_law 762 = .ok (.iadd, 1) := by decide +kernel
theorem dL_law_763 : decode cL_law 763 = .ok (.iaload, 1) := by decide +kernel
theorem dL_law_764 : decode cL_law 764 = .ok (.invokevirtual 83, 3) := by decide +kernel
theorem dL_law_767 : decode cL_law 767 = .ok (.if_icmp .eq 714, 3) := by decide +kernel
theorem dL_law_770 : decode cL_law 770 = .ok (.iconst 0, 1) := by decide +kernel
theorem dL_law_771 : decode cL_law 771 = .ok (.ireturn, 1) := by decide +kernel
theorem dL_law_772 : decode cL_law 772 = .ok (.aload_n 1, 1) := by decide +kernel
theorem dL_law_773 : decode cL_law 773 = .ok (.aload_n 0, 1) := by decide +kernel
theorem dL_law_774 : decode cL_law 774 = .ok (.iload_n 3, 1) := by decide +kernel
theorem dL_law_775 : decode cL_law 775 = .ok (.iconst 1, 1) := by decide +kernel
theorem dL_law_776 : decode cL_law 776 = .ok (.iadd, 1) := by decide +kernel
theorem dL_law_777 : decode cL_law 777 = .ok (.iaload, 1) := by decide +kernel
theorem dL_law_778 : decode cL_law 778 = .ok (.aload_n 0, 1) := by decide +kernel
theorem dL_law_779 : decode cL_law 779 = .ok (.iload_n 3, 1) := by decide +kernel
theorem dL_law_780 : decode cL_law 780 = .ok (.iconst 2, 1) := by decide +kernel
theorem dL_law_781 : decode cL_law 781 = .ok (.iadd, 1) := by decide +kernel
theorem dL_law_782 : decode cL_law 782 = .ok (.iaload, 1) := by decide +kernel
theorem dL_law_783 : decode cL_law 783 = .ok (.invokevirtual 84, 3) := by decide +kernel
theorem dL_law_786 : decode cL_law 786 = .ok (.aload_n 2, 1) := by decide +kernel
theorem dL_law_787 : decode cL_law 787 = .ok (.aload_n 0, 1) := by decide +kernel
theorem dL_law_788 : decode cL_law 788 = .ok (.iload_n 3, 1) := by decide +kernel
theorem dL_law_789 : decode cL_law 789 = .ok (.iconst 1, 1) := by decide +kernel
theorem dL_law_790 : decode cL_law 790 = .ok (.iadd, 1) := by decide +kernel
theorem dL_law_791 : decode cL_law 791 = .ok (.iaload, 1) := by decide +kernel
theorem dL_law_792 : decode cL_law 792 = .ok (.aload_n 0, 1) := by decide +kernel
theorem dL_law_793 : decode cL_law 793 = .ok (.iload_n 3, 1) := by decide +kernel
theorem dL_law_794 : decode cL_law 794 = .ok (.iconst 2, 1) := by decide +kernel
theorem dL_law_795 : decode cL_law 795 = .ok (.iadd, 1) := by decide +kernel
theorem dL_law_796 : decode cL_law 796 = .ok (.iaload, 1) := by decide +kernel
theorem dL_law_797 : decode cL_law 797 = .ok (.invokevirtual 87, 3) := by decide +kernel
theorem dL_law_800 : decode cL_law 800 = .ok (.if_icmp .eq 681, 3) := by decide +kernel
theorem dL_law_803 : decode cL_law 803 = .ok (.iconst 0, 1) := by decide +kernel
theorem dL_law_804 : decode cL_law 804 = .ok (.ireturn, 1) := by decide +kernel
theorem dL_law_805 : decode cL_law 805 = .ok (.aload_n 1, 1) := by decide +kernel
theorem dL_law_806 : decode cL_law 806 = .ok (.invokevirtual 88, 3) := by decide +kernel
theorem dL_law_809 : decode cL_law 809 = .ok (.aload_n 2, 1) := by decide +kernel
theorem dL_law_810 : decode cL_law 810 = .ok (.invokevirtual 92, 3) := by decide +kernel
theorem dL_law_813 : decode cL_law 813 = .ok (.if_icmp .eq 668, 3) := by decide +kernel
theorem dL_law_816 : decode cL_law 816 = .ok (.iconst 0, 1) := by decide +kernel
theorem dL_law_817 : decode cL_law 817 = .ok (.ireturn, 1) := by decide +kernel
theorem dL_law_818 : decode cL_law 818 = .ok (.aload_n 1, 1) := by decide +kernel
theorem dL_law_819 : decode cL_law 819 = .ok (.aload_n 0, 1) := by decide +kernel
theorem dL_law_820 : decode cL_law 820 = .ok (.iload_n 3, 1) := by decide +kernel
theorem dL_law_821 : decode cL_law 821 = .ok (.iconst 1, 1) := by decide +kernel
theorem dL_law_822 : decode cL_law 822 = .ok (.iadd, 1) := by decide +kernel
theorem dL_law_823 : decode cL_law 823 = .ok (.iaload, 1) := by decide +kernel
theorem dL_law_824 : decode cL_law 824 = .ok (.aload_n 0, 1) := by decide +kernel
theorem dL_law_825 : decode cL_law 825 = .ok (.iload_n 3, 1) := by decide +kernel
theorem dL_law_826 : decode cL_law 826 = .ok (.iconst 2, 1) := by decide +kernel
theorem dL_law_827 : decode cL_law 827 = .ok (.iadd, 1) := by decide +kernel
theorem dL_law_828 : decode cL_law 828 = .ok (.iaload, 1) := by decide +kernel
theorem dL_law_829 : decode cL_law 829 = .ok (.aload_n 0, 1) := by decide +kernel
theorem dL_law_830 : decode cL_law 830 = .ok (.iload_n 3, 1) := by decide +kernel
theorem dL_law_831 : decode cL_law 831 = .ok (.iconst 3, 1) := by decide +kernel
theorem dL_law_832 : decode cL_law 832 = .ok (.iadd, 1) := by decide +kernel
theorem dL_law_833 : decode cL_law 833 = .ok (.iaload, 1) := by decide +kernel
theorem dL_law_834 : decode cL_law 834 = .ok (.invokevirtual 93, 3) := by decide +kernel
theorem dL_law_837 : decode cL_law 837 = .ok (.aload_n 2, 1) := by decide +kernel
theorem dL_law_838 : decode cL_law 838 = .ok (.aload_n 0, 1) := by decide +kernel
theorem dL_law_839 : decode cL_law 839 = .ok (.iload_n 3, 1) := by decide +kernel
theorem dL_law_840 : decode cL_law 840 = .ok (.iconst 1, 1) := by decide +kernel
theorem dL_law_841 : decode cL_law 841 = .ok (.iadd, 1) := by decide +kernel
theorem dL_law_842 : decode cL_law 842 = .ok (.iaload, 1) := by decide +kernel
theorem dL_law_843 : decode cL_law 843 = .ok (.aload_n 0, 1) := by decide +kernel
theorem dL_law_844 : decode cL_law 844 = .ok (.iload_n 3, 1) := by decide +kernel
theorem dL_law_845 : decode cL_law 845 = .ok (.iconst 2, 1) := by decide +kernel
theorem dL_law_846 : decode cL_law 846 = .ok (.iadd, 1) := by decide +kernel
theorem dL_law_847 : decode cL_law 847 = .ok (.iaload, 1) := by decide +kernel
theorem dL_law_848 : decode cL_law 848 = .ok (.aload_n 0, 1) := by decide +kernel
theorem dL_law_849 : decode cL_law 849 = .ok (.iload_n 3, 1) := by decide +kernel
theorem dL_law_850 : decode cL_law 850 = .ok (.iconst 3, 1) := by decide +kernel
theorem dL_law_851 : decode cL_law 851 = .ok (.iadd, 1) := by decide +kernel
theorem dL_law_852 : decode cL_law 852 = .ok (.iaload, 1) := by decide +kernel
theorem dL_law_853 : decode cL_law 853 = .ok (.invokevirtual 96, 3) := by decide +kernel
theorem dL_law_856 : decode cL_law 856 = .ok (.if_icmp .eq 625, 3) := by decide +kernel
theorem dL_law_859 : decode cL_law 859 = .ok (.iconst 0, 1) := by decide +kernel
theorem dL_law_860 : decode cL_law 860 = .ok (.ireturn, 1) := by decide +kernel
theorem dL_law_861 : decode cL_law 861 = .ok (.aload_n 1, 1) := by decide +kernel
theorem dL_law_862 : decode cL_law 862 = .ok (.aload_n 0, 1) := by decide +kernel
theorem dL_law_863 : decode cL_law 863 = .ok (.iload_n 3, 1) := by decide +kernel
theorem dL_law_864 : decode cL_law 864 = .ok (.iconst 1, 1) := by decide +kernel
theorem dL_law_865 : decode cL_law 865 = .ok (.iadd, 1) := by decide +kernel
theorem dL_law_866 : decode cL_law 866 = .ok (.iaload, 1) := by decide +kernel
theorem dL_law_867 : decode cL_law 867 = .ok (.aload_n 0, 1) := by decide +kernel
theorem dL_law_868 : decode cL_law 868 = .ok (.iload_n 3, 1) := by decide +kernel
theorem dL_law_869 : decode cL_law 869 = .ok (.iconst 2, 1) := by decide +kernel
theorem dL_law_870 : decode cL_law 870 = .ok (.iadd, 1) := by decide +kernel
theorem dL_law_871 : decode cL_law 871 = .ok (.iaload, 1) := by decide +kernel
theorem dL_law_872 : decode cL_law 872 = .ok (.aload_n 0, 1) := by decide +kernel
theorem dL_law_873 : decode cL_law 873 = .ok (.iload_n 3, 1) := by decide +kernel
theorem dL_law_874 : decode cL_law 874 = .ok (.iconst 3, 1) := by decide +kernel
theorem dL_law_875 : decode cL_law 875 = .ok (.iadd, 1) := by decide +kernel
theorem dL_law_876 : decode cL_law 876 = .ok (.iaload, 1) := by decide +kernel
theorem dL_law_877 : decode cL_law 877 = .ok (.invokevirtual 97, 3) := by decide +kernel
theorem dL_law_880 : decode cL_law 880 = .ok (.aload_n 2, 1) := by decide +kernel
theorem dL_law_881 : decode cL_law 881 = .ok (.aload_n 0, 1) := by decide +kernel
theorem dL_law_882 : decode cL_law 882 = .ok (.iload_n 3, 1) := by decide +kernel
theorem dL_law_883 : decode cL_law 883 = .ok (.iconst 1, 1) := by decide +kernel
theorem dL_law_884 : decode cL_law 884 = .ok (.iadd, 1) := by decide +kernel
theorem dL_law_885 : decode cL_law 885 = .ok (.iaload, 1) := by decide +kernel
theorem dL_law_886 : decode cL_law 886 = .ok (.aload_n 0, 1) := by decide +kernel
theorem dL_law_887 : decode cL_law 887 = .ok (.iload_n 3, 1) := by decide +kernel
theorem dL_law_888 : decode cL_law 888 = .ok (.iconst 2, 1) := by decide +kernel
theorem dL_law_889 : decode cL_law 889 = .ok (.iadd, 1) := by decide +kernel
theorem dL_law_890 : decode cL_law 890 = .ok (.iaload, 1) := by decide +kernel
theorem dL_law_891 : decode cL_law 891 = .ok (.aload_n 0, 1) := by decide +kernel
theorem dL_law_892 : decode cL_law 892 = .ok (.iload_n 3, 1) := by decide +kernel
theorem dL_law_893 : decode cL_law 893 = .ok (.iconst 3, 1) := by decide +kernel
theorem dL_law_894 : decode cL_law 894 = .ok (.iadd, 1) := by decide +kernel
theorem dL_law_895 : decode cL_law 895 = .ok (.iaload, 1) := by decide +kernel
theorem dL_law_896 : decode cL_law 896 = .ok (.invokevirtual 100, 3) := by decide +kernel
theorem dL_law_899 : decode cL_law 899 = .ok (.if_icmp .eq 582, 3) := by decide +kernel
theorem dL_law_902 : decode cL_law 902 = .ok (.iconst 0, 1) := by decide +kernel
theorem dL_law_903 : decode cL_law 903 = .ok (.ireturn, 1) := by decide +kernel
theorem dL_law_904 : decode cL_law 904 = .ok (.aload_n 1, 1) := by decide +kernel
theorem dL_law_905 : decode cL_law 905 = .ok (.aload_n 0, 1) := by decide +kernel
theorem dL_law_906 : decode cL_law 906 = .ok (.iload_n 3, 1) := by decide +kernel
theorem dL_law_907 : decode cL_law 907 = .ok (.iconst 1, 1) := by decide +kernel
theorem dL_law_908 : decode cL_law 908 = .ok (.iadd, 1) := by decide +kernel
theorem dL_law_909 : decode cL_law 909 = .ok (.iaload, 1) := by decide +kernel
theorem dL_law_910 : decode cL_law 910 = .ok (.aload_n 0, 1) := by decide +kernel
theorem dL_law_911 : decode cL_law 911 = .ok (.iload_n 3, 1) := by decide +kernel
theorem dL_law_912 : decode cL_law 912 = .ok (.iconst 2, 1) := by decide +kernel
theorem dL_law_913 : decode cL_law 913 = .ok (.iadd, 1) := by decide +kernel
theorem dL_law_914 : decode cL_law 914 = .ok (.iaload, 1) := by decide +kernel
theorem dL_law_915 : decode cL_law 915 = .ok (.invokevirtual 101, 3) := by decide +kernel
theorem dL_law_918 : decode cL_law 918 = .ok (.aload_n 2, 1) := by decide +kernel
theorem dL_law_919 : decode cL_law 919 = .ok (.aload_n 0, 1) := by decide +kernel
theorem dL_law_920 : decode cL_law 920 = .ok (.iload_n 3, 1) := by decide +kernel
theorem dL_law_921 : decode cL_law 921 = .ok (.iconst 1, 1) := by decide +kernel
theorem dL_law_922 : decode cL_law 922 = .ok (.iadd, 1) := by decide +kernel
theorem dL_law_923 : decode cL_law 923 = .ok (.iaload, 1) := by decide +kernel
theorem dL_law_924 : decode cL_law 924 = .ok (.aload_n 0, 1) := by decide +kernel
theorem dL_law_925 : decode cL_law 925 = .ok (.iload_n 3, 1) := by decide +kernel
theorem dL_law_926 : decode cL_law 926 = .ok (.iconst 2, 1) := by decide +kernel
theorem dL_law_927 : decode cL_law 927 = .ok (.iadd, 1) := by decide +kernel
theorem dL_law_928 : decode cL_law 928 = .ok (.iaload, 1) := by decide +kernel
theorem dL_law_929 : decode cL_law 929 = .ok (.invokevirtual 104, 3) := by decide +kernel
theorem dL_law_932 : decode cL_law 932 = .ok (.if_icmp .eq 549, 3) := by decide +kernel
theorem dL_law_935 : decode cL_law 935 = .ok (.iconst 0, 1) := by decide +kernel
theorem dL_law_936 : decode cL_law 936 = .ok (.ireturn, 1) := by decide +kernel
theorem dL_law_937 : decode cL_law 937 = .ok (.aload_n 1, 1) := by decide +kernel
theorem dL_law_938 : decode cL_law 938 = .ok (.aload_n 0, 1) := by decide +kernel
theorem dL_law_939 : decode cL_law 939 = .ok (.iload_n 3, 1) := by decide +kernel
theorem dL_law_940 : decode cL_law 940 = .ok (.iconst 1, 1) := by decide +kernel
theorem dL_law_941 : decode cL_law 941 = .ok (.iadd, 1) := by decide +kernel
theorem dL_law_942 : decode cL_law 942 = .ok (.iaload, 1) := by decide +kernel
theorem dL_law_943 : decode cL_law 943 = .ok (.invokevirtual 105, 3) := by decide +kernel
theorem dL_law_946 : decode cL_law 946 = .ok (.aload_n 2, 1) := by decide +kernel
theorem dL_law_947 : decode cL_law 947 = .ok (.aload_n 0, 1) := by decide +kernel
theorem dL_law_948 : decode cL_law 948 = .ok (.iload_n 3, 1) := by decide +kernel
theorem dL_law_949 : decode cL_law 949 = .ok (.iconst 1, 1) := by decide +kernel
theorem dL_law_950 : decode cL_law 950 = .ok (.iadd, 1) := by decide +kernel
theorem dL_law_951 : decode cL_law 951 = .ok (.iaload, 1) := by decide +kernel
theorem dL_law_952 : decode cL_law 952 = .ok (.invokevirtual 108, 3) := by decide +kernel
theorem dL_law_955 : decode cL_law 955 = .ok (.if_icmp .eq 526, 3) := by decide +kernel
theorem dL_law_958 : decode cL_law 958 = .ok (.iconst 0, 1) := by decide +kernel
theorem dL_law_959 : decode cL_law 959 = .ok (.ireturn, 1) := by decide +kernel
theorem dL_law_960 : decode cL_law 960 = .ok (.aload_n 1, 1) := by decide +kernel
theorem dL_law_961 : decode cL_law 961 = .ok (.aload_n 0, 1) := by decide +kernel
theorem dL_law_962 : decode cL_law 962 = .ok (.iload_n 3, 1) := by decide +kernel
theorem dL_law_963 : decode cL_law 963 = .ok (.iconst 1, 1) := by decide +kernel
theorem dL_law_964 : decode cL_law 964 = .ok (.iadd, 1) := by decide +kernel
theorem dL_law_965 : decode cL_law 965 = .ok (.iaload, 1) := by decide +kernel
theorem dL_law_966 : decode cL_law 966 = .ok (.aload_n 0, 1) := by decide +kernel
theorem dL_law_967 : decode cL_law 967 = .ok (.iload_n 3, 1) := by decide +kernel
theorem dL_law_968 : decode cL_law 968 = .ok (.iconst 2, 1) := by decide +kernel
theorem dL_law_969 : decode cL_law 969 = .ok (.iadd, 1) := by decide +kernel
theorem dL_law_970 : decode cL_law 970 = .ok (.iaload, 1) := by decide +kernel
theorem dL_law_971 : decode cL_law 971 = .ok (.aload_n 0, 1) := by decide +kernel
theorem dL_law_972 : decode cL_law 972 = .ok (.iload_n 3, 1) := by decide +kernel
theorem dL_law_973 : decode cL_law 973 = .ok (.iconst 3, 1) := by decide +kernel
theorem dL_law_974 : decode cL_law 974 = .ok (.iadd, 1) := by decide +kernel
theorem dL_law_975 : decode cL_law 975 = .ok (.iaload, 1) := by decide +kernel
theorem dL_law_976 : decode cL_law 976 = .ok (.invokevirtual 109, 3) := by decide +kernel
theorem dL_law_979 : decode cL_law 979 = .ok (.aload_n 2, 1) := by decide +kernel
theorem dL_law_980 : decode cL_law 980 = .ok (.aload_n 0, 1) := by decide +kernel
theorem dL_law_981 : decode cL_law 981 = .ok (.iload_n 3, 1) := by decide +kernel
theorem dL_law_982 : decode cL_law 982 = .ok (.iconst 1, 1) := by decide +kernel
theorem dL_law_983 : decode cL_law 983 = .ok (.iadd, 1) := by decide +kernel
theorem dL_law_984 : decode cL_law 984 = .ok (.iaload, 1) := by decide +kernel
theorem dL_law_985 : decode cL_law 985 = .ok (.aload_n 0, 1) := by decide +kernel
theorem dL_law_986 : decode cL_law 986 = .ok (.iload_n 3, 1) := by decide +kernel
theorem dL_law_987 : decode cL_law 987 = .ok (.iconst 2, 1) := by decide +kernel
theorem dL_law_988 : decode cL_law 988 = .ok (.iadd, 1) := by decide +kernel
theorem dL_law_989 : decode cL_law 989 = .ok (.iaload, 1) := by decide +kernel
theorem dL_law_990 : decode cL_law 990 = .ok (.aload_n 0, 1) := by decide +kernel
theorem dL_law_991 : decode cL_law 991 = .ok (.iload_n 3, 1) := by decide +kernel
theorem dL_law_992 : decode cL_law 992 = .ok (.iconst 3, 1) := by decide +kernel
theorem dL_law_993 : decode cL_law 993 = .ok (.iadd, 1) := by decide +kernel
theorem dL_law_994 : decode cL_law 994 = .ok (.iaload, 1) := by decide +kernel
theorem dL_law_995 : decode cL_law 995 = .ok (.invokevirtual 112, 3) := by decide +kernel
theorem dL_law_998 : decode cL_law 998 = .ok (.if_icmp .eq 483, 3) := by decide +kernel
theorem dL_law_1001 : decode cL_law 1001 = .ok (.iconst 0, 1) := by decide +kernel
theorem dL_law_1002 : decode cL_law 1002 = .ok (.ireturn, 1) := by decide +kernel
theorem dL_law_1003 : decode cL_law 1003 = .ok (.aload_n 1, 1) := by decide +kernel
theorem dL_law_1004 : decode cL_law 1004 = .ok (.aload_n 0, 1) := by decide +kernel
theorem dL_law_1005 : decode cL_law 1005 = .ok (.iload_n 3, 1) := by decide +kernel
theorem dL_law_1006 : decode cL_law 1006 = .ok (.iconst 1, 1) := by decide +kernel
theorem dL_law_1007 : decode cL_law 1007 = .ok (.iadd, 1) := by decide +kernel
theorem dL_law_1008 : decode cL_law 1008 = .ok (.iaload, 1) := by decide +kernel
theorem dL_law_1009 : decode cL_law 1009 = .ok (.aload_n 0, 1) := by decide +kernel
theorem dL_law_1010 : decode cL_law 1010 = .ok (.iload_n 3, 1) := by decide +kernel
theorem dL_law_1011 : decode cL_law 1011 = .ok (.iconst 2, 1) := by decide +kernel
theorem dL_law_1012 : decode cL_law 1012 = .ok (.iadd, 1) := by decide +kernel
theorem dL_law_1013 : decode cL_law 1013 = .ok (.iaload, 1) := by decide +kernel
theorem dL_law_1014 : decode cL_law 1014 = .ok (.invokevirtual 113, 3) := by decide +kernel
theorem dL_law_1017 : decode cL_law 1017 = .ok (.aload_n 2, 1) := by decide +kernel
theorem dL_law_1018 : decode cL_law 1018 = .ok (.aload_n 0, 1) := by decide +kernel
theorem dL_law_1019 : decode cL_law 1019 = .ok (.iload_n 3, 1) := by decide +kernel
theorem dL_law_1020 : decode cL_law 1020 = .ok (.iconst 1, 1) := by decide +kernel
theorem dL_law_1021 : decode cL_law 1021 = .ok (.iadd, 1) := by decide +kernel
theorem dL_law_1022 : decode cL_law 1022 = .ok (.iaload, 1) := by decide +kernel
theorem dL_law_1023 : decode cL_law 1023 = .ok (.aload_n 0, 1) := by decide +kernel
theorem dL_law_1024 : decode cL_law 1024 = .ok (.iload_n 3, 1) := by decide +kernel
theorem dL_law_1025 : decode cL_law 1025 = .ok (.iconst 2, 1) := by decide +kernel
theorem dL_law_1026 : decode cL_law 1026 = .ok (.iadd, 1) := by decide +kernel
theorem dL_law_1027 : decode cL_law 1027 = .ok (.iaload, 1) := by decide +kernel
theorem dL_law_1028 : decode cL_law 1028 = .ok (.invokevirtual 116, 3) := by decide +kernel
theorem dL_law_1031 : decode cL_law 1031 = .ok (.if_icmp .eq 450, 3) := by decide +kernel
theorem dL_law_1034 : decode cL_law 1034 = .ok (.iconst 0, 1) := by decide +kernel
theorem dL_law_1035 : decode cL_law 1035 = .ok (.ireturn, 1) := by decide +kernel
theorem dL_law_1036 : decode cL_law 1036 = .ok (.aload_n 1, 1) := by decide +kernel
theorem dL_law_1037 : decode cL_law 1037 = .ok (.aload_n 0, 1) := by decide +kernel
theorem dL_law_1038 : decode cL_law 1038 = .ok (.iload_n 3, 1) := by decide +kernel
theorem dL_law_1039 : decode cL_law 1039 = .ok (.iconst 1, 1) := by decide +kernel
theorem dL_law_1040 : decode cL_law 1040 = .ok (.iadd, 1) := by decide +kernel
theorem dL_law_1041 : decode cL_law 1041 = .ok (.iaload, 1) := by decide +kernel
theorem dL_law_1042 : decode cL_law 1042 = .ok (.aload_n 0, 1) := by decide +kernel
theorem dL_law_1043 : decode cL_law 1043 = .ok (.iload_n 3, 1) := by decide +kernel
theorem dL_law_1044 : decode cL_law 1044 = .ok (.iconst 2, 1) := by decide +kernel
theorem dL_law_1045 : decode cL_law 1045 = .ok (.iadd, 1) := by decide +kernel
theorem dL_law_1046 : decode cL_law 1046 = .ok (.iaload, 1) := by decide +kernel
theorem dL_law_1047 : decode cL_law 1047 = .ok (.aload_n 0, 1) := by decide +kernel
theorem dL_law_1048 : decode cL_law 1048 = .ok (.iload_n 3, 1) := by decide +kernel
theorem dL_law_1049 : decode cL_law 1049 = .ok (.iconst 3, 1) := by decide +kernel
theorem dL_law_1050 : decode cL_law 1050 = .ok (.iadd, 1) := by decide +kernel
theorem dL_law_1051 : decode cL_law 1051 = .ok (.iaload, 1) := by decide +kernel
theorem dL_law_1052 : decode cL_law 1052 = .ok (.aload_n 0, 1) := by decide +kernel
theorem dL_law_1053 : decode cL_law 1053 = .ok (.iload_n 3, 1) := by decide +kernel
theorem dL_law_1054 : decode cL_law 1054 = .ok (.iconst 4, 1) := by decide +kernel
theorem dL_law_1055 : decode cL_law 1055 = .ok (.iadd, 1) := by decide +kernel
theorem dL_law_1056 : decode cL_law 1056 = .ok (.iaload, 1) := by decide +kernel
theorem dL_law_1057 : decode cL_law 1057 = .ok (.invokevirtual 117, 3) := by decide +kernel
theorem dL_law_1060 : decode cL_law 1060 = .ok (.aload_n 2, 1) := by decide +kernel
theorem dL_law_1061 : decode cL_law 1061 = .ok (.aload_n 0, 1) := by decide +kernel
theorem dL_law_1062 : decode cL_law 1062 = .ok (.iload_n 3, 1) := by decide +kernel
theorem dL_law_1063 : decode cL_law 1063 = .ok (.iconst 1, 1) := by decide +kernel
theorem dL_law_1064 : decode cL_law 1064 = .ok (.iadd, 1) := by decide +kernel
theorem dL_law_1065 : decode cL_law 1065 = .ok (.iaload, 1) := by decide +kernel
theorem dL_law_1066 : decode cL_law 1066 = .ok (.aload_n 0, 1) := by decide +kernel
theorem dL_law_1067 : decode cL_law 1067 = .ok (.iload_n 3, 1) := by decide +kernel
theorem dL_law_1068 : decode cL_law 1068 = .ok (.iconst 2, 1) := by decide +kernel
theorem dL_law_1069 : decode cL_law 1069 = .ok (.iadd, 1) := by decide +kernel
theorem dL_law_1070 : decode cL_law 1070 = .ok (.iaload, 1) := by decide +kernel
theorem dL_law_1071 : decode cL_law 1071 = .ok (.aload_n 0, 1) := by decide +kernel
theorem dL_law_1072 : decode cL_law 1072 = .ok (.iload_n 3, 1) := by decide +kernel
theorem dL_law_1073 : decode cL_law 1073 = .ok (.iconst 3, 1) := by decide +kernel
theorem dL_law_1074 : decode cL_law 1074 = .ok (.iadd, 1) := by decide +kernel
theorem dL_law_1075 : decode cL_law 1075 = .ok (.iaload, 1) := by decide +kernel
theorem dL_law_1076 : decode cL_law 1076 = .ok (.aload_n 0, 1) := by decide +kernel
theorem dL_law_1077 : decode cL_law 1077 = .ok (.iload_n 3, 1) := by decide +kernel
theorem dL_law_1078 : decode cL_law 1078 = .ok (.iconst 4, 1) := by decide +kernel
theorem dL_law_1079 : decode cL_law 1079 = .ok (.iadd, 1) := by decide +kernel
theorem dL_law_1080 : decode cL_law 1080 = .ok (.iaload, 1) := by decide +kernel
theorem dL_law_1081 : decode cL_law 1081 = .ok (.invokevirtual 120, 3) := by decide +kernel
theorem dL_law_1084 : decode cL_law 1084 = .ok (.if_icmp .eq 397, 3) := by decide +kernel
theorem dL_law_1087 : decode cL_law 1087 = .ok (.iconst 0, 1) := by decide +kernel
theorem dL_law_1088 : decode cL_law 1088 = .ok (.ireturn, 1) := by decide +kernel
theorem dL_law_1089 : decode cL_law 1089 = .ok (.aload_n 1, 1) := by decide +kernel
theorem dL_law_1090 : decode cL_law 1090 = .ok (.aload_n 0, 1) := by decide +kernel
theorem dL_law_1091 : decode cL_law 1091 = .ok (.iload_n 3, 1) := by decide +kernel
theorem dL_law_1092 : decode cL_law 1092 = .ok (.iconst 1, 1) := by decide +kernel
theorem dL_law_1093 : decode cL_law 1093 = .ok (.iadd, 1) := by decide +kernel
theorem dL_law_1094 : decode cL_law 1094 = .ok (.iaload, 1) := by decide +kernel
theorem dL_law_1095 : decode cL_law 1095 = .ok (.invokevirtual 121, 3) := by decide +kernel
theorem dL_law_1098 : decode cL_law 1098 = .ok (.aload_n 2, 1) := by decide +kernel
theorem dL_law_1099 : decode cL_law 1099 = .ok (.aload_n 0, 1) := by decide +kernel
theorem dL_law_1100 : decode cL_law 1100 = .ok (.iload_n 3, 1) := by decide +kernel
theorem dL_law_1101 : decode cL_law 1101 = .ok (.iconst 1, 1) := by decide +kernel
theorem dL_law_1102 : decode cL_law 1102 = .ok (.iadd, 1) := by decide +kernel
theorem dL_law_1103 : decode cL_law 1103 = .ok (.iaload, 1) := by decide +kernel
theorem dL_law_1104 : decode cL_law 1104 = .ok (.invokevirtual 124, 3) := by decide +kernel
theorem dL_law_1107 : decode cL_law 1107 = .ok (.if_icmp .eq 374, 3) := by decide +kernel
theorem dL_law_1110 : decode cL_law 1110 = .ok (.iconst 0, 1) := by decide +kernel
theorem dL_law_1111 : decode cL_law 1111 = .ok (.ireturn, 1) := by decide +kernel
theorem dL_law_1112 : decode cL_law 1112 = .ok (.aload_n 1, 1) := by decide +kernel
theorem dL_law_1113 : decode cL_law 1113 = .ok (.aload_n 0, 1) := by decide +kernel
theorem dL_law_1114 : decode cL_law 1114 = .ok (.iload_n 3, 1) := by decide +kernel
theorem dL_law_1115 : decode cL_law 1115 = .ok (.iconst 1, 1) := by decide +kernel
theorem dL_law_1116 : decode cL_law 1116 = .ok (.iadd, 1) := by decide +kernel
theorem dL_law_1117 : decode cL_law 1117 = .ok (.iaload, 1) := by decide +kernel
theorem dL_law_1118 : decode cL_law 1118 = .ok (.aload_n 0, 1) := by decide +kernel
theorem dL_law_1119 : decode cL_law 1119 = .ok (.iload_n 3, 1) := by decide +kernel
theorem dL_law_1120 : decode cL_law 1120 = .ok (.iconst 2, 1) := by decide +kernel
theorem dL_law_1121 : decode cL_law 1121 = .ok (.iadd, 1) := by decide +kernel
theorem dL_law_1122 : decode cL_law 1122 = .ok (.iaload, 1) := by decide +kernel
theorem dL_law_1123 : decode cL_law 1123 = .ok (.aload_n 0, 1) := by decide +kernel
theorem dL_law_1124 : decode cL_law 1124 = .ok (.iload_n 3, 1) := by decide +kernel
theorem dL_law_1125 : decode cL_law 1125 = .ok (.iconst 3, 1) := by decide +kernel
theorem dL_law_1126 : decode cL_law 1126 = .ok (.iadd, 1) := by decide +kernel
theorem dL_law_1127 : decode cL_law 1127 = .ok (.iaload, 1) := by decide +kernel
theorem dL_law_1128 : decode cL_law 1128 = .ok (.invokevirtual 125, 3) := by decide +kernel
theorem dL_law_1131 : decode cL_law 1131 = .ok (.aload_n 2, 1) := by decide +kernel
theorem dL_law_1132 : decode cL_law 1132 = .ok (.aload_n 0, 1) := by decide +kernel
theorem dL_law_1133 : decode cL_law 1133 = .ok (.iload_n 3, 1) := by decide +kernel
theorem dL_law_1134 : decode cL_law 1134 = .ok (.iconst 1, 1) := by decide +kernel
theorem dL_law_1135 : decode cL_law 1135 = .ok (.iadd, 1) := by decide +kernel
theorem dL_law_1136 : decode cL_law 1136 = .ok (.iaload, 1) := by decide +kernel
theorem dL_law_1137 : decode cL_law 1137 = .ok (.aload_n 0, 1) := by decide +kernel
theorem dL_law_1138 : decode cL_law 1138 = .ok (.iload_n 3, 1) := by decide +kernel
theorem dL_law_1139 : decode cL_law 1139 = .ok (.iconst 2, 1) := by decide +kernel
theorem dL_law_1140 : decode cL_law 1140 = .ok (.iadd, 1) := by decide +kernel
theorem dL_law_1141 : decode cL_law 1141 = .ok (.iaload, 1) := by decide +kernel
theorem dL_law_1142 : decode cL_law 1142 = .ok (.aload_n 0, 1) := by decide +kernel
theorem dL_law_1143 : decode cL_law 1143 = .ok (.iload_n 3, 1) := by decide +kernel
theorem dL_law_1144 : decode cL_law 1144 = .ok (.iconst 3, 1) := by decide +kernel
theorem dL_law_1145 : decode cL_law 1145 = .ok (.iadd, 1) := by decide +kernel
theorem dL_law_1146 : decode cL_law 1146 = .ok (.iaload, 1) := by decide +kernel
theorem dL_law_1147 : decode cL_law 1147 = .ok (.invokevirtual 128, 3) := by decide +kernel
theorem dL_law_1150 : decode cL_law 1150 = .ok (.if_icmp .eq 331, 3) := by decide +kernel
theorem dL_law_1153 : decode cL_law 1153 = .ok (.iconst 0, 1) := by decide +kernel
theorem dL_law_1154 : decode cL_law 1154 = .ok (.ireturn, 1) := by decide +kernel
theorem dL_law_1155 : decode cL_law 1155 = .ok (.aload_n 1, 1) := by decide +kernel
theorem dL_law_1156 : decode cL_law 1156 = .ok (.aload_n 0, 1) := by decide +kernel
theorem dL_law_1157 : decode cL_law 1157 = .ok (.iload_n 3, 1) := by decide +kernel
theorem dL_law_1158 : decode cL_law 1158 = .ok (.iconst 1, 1) := by decide +kernel
theorem dL_law_1159 : decode cL_law 1159 = .ok (.iadd, 1) := by decide +kernel
theorem dL_law_1160 : decode cL_law 1160 = .ok (.iaload, 1) := by decide +kernel
theorem dL_law_1161 : decode cL_law 1161 = .ok (.invokevirtual 129, 3) := by decide +kernel
theorem dL_law_1164 : decode cL_law 1164 = .ok (.aload_n 2, 1) := by decide +kernel
theorem dL_law_1165 : decode cL_law 1165 = .ok (.aload_n 0, 1) := by decide +kernel
theorem dL_law_1166 : decode cL_law 1166 = .ok (.iload_n 3, 1) := by decide +kernel
theorem dL_law_1167 : decode cL_law 1167 = .ok (.iconst 1, 1) := by decide +kernel
theorem dL_law_1168 : decode cL_law 1168 = .ok (.iadd, 1) := by decide +kernel
theorem dL_law_1169 : decode cL_law 1169 = .ok (.iaload, 1) := by decide +kernel
theorem dL_law_1170 : decode cL_law 1170 = .ok (.invokevirtual 132, 3) := by decide +kernel
theorem dL_law_1173 : decode cL_law 1173 = .ok (.if_icmp .eq 308, 3) := by decide +kernel
theorem dL_law_1176 : decode cL_law 1176 = .ok (.iconst 0, 1) := by decide +kernel
theorem dL_law_1177 : decode cL_law 1177 = .ok (.ireturn, 1) := by decide +kernel
theorem dL_law_1178 : decode cL_law 1178 = .ok (.aload_n 1, 1) := by decide +kernel
theorem dL_law_1179 : decode cL_law 1179 = .ok (.aload_n 0, 1) := by decide +kernel
theorem dL_law_1180 : decode cL_law 1180 = .ok (.iload_n 3, 1) := by decide +kernel
theorem dL_law_1181 : decode cL_law 1181 = .ok (.iconst 1, 1) := by decide +kernel
theorem dL_law_1182 : decode cL_law 1182 = .ok (.iadd, 1) := by decide +kernel
theorem dL_law_1183 : decode cL_law 1183 = .ok (.iaload, 1) := by decide +kernel
theorem dL_law_1184 : decode cL_law 1184 = .ok (.aload_n 0, 1) := by decide +kernel
theorem dL_law_1185 : decode cL_law 1185 = .ok (.iload_n 3, 1) := by decide +kernel
theorem dL_law_1186 : decode cL_law 1186 = .ok (.iconst 2, 1) := by decide +kernel
theorem dL_law_1187 : decode cL_law 1187 = .ok (.iadd, 1) := by decide +kernel
theorem dL_law_1188 : decode cL_law 1188 = .ok (.iaload, 1) := by decide +kernel
theorem dL_law_1189 : decode cL_law 1189 = .ok (.aload_n 0, 1) := by decide +kernel
theorem dL_law_1190 : decode cL_law 1190 = .ok (.iload_n 3, 1) := by decide +kernel
theorem dL_law_1191 : decode cL_law 1191 = .ok (.iconst 3, 1) := by decide +kernel
theorem dL_law_1192 : decode cL_law 1192 = .ok (.iadd, 1) := by decide +kernel
theorem dL_law_1193 : decode cL_law 1193 = .ok (.iaload, 1) := by decide +kernel
theorem dL_law_1194 : decode cL_law 1194 = .ok (.invokevirtual 133, 3) := by decide +kernel
theorem dL_law_1197 : decode cL_law 1197 = .ok (.aload_n 2, 1) := by decide +kernel
theorem dL_law_1198 : decode cL_law 1198 = .ok (.aload_n 0, 1) := by decide +kernel
theorem dL_law_1199 : decode cL_law 1199 = .ok (.iload_n 3, 1) := by decide +kernel
theorem dL_law_1200 : decode cL_law 1200 = .ok (.iconst 1, 1) := by decide +kernel
theorem dL_law_1201 : decode cL_law 1201 = .ok (.iadd, 1) := by decide +kernel
theorem dL_law_1202 : decode cL_law 1202 = .ok (.iaload, 1) := by decide +kernel
theorem dL_law_1203 : decode cL_law 1203 = .ok (.aload_n 0, 1) := by decide +kernel
theorem dL_law_1204 : decode cL_law 1204 = .ok (.iload_n 3, 1) := by decide +kernel
theorem dL_law_1205 : decode cL_law 1205 = .ok (.iconst 2, 1) := by decide +kernel
theorem dL_law_1206 : decode cL_law 1206 = .ok (.iadd, 1) := by decide +kernel
theorem dL_law_1207 : decode cL_law 1207 = .ok (.iaload, 1) := by decide +kernel
theorem dL_law_1208 : decode cL_law 1208 = .ok (.aload_n 0, 1) := by decide +kernel
theorem dL_law_1209 : decode cL_law 1209 = .ok (.iload_n 3, 1) := by decide +kernel
theorem dL_law_1210 : decode cL_law 1210 = .ok (.iconst 3, 1) := by decide +kernel
theorem dL_law_1211 : decode cL_law 1211 = .ok (.iadd, 1) := by decide +kernel
theorem dL_law_1212 : decode cL_law 1212 = .ok (.iaload, 1) := by decide +kernel
theorem dL_law_1213 : decode cL_law 1213 = .ok (.invokevirtual 136, 3) := by decide +kernel
theorem dL_law_1216 : decode cL_law 1216 = .ok (.if_icmp .eq 265, 3) := by decide +kernel
theorem dL_law_1219 : decode cL_law 1219 = .ok (.iconst 0, 1) := by decide +kernel
theorem dL_law_1220 : decode cL_law 1220 = .ok (.ireturn, 1) := by decide +kernel
theorem dL_law_1221 : decode cL_law 1221 = .ok (.aload_n 1, 1) := by decide +kernel
theorem dL_law_1222 : decode cL_law 1222 = .ok (.aload_n 0, 1) := by decide +kernel
theorem dL_law_1223 : decode cL_law 1223 = .ok (.iload_n 3, 1) := by decide +kernel
theorem dL_law_1224 : decode cL_law 1224 = .ok (.iconst 1, 1) := by decide +kernel
theorem dL_law_1225 : decode cL_law 1225 = .ok (.iadd, 1) := by decide +kernel
theorem dL_law_1226 : decode cL_law 1226 = .ok (.iaload, 1) := by decide +kernel
theorem dL_law_1227 : decode cL_law 1227 = .ok (.aload_n 0, 1) := by decide +kernel
theorem dL_law_1228 : decode cL_law 1228 = .ok (.iload_n 3, 1) := by decide +kernel
theorem dL_law_1229 : decode cL_law 1229 = .ok (.iconst 2, 1) := by decide +kernel
theorem dL_law_1230 : decode cL_law 1230 = .ok (.iadd, 1) := by decide +kernel
theorem dL_law_1231 : decode cL_law 1231 = .ok (.iaload, 1) := by decide +kernel
theorem dL_law_1232 : decode cL_law 1232 = .ok (.aload_n 0, 1) := by decide +kernel
theorem dL_law_1233 : decode cL_law 1233 = .ok (.iload_n 3, 1) := by decide +kernel
theorem dL_law_1234 : decode cL_law 1234 = .ok (.iconst 3, 1) := by decide +kernel
theorem dL_law_1235 : decode cL_law 1235 = .ok (.iadd, 1) := by decide +kernel
theorem dL_law_1236 : decode cL_law 1236 = .ok (.iaload, 1) := by decide +kernel
theorem dL_law_1237 : decode cL_law 1237 = .ok (.invokevirtual 137, 3) := by decide +kernel
theorem dL_law_1240 : decode cL_law 1240 = .ok (.aload_n 2, 1) := by decide +kernel
theorem dL_law_1241 : decode cL_law 1241 = .ok (.aload_n 0, 1) := by decide +kernel
theorem dL_law_1242 : decode cL_law 1242 = .ok (.iload_n 3, 1) := by decide +kernel
theorem dL_law_1243 : decode cL_law 1243 = .ok (.iconst 1, 1) := by decide +kernel
theorem dL_law_1244 : decode cL_law 1244 = .ok (.iadd, 1) := by decide +kernel
theorem dL_law_1245 : decode cL_law 1245 = .ok (.iaload, 1) := by decide +kernel
theorem dL_law_1246 : decode cL_law 1246 = .ok (.aload_n 0, 1) := by decide +kernel
theorem dL_law_1247 : decode cL_law 1247 = .ok (.iload_n 3, 1) := by decide +kernel
theorem dL_law_1248 : decode cL_law 1248 = .ok (.iconst 2, 1) := by decide +kernel
theorem dL_law_1249 : decode cL_law 1249 = .ok (.iadd, 1) := by decide +kernel
theorem dL_law_1250 : decode cL_law 1250 = .ok (.iaload, 1) := by decide +kernel
theorem dL_law_1251 : decode cL_law 1251 = .ok (.aload_n 0, 1) := by decide +kernel
theorem dL_law_1252 : decode cL_law 1252 = .ok (.iload_n 3, 1) := by decide +kernel
theorem dL_law_1253 : decode cL_law 1253 = .ok (.iconst 3, 1) := by decide +kernel
theorem dL_law_1254 : decode cL_law 1254 = .ok (.iadd, 1) := by decide +kernel
theorem dL_law_1255 : decode cL_law 1255 = .ok (.iaload, 1) := by decide +kernel
theorem dL_law_1256 : decode cL_law 1256 = .ok (.invokevirtual 140, 3) := by decide +kernel
theorem dL_law_1259 : decode cL_law 1259 = .ok (.if_icmp .eq 222, 3) := by decide +kernel
theorem dL_law_1262 : decode cL_law 1262 = .ok (.iconst 0, 1) := by decide +kernel
theorem dL_law_1263 : decode cL_law 1263 = .ok (.ireturn, 1) := by decide +kernel
theorem dL_law_1264 : decode cL_law 1264 = .ok (.aload_n 1, 1) := by decide +kernel
theorem dL_law_1265 : decode cL_law 1265 = .ok (.aload_n 0, 1) := by decide +kernel
theorem dL_law_1266 : decode cL_law 1266 = .ok (.iload_n 3, 1) := by decide +kernel
theorem dL_law_1267 : decode cL_law 1267 = .ok (.iconst 1, 1) := by decide +kernel
theorem dL_law_1268 : decode cL_law 1268 = .ok (.iadd, 1) := by decide +kernel
theorem dL_law_1269 : decode cL_law 1269 = .ok (.iaload, 1) := by decide +kernel
theorem dL_law_1270 : decode cL_law 1270 = .ok (.aload_n 0, 1) := by decide +kernel
theorem dL_law_1271 : decode cL_law 1271 = .ok (.iload_n 3, 1) := by decide +kernel
theorem dL_law_1272 : decode cL_law 1272 = .ok (.iconst 2, 1) := by decide +kernel
theorem dL_law_1273 : decode cL_law 1273 = .ok (.iadd, 1) := by decide +kernel
theorem dL_law_1274 : decode cL_law 1274 = .ok (.iaload, 1) := by decide +kernel
theorem dL_law_1275 : decode cL_law 1275 = .ok (.aload_n 0, 1) := by decide +kernel
theorem dL_law_1276 : decode cL_law 1276 = .ok (.iload_n 3, 1) := by decide +kernel
theorem dL_law_1277 : decode cL_law 1277 = .ok (.iconst 3, 1) := by decide +kernel
theorem dL_law_1278 : decode cL_law 1278 = .ok (.iadd, 1) := by decide +kernel
theorem dL_law_1279 : decode cL_law 1279 = .ok (.iaload, 1) := by decide +kernel
theorem dL_law_1280 : decode cL_law 1280 = .ok (.aload_n 0, 1) := by decide +kernel
theorem dL_law_1281 : decode cL_law 1281 = .ok (.iload_n 3, 1) := by decide +kernel
theorem dL_law_1282 : decode cL_law 1282 = .ok (.iconst 4, 1) := by decide +kernel
theorem dL_law_1283 : decode cL_law 1283 = .ok (.iadd, 1) := by decide +kernel
theorem dL_law_1284 : decode cL_law 1284 = .ok (.iaload, 1) := by decide +kernel
theorem dL_law_1285 : decode cL_law 1285 = .ok (.aload_n 0, 1) := by decide +kernel
theorem dL_law_1286 : decode cL_law 1286 = .ok (.iload_n 3, 1) := by decide +kernel
theorem dL_law_1287 : decode cL_law 1287 = .ok (.iconst 5, 1) := by decide +kernel
theorem dL_law_1288 : decode cL_law 1288 = .ok (.iadd, 1) := by decide +kernel
theorem dL_law_1289 : decode cL_law 1289 = .ok (.iaload, 1) := by decide +kernel
theorem dL_law_1290 : decode cL_law 1290 = .ok (.invokevirtual 141, 3) := by decide +kernel
theorem dL_law_1293 : decode cL_law 1293 = .ok (.aload_n 2, 1) := by decide +kernel
theorem dL_law_1294 : decode cL_law 1294 = .ok (.aload_n 0, 1) := by decide +kernel
theorem dL_law_1295 : decode cL_law 1295 = .ok (.iload_n 3, 1) := by decide +kernel
theorem dL_law_1296 : decode cL_law 1296 = .ok (.iconst 1, 1) := by decide +kernel
theorem dL_law_1297 : decode cL_law 1297 = .ok (.iadd, 1) := by decide +kernel
theorem dL_law_1298 : decode cL_law 1298 = .ok (.iaload, 1) := by decide +kernel
theorem dL_law_1299 : decode cL_law 1299 = .ok (.aload_n 0, 1) := by decide +kernel
theorem dL_law_1300 : decode cL_law 1300 = .ok (.iload_n 3, 1) := by decide +kernel
theorem dL_law_1301 : decode cL_law 1301 = .ok (.iconst 2, 1) := by decide +kernel
theorem dL_law_1302 : decode cL_law 1302 = .ok (.iadd, 1) := by decide +kernel
theorem dL_law_1303 : decode cL_law 1303 = .ok (.iaload, 1) := by decide +kernel
theorem dL_law_1304 : decode cL_law 1304 = .ok (.aload_n 0, 1) := by decide +kernel
theorem dL_law_1305 : decode cL_law 1305 = .ok (.iload_n 3, 1) := by decide +kernel
theorem dL_law_1306 : decode cL_law 1306 = .ok (.iconst 3, 1) := by decide +kernel
theorem dL_law_1307 : decode cL_law 1307 = .ok (.iadd, 1) := by decide +kernel
theorem dL_law_1308 : decode cL_law 1308 = .ok (.iaload, 1) := by decide +kernel
theorem dL_law_1309 : decode cL_law 1309 = .ok (.aload_n 0, 1) := by decide +kernel
theorem dL_law_1310 : decode cL_law 1310 = .ok (.iload_n 3, 1) := by decide +kernel
theorem dL_law_1311 : decode cL_law 1311 = .ok (.iconst 4, 1) := by decide +kernel
theorem dL_law_1312 : decode cL_law 1312 = .ok (.iadd, 1) := by decide +kernel
theorem dL_law_1313 : decode cL_law 1313 = .ok (.iaload, 1) := by decide +kernel
theorem dL_law_1314 : decode cL_law 1314 = .ok (.aload_n 0, 1) := by decide +kernel
theorem dL_law_1315 : decode cL_law 1315 = .ok (.iload_n 3, 1) := by decide +kernel
theorem dL_law_1316 : decode cL_law 1316 = .ok (.iconst 5, 1) := by decide +kernel
theorem dL_law_1317 : decode cL_law 1317 = .ok (.iadd, 1) := by decide +kernel
theorem dL_law_1318 : decode cL_law 1318 = .ok (.iaload, 1) := by decide +kernel
theorem dL_law_1319 : decode cL_law 1319 = .ok (.invokevirtual 145, 3) := by decide +kernel
theorem dL_law_1322 : decode cL_law 1322 = .ok (.if_icmp .eq 159, 3) := by decide +kernel
theorem dL_law_1325 : decode cL_law 1325 = .ok (.iconst 0, 1) := by decide +kernel
theorem dL_law_1326 : decode cL_law 1326 = .ok (.ireturn, 1) := by decide +kernel
theorem dL_law_1327 : decode cL_law 1327 = .ok (.aload_n 1, 1) := by decide +kernel
theorem dL_law_1328 : decode cL_law 1328 = .ok (.aload_n 0, 1) := by decide +kernel
theorem dL_law_1329 : decode cL_law 1329 = .ok (.iload_n 3, 1) := by decide +kernel
theorem dL_law_1330 : decode cL_law 1330 = .ok (.iconst 1, 1) := by decide +kernel
theorem dL_law_1331 : decode cL_law 1331 = .ok (.iadd, 1) := by decide +kernel
theorem dL_law_1332 : decode cL_law 1332 = .ok (.iaload, 1) := by decide +kernel
theorem dL_law_1333 : decode cL_law 1333 = .ok (.invokevirtual 146, 3) := by decide +kernel
theorem dL_law_1336 : decode cL_law 1336 = .ok (.aload_n 2, 1) := by decide +kernel
theorem dL_law_1337 : decode cL_law 1337 = .ok (.aload_n 0, 1) := by decide +kernel
theorem dL_law_1338 : decode cL_law 1338 = .ok (.iload_n 3, 1) := by decide +kernel
theorem dL_law_1339 : decode cL_law 1339 = .ok (.iconst 1, 1) := by decide +kernel
theorem dL_law_1340 : decode cL_law 1340 = .ok (.iadd, 1) := by decide +kernel
theorem dL_law_1341 : decode cL_law 1341 = .ok (.iaload, 1) := by decide +kernel
theorem dL_law_1342 : decode cL_law 1342 = .ok (.invokevirtual 149, 3) := by decide +kernel
theorem dL_law_1345 : decode cL_law 1345 = .ok (.if_icmp .eq 136, 3) := by decide +kernel
theorem dL_law_1348 : decode cL_law 1348 = .ok (.iconst 0, 1) := by decide +kernel
theorem dL_law_1349 : decode cL_law 1349 = .ok (.ireturn, 1) := by decide +kernel
theorem dL_law_1350 : decode cL_law 1350 = .ok (.aload_n 1, 1) := by decide +kernel
theorem dL_law_1351 : decode cL_law 1351 = .ok (.aload_n 0, 1) := by decide +kernel
theorem dL_law_1352 : decode cL_law 1352 = .ok (.iload_n 3, 1) := by decide +kernel
theorem dL_law_1353 : decode cL_law 1353 = .ok (.iconst 1, 1) := by decide +kernel
theorem dL_law_1354 : decode cL_law 1354 = .ok (.iadd, 1) := by decide +kernel
theorem dL_law_1355 : decode cL_law 1355 = .ok (.iaload, 1) := by decide +kernel
theorem dL_law_1356 : decode cL_law 1356 = .ok (.invokevirtual 150, 3) := by decide +kernel
theorem dL_law_1359 : decode cL_law 1359 = .ok (.aload_n 2, 1) := by decide +kernel
theorem dL_law_1360 : decode cL_law 1360 = .ok (.aload_n 0, 1) := by decide +kernel
theorem dL_law_1361 : decode cL_law 1361 = .ok (.iload_n 3, 1) := by decide +kernel
theorem dL_law_1362 : decode cL_law 1362 = .ok (.iconst 1, 1) := by decide +kernel
theorem dL_law_1363 : decode cL_law 1363 = .ok (.iadd, 1) := by decide +kernel
theorem dL_law_1364 : decode cL_law 1364 = .ok (.iaload, 1) := by decide +kernel
theorem dL_law_1365 : decode cL_law 1365 = .ok (.invokevirtual 153, 3) := by decide +kernel
theorem dL_law_1368 : decode cL_law 1368 = .ok (.if_icmp .eq 113, 3) := by decide +kernel
theorem dL_law_1371 : decode cL_law 1371 = .ok (.iconst 0, 1) := by decide +kernel
theorem dL_law_1372 : decode cL_law 1372 = .ok (.ireturn, 1) := by decide +kernel
theorem dL_law_1373 : decode cL_law 1373 = .ok (.aload_n 1, 1) := by decide +kernel
theorem dL_law_1374 : decode cL_law 1374 = .ok (.invokevirtual 154, 3) := by decide +kernel
theorem dL_law_1377 : decode cL_law 1377 = .ok (.aload_n 2, 1) := by decide +kernel
theorem dL_law_1378 : decode cL_law 1378 = .ok (.invokevirtual 157, 3) := by decide +kernel
theorem dL_law_1381 : decode cL_law 1381 = .ok (.if_icmp .eq 100, 3) := by decide +kernel
theorem dL_law_1384 : decode cL_law 1384 = .ok (.iconst 0, 1) := by decide +kernel
theorem dL_law_1385 : decode cL_law 1385 = .ok (.ireturn, 1) := by decide +kernel
theorem dL_law_1386 : decode cL_law 1386 = .ok (.aload_n 1, 1) := by decide +kernel
theorem dL_law_1387 : decode cL_law 1387 = .ok (.invokevirtual 158, 3) := by decide +kernel
theorem dL_law_1390 : decode cL_law 1390 = .ok (.aload_n 2, 1) := by decide +kernel
theorem dL_law_1391 : decode cL_law 1391 = .ok (.invokevirtual 161, 3) := by decide +kernel
theorem dL_law_1394 : decode cL_law 1394 = .ok (.if_icmp .eq 87, 3) := by decide +kernel
theorem dL_law_1397 : decode cL_law 1397 = .ok (.iconst 0, 1) := by decide +kernel
theorem dL_law_1398 : decode cL_law 1398 = .ok (.ireturn, 1) := by decide +kernel
theorem dL_law_1399 : decode cL_law 1399 = .ok (.aload_n 1, 1) := by decide +kernel
theorem dL_law_1400 : decode cL_law 1400 = .ok (.aload_n 0, 1) := by decide +kernel
theorem dL_law_1401 : decode cL_law 1401 = .ok (.iload_n 3, 1) := by decide +kernel
theorem dL_law_1402 : decode cL_law 1402 = .ok (.iconst 1, 1) := by decide +kernel
theorem dL_law_1403 : decode cL_law 1403 = .ok (.iadd, 1) := by decide +kernel
theorem dL_law_1404 : decode cL_law 1404 = .ok (.iaload, 1) := by decide +kernel
theorem dL_law_1405 : decode cL_law 1405 = .ok (.invokevirtual 162, 3) := by decide +kernel
theorem dL_law_1408 : decode cL_law 1408 = .ok (.aload_n 2, 1) := by decide +kernel
theorem dL_law_1409 : decode cL_law 1409 = .ok (.aload_n 0, 1) := by decide +kernel
theorem dL_law_1410 : decode cL_law 1410 = .ok (.iload_n 3, 1) := by decide +kernel
theorem dL_law_1411 : decode cL_law 1411 = .ok (.iconst 1, 1) := by decide +kernel
theorem dL_law_1412 : decode cL_law 1412 = .ok (.iadd, 1) := by decide +kernel
theorem dL_law_1413 : decode cL_law 1413 = .ok (.iaload, 1) := by decide +kernel
theorem dL_law_1414 : decode cL_law 1414 = .ok (.invokevirtual 165, 3) := by decide +kernel
theorem dL_law_1417 : decode cL_law 1417 = .ok (.if_icmp .eq 64, 3) := by decide +kernel
theorem dL_law_1420 : decode cL_law 1420 = .ok (.iconst 0, 1) := by decide +kernel
theorem dL_law_1421 : decode cL_law 1421 = .ok (.ireturn, 1) := by decide +kernel
theorem dL_law_1422 : decode cL_law 1422 = .ok (.aload_n 1, 1) := by decide +kernel
theorem dL_law_1423 : decode cL_law 1423 = .ok (.invokevirtual 166, 3) := by decide +kernel
theorem dL_law_1426 : decode cL_law 1426 = .ok (.aload_n 2, 1) := by decide +kernel
theorem dL_law_1427 : decode cL_law 1427 = .ok (.invokevirtual 169, 3) := by decide +kernel
theorem dL_law_1430 : decode cL_law 1430 = .ok (.if_icmp .eq 51, 3) := by decide +kernel
theorem dL_law_1433 : decode cL_law 1433 = .ok (.iconst 0, 1) := by decide +kernel
theorem dL_law_1434 : decode cL_law 1434 = .ok (.ireturn, 1) := by decide +kernel
theorem dL_law_1435 : decode cL_law 1435 = .ok (.aload_n 1, 1) := by decide +kernel
theorem dL_law_1436 : decode cL_law 1436 = .ok (.aload_n 0, 1) := by decide +kernel
theorem dL_law_1437 : decode cL_law 1437 = .ok (.iload_n 3, 1) := by decide +kernel
theorem dL_law_1438 : decode cL_law 1438 = .ok (.iconst 1, 1) := by decide +kernel
theorem dL_law_1439 : decode cL_law 1439 = .ok (.iadd, 1) := by decide +kernel
theorem dL_law_1440 : decode cL_law 1440 = .ok (.iaload, 1) := by decide +kernel
theorem dL_law_1441 : decode cL_law 1441 = .ok (.invokevirtual 170, 3) := by decide +kernel
theorem dL_law_1444 : decode cL_law 1444 = .ok (.aload_n 2, 1) := by decide +kernel
theorem dL_law_1445 : decode cL_law 1445 = .ok (.aload_n 0, 1) := by decide +kernel
theorem dL_law_1446 : decode cL_law 1446 = .ok (.iload_n 3, 1) := by decide +kernel
theorem dL_law_1447 : decode cL_law 1447 = .ok (.iconst 1, 1) := by decide +kernel
theorem dL_law_1448 : decode cL_law 1448 = .ok (.iadd, 1) := by decide +kernel
theorem dL_law_1449 : decode cL_law 1449 = .ok (.iaload, 1) := by decide +kernel
theorem dL_law_1450 : decode cL_law 1450 = .ok (.invokevirtual 173, 3) := by decide +kernel
theorem dL_law_1453 : decode cL_law 1453 = .ok (.if_icmp .eq 28, 3) := by decide +kernel
theorem dL_law_1456 : decode cL_law 1456 = .ok (.iconst 0, 1) := by decide +kernel
theorem dL_law_1457 : decode cL_law 1457 = .ok (.ireturn, 1) := by decide +kernel
theorem dL_law_1458 : decode cL_law 1458 = .ok (.aload_n 1, 1) := by decide +kernel
theorem dL_law_1459 : decode cL_law 1459 = .ok (.aload_n 0, 1) := by decide +kernel
theorem dL_law_1460 : decode cL_law 1460 = .ok (.iload_n 3, 1) := by decide +kernel
theorem dL_law_1461 : decode cL_law 1461 = .ok (.iconst 1, 1) := by decide +kernel
theorem dL_law_1462 : decode cL_law 1462 = .ok (.iadd, 1) := by decide +kernel
theorem dL_law_1463 : decode cL_law 1463 = .ok (.iaload, 1) := by decide +kernel
theorem dL_law_1464 : decode cL_law 1464 = .ok (.invokevirtual 174, 3) := by decide +kernel
theorem dL_law_1467 : decode cL_law 1467 = .ok (.aload_n 2, 1) := by decide +kernel
theorem dL_law_1468 : decode cL_law 1468 = .ok (.aload_n 0, 1) := by decide +kernel
theorem dL_law_1469 : decode cL_law 1469 = .ok (.iload_n 3, 1) := by decide +kernel
theorem dL_law_1470 : decode cL_law 1470 = .ok (.iconst 1, 1) := by decide +kernel
theorem dL_law_1471 : decode cL_law 1471 = .ok (.iadd, 1) := by decide +kernel
theorem dL_law_1472 : decode cL_law 1472 = .ok (.iaload, 1) := by decide +kernel
theorem dL_law_1473 : decode cL_law 1473 = .ok (.invokevirtual 177, 3) := by decide +kernel
theorem dL_law_1476 : decode cL_law 1476 = .ok (.if_icmp .eq 5, 3) := by decide +kernel
theorem dL_law_1479 : decode cL_law 1479 = .ok (.iconst 0, 1) := by decide +kernel
theorem dL_law_1480 : decode cL_law 1480 = .ok (.ireturn, 1) := by decide +kernel
theorem dL_law_1481 : decode cL_law 1481 = .ok (.iinc 3 6, 3) := by decide +kernel
theorem dL_law_1484 : decode cL_law 1484 = .ok (.goto (-1466), 3) := by decide +kernel
theorem dL_law_1487 : decode cL_law 1487 = .ok (.iconst 1, 1) := by decide +kernel
theorem dL_law_1488 : decode cL_law 1488 = .ok (.ireturn, 1) := by decide +kernel
