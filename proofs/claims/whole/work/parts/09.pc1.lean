def tX1_turnInto_0 : List (Nat × Instr × Nat) := [(0, .aload_n 0, 1), (1, .iload_n 1, 1), (2, .bipush 10, 2), (4, .idiv, 1), (5, .putfield 9, 3), (8, .aload_n 0, 1), (9, .iload_n 1, 1), (10, .bipush 10, 2), (12, .irem, 1), (13, .putfield 15, 3), (16, .return_, 1)]
theorem tX1_turnInto_0_ok : ∀ q ∈ tX1_turnInto_0, decode cX1_turnInto q.1 = .ok (q.2.1, q.2.2) := by decide +kernel
theorem pX1_turnInto_0 : At cX1_turnInto 0 (.aload_n 0) 1 1 := ⟨tX1_turnInto_0_ok (0, .aload_n 0, 1) (List.mem_of_getElem? (i := 0) rfl), rfl⟩
theorem pX1_turnInto_1 : At cX1_turnInto 1 (.iload_n 1) 1 2 := ⟨tX1_turnInto_0_ok (1, .iload_n 1, 1) (List.mem_of_getElem? (i := 1) rfl), rfl⟩
theorem pX1_turnInto_2 : At cX1_turnInto 2 (.bipush 10) 2 4 := ⟨tX1_turnInto_0_ok (2, .bipush 10, 2) (List.mem_of_getElem? (i := 2) rfl), rfl⟩
theorem pX1_turnInto_4 : At cX1_turnInto 4 (.idiv) 1 5 := ⟨tX1_turnInto_0_ok (4, .idiv, 1) (List.mem_of_getElem? (i := 3) rfl), rfl⟩
theorem pX1_turnInto_5 : At cX1_turnInto 5 (.putfield 9) 3 8 := ⟨tX1_turnInto_0_ok (5, .putfield 9, 3) (List.mem_of_getElem? (i := 4) rfl), rfl⟩
theorem pX1_turnInto_8 : At cX1_turnInto 8 (.aload_n 0) 1 9 := ⟨tX1_turnInto_0_ok (8, .aload_n 0, 1) (List.mem_of_getElem? (i := 5) rfl), rfl⟩
theorem pX1_turnInto_9 : At cX1_turnInto 9 (.iload_n 1) 1 10 := ⟨tX1_turnInto_0_ok (9, .iload_n 1, 1) (List.mem_of_getElem? (i := 6) rfl), rfl⟩
theorem pX1_turnInto_10 : At cX1_turnInto 10 (.bipush 10) 2 12 := ⟨tX1_turnInto_0_ok (10, .bipush 10, 2) (List.mem_of_getElem? (i := 7) rfl), rfl⟩
theorem pX1_turnInto_12 : At cX1_turnInto 12 (.irem) 1 13 := ⟨tX1_turnInto_0_ok (12, .irem, 1) (List.mem_of_getElem? (i := 8) rfl), rfl⟩
theorem pX1_turnInto_13 : At cX1_turnInto 13 (.putfield 15) 3 16 := ⟨tX1_turnInto_0_ok (13, .putfield 15, 3) (List.mem_of_getElem? (i := 9) rfl), rfl⟩
theorem pX1_turnInto_16 : At cX1_turnInto 16 (.return_) 1 17 := ⟨tX1_turnInto_0_ok (16, .return_, 1) (List.mem_of_getElem? (i := 10) rfl), rfl⟩
def tX1_standAt_0 : List (Nat × Instr × Nat) := [(0, .aload_n 0, 1), (1, .iload_n 1, 1), (2, .putfield 18, 3), (5, .aload_n 0, 1), (6, .iload_n 1, 1), (7, .putfield 24, 3), (10, .aload_n 0, 1), (11, .iconst 0, 1), (12, .putfield 21, 3), (15, .return_, 1)]
theorem tX1_standAt_0_ok : ∀ q ∈ tX1_standAt_0, decode cX1_standAt q.1 = .ok (q.2.1, q.2.2) := by decide +kernel
theorem pX1_standAt_0 : At cX1_standAt 0 (.aload_n 0) 1 1 := ⟨tX1_standAt_0_ok (0, .aload_n 0, 1) (List.mem_of_getElem? (i := 0) rfl), rfl⟩
theorem pX1_standAt_1 : At cX1_standAt 1 (.iload_n 1) 1 2 := ⟨tX1_standAt_0_ok (1, .iload_n 1, 1) (List.mem_of_getElem? (i := 1) rfl), rfl⟩
theorem pX1_standAt_2 : At cX1_standAt 2 (.putfield 18) 3 5 := ⟨tX1_standAt_0_ok (2, .putfield 18, 3) (List.mem_of_getElem? (i := 2) rfl), rfl⟩
theorem pX1_standAt_5 : At cX1_standAt 5 (.aload_n 0) 1 6 := ⟨tX1_standAt_0_ok (5, .aload_n 0, 1) (List.mem_of_getElem? (i := 3) rfl), rfl⟩
theorem pX1_standAt_6 : At cX1_standAt 6 (.iload_n 1) 1 7 := ⟨tX1_standAt_0_ok (6, .iload_n 1, 1) (List.mem_of_getElem? (i := 4) rfl), rfl⟩
theorem pX1_standAt_7 : At cX1_standAt 7 (.putfield 24) 3 10 := ⟨tX1_standAt_0_ok (7, .putfield 24, 3) (List.mem_of_getElem? (i := 5) rfl), rfl⟩
theorem pX1_standAt_10 : At cX1_standAt 10 (.aload_n 0) 1 11 := ⟨tX1_standAt_0_ok (10, .aload_n 0, 1) (List.mem_of_getElem? (i := 6) rfl), rfl⟩
theorem pX1_standAt_11 : At cX1_standAt 11 (.iconst 0) 1 12 := ⟨tX1_standAt_0_ok (11, .iconst 0, 1) (List.mem_of_getElem? (i := 7) rfl), rfl⟩
theorem pX1_standAt_12 : At cX1_standAt 12 (.putfield 21) 3 15 := ⟨tX1_standAt_0_ok (12, .putfield 21, 3) (List.mem_of_getElem? (i := 8) rfl), rfl⟩
theorem pX1_standAt_15 : At cX1_standAt 15 (.return_) 1 16 := ⟨tX1_standAt_0_ok (15, .return_, 1) (List.mem_of_getElem? (i := 9) rfl), rfl⟩
def tX1_load_0 : List (Nat × Instr × Nat) := [(0, .aload_n 0, 1), (1, .getfield 9, 3), (4, .tableswitch 77 1 6 #[40, 77, 70, 61, 72, 49], 40), (44, .iconst 3, 1), (45, .aload_n 0, 1), (46, .getfield 15, 3), (49, .iconst 1, 1), (50, .iadd, 1), (51, .imul, 1), (52, .ireturn, 1), (53, .iconst 3, 1), (54, .aload_n 0, 1), (55, .getfield 15, 3), (58, .iconst 1, 1), (59, .iadd, 1), (60, .imul, 1), (61, .bipush 20, 2), (63, .iadd, 1), (64, .ireturn, 1), (65, .aload_n 0, 1), (66, .getfield 15, 3), (69, .iconst 1, 1), (70, .iadd, 1), (71, .iconst 5, 1), (72, .iadd, 1), (73, .ireturn, 1), (74, .iconst 0, 1), (75, .ireturn, 1), (76, .aload_n 0, 1), (77, .getfield 15, 3), (80, .ireturn, 1), (81, .aload_n 0, 1), (82, .getfield 15, 3), (85, .iconst 1, 1), (86, .iadd, 1), (87, .ireturn, 1)]
theorem tX1_load_0_ok : ∀ q ∈ tX1_load_0, decode cX1_load q.1 = .ok (q.2.1, q.2.2) := by decide +kernel
theorem pX1_load_0 : At cX1_load 0 (.aload_n 0) 1 1 := ⟨tX1_load_0_ok (0, .aload_n 0, 1) (List.mem_of_getElem? (i := 0) rfl), rfl⟩
theorem pX1_load_1 : At cX1_load 1 (.getfield 9) 3 4 := ⟨tX1_load_0_ok (1, .getfield 9, 3) (List.mem_of_getElem? (i := 1) rfl), rfl⟩
theorem pX1_load_4 : decode cX1_load 4 = .ok (.tableswitch 77 1 6 #[40, 77, 70, 61, 72, 49], 40) := tX1_load_0_ok (4, .tableswitch 77 1 6 #[40, 77, 70, 61, 72, 49], 40) (List.mem_of_getElem? (i := 2) rfl)
theorem pX1_load_44 : At cX1_load 44 (.iconst 3) 1 45 := ⟨tX1_load_0_ok (44, .iconst 3, 1) (List.mem_of_getElem? (i := 3) rfl), rfl⟩
theorem pX1_load_45 : At cX1_load 45 (.aload_n 0) 1 46 := ⟨tX1_load_0_ok (45, .aload_n 0, 1) (List.mem_of_getElem? (i := 4) rfl), rfl⟩
theorem pX1_load_46 : At cX1_load 46 (.getfield 15) 3 49 := ⟨tX1_load_0_ok (46, .getfield 15, 3) (List.mem_of_getElem? (i := 5) rfl), rfl⟩
theorem pX1_load_49 : At cX1_load 49 (.iconst 1) 1 50 := ⟨tX1_load_0_ok (49, .iconst 1, 1) (List.mem_of_getElem? (i := 6) rfl), rfl⟩
theorem pX1_load_50 : At cX1_load 50 (.iadd) 1 51 := ⟨tX1_load_0_ok (50, .iadd, 1) (List.mem_of_getElem? (i := 7) rfl), rfl⟩
theorem pX1_load_51 : At cX1_load 51 (.imul) 1 52 := ⟨tX1_load_0_ok (51, .imul, 1) (List.mem_of_getElem? (i := 8) rfl), rfl⟩
theorem pX1_load_52 : At cX1_load 52 (.ireturn) 1 53 := ⟨tX1_load_0_ok (52, .ireturn, 1) (List.mem_of_getElem? (i := 9) rfl), rfl⟩
theorem pX1_load_53 : At cX1_load 53 (.iconst 3) 1 54 := ⟨tX1_load_0_ok (53, .iconst 3, 1) (List.mem_of_getElem? (i := 10) rfl), rfl⟩
theorem pX1_load_54 : At cX1_load 54 (.aload_n 0) 1 55 := ⟨tX1_load_0_ok (54, .aload_n 0, 1) (List.mem_of_getElem? (i := 11) rfl), rfl⟩
theorem pX1_load_55 : At cX1_load 55 (.getfield 15) 3 58 := ⟨tX1_load_0_ok (55, .getfield 15, 3) (List.mem_of_getElem? (i := 12) rfl), rfl⟩
theorem pX1_load_58 : At cX1_load 58 (.iconst 1) 1 59 := ⟨tX1_load_0_ok (58, .iconst 1, 1) (List.mem_of_getElem? (i := 13) rfl), rfl⟩
theorem pX1_load_59 : At cX1_load 59 (.iadd) 1 60 := ⟨tX1_load_0_ok (59, .iadd, 1) (List.mem_of_getElem? (i := 14) rfl), rfl⟩
theorem pX1_load_60 : At cX1_load 60 (.imul) 1 61 := ⟨tX1_load_0_ok (60, .imul, 1) (List.mem_of_getElem? (i := 15) rfl), rfl⟩
theorem pX1_load_61 : At cX1_load 61 (.bipush 20) 2 63 := ⟨tX1_load_0_ok (61, .bipush 20, 2) (List.mem_of_getElem? (i := 16) rfl), rfl⟩
theorem pX1_load_63 : At cX1_load 63 (.iadd) 1 64 := ⟨tX1_load_0_ok (63, .iadd, 1) (List.mem_of_getElem? (i := 17) rfl), rfl⟩
theorem pX1_load_64 : At cX1_load 64 (.ireturn) 1 65 := ⟨tX1_load_0_ok (64, .ireturn, 1) (List.mem_of_getElem? (i := 18) rfl), rfl⟩
theorem pX1_load_65 : At cX1_load 65 (.aload_n 0) 1 66 := ⟨tX1_load_0_ok (65, .aload_n 0, 1) (List.mem_of_getElem? (i := 19) rfl), rfl⟩
theorem pX1_load_66 : At cX1_load 66 (.getfield 15) 3 69 := ⟨tX1_load_0_ok (66, .getfield 15, 3) (List.mem_of_getElem? (i := 20) rfl), rfl⟩
theorem pX1_load_69 : At cX1_load 69 (.iconst 1) 1 70 := ⟨tX1_load_0_ok (69, .iconst 1, 1) (List.mem_of_getElem? (i := 21) rfl), rfl⟩
theorem pX1_load_70 : At cX1_load 70 (.iadd) 1 71 := ⟨tX1_load_0_ok (70, .iadd, 1) (List.mem_of_getElem? (i := 22) rfl), rfl⟩
theorem pX1_load_71 : At cX1_load 71 (.iconst 5) 1 72 := ⟨tX1_load_0_ok (71, .iconst 5, 1) (List.mem_of_getElem? (i := 23) rfl), rfl⟩
theorem pX1_load_72 : At cX1_load 72 (.iadd) 1 73 := ⟨tX1_load_0_ok (72, .iadd, 1) (List.mem_of_getElem? (i := 24) rfl), rfl⟩
theorem pX1_load_73 : At cX1_load 73 (.ireturn) 1 74 := ⟨tX1_load_0_ok (73, .ireturn, 1) (List.mem_of_getElem? (i := 25) rfl), rfl⟩
theorem pX1_load_74 : At cX1_load 74 (.iconst 0) 1 75 := ⟨tX1_load_0_ok (74, .iconst 0, 1) (List.mem_of_getElem? (i := 26) rfl), rfl⟩
theorem pX1_load_75 : At cX1_load 75 (.ireturn) 1 76 := ⟨tX1_load_0_ok (75, .ireturn, 1) (List.mem_of_getElem? (i := 27) rfl), rfl⟩
theorem pX1_load_76 : At cX1_load 76 (.aload_n 0) 1 77 := ⟨tX1_load_0_ok (76, .aload_n 0, 1) (List.mem_of_getElem? (i := 28) rfl), rfl⟩
theorem pX1_load_77 : At cX1_load 77 (.getfield 15) 3 80 := ⟨tX1_load_0_ok (77, .getfield 15, 3) (List.mem_of_getElem? (i := 29) rfl), rfl⟩
theorem pX1_load_80 : At cX1_load 80 (.ireturn) 1 81 := ⟨tX1_load_0_ok (80, .ireturn, 1) (List.mem_of_getElem? (i := 30) rfl), rfl⟩
theorem pX1_load_81 : At cX1_load 81 (.aload_n 0) 1 82 := ⟨tX1_load_0_ok (81, .aload_n 0, 1) (List.mem_of_getElem? (i := 31) rfl), rfl⟩
theorem pX1_load_82 : At cX1_load 82 (.getfield 15) 3 85 := ⟨tX1_load_0_ok (82, .getfield 15, 3) (List.mem_of_getElem? (i := 32) rfl), rfl⟩
theorem pX1_load_85 : At cX1_load 85 (.iconst 1) 1 86 := ⟨tX1_load_0_ok (85, .iconst 1, 1) (List.mem_of_getElem? (i := 33) rfl), rfl⟩
theorem pX1_load_86 : At cX1_load 86 (.iadd) 1 87 := ⟨tX1_load_0_ok (86, .iadd, 1) (List.mem_of_getElem? (i := 34) rfl), rfl⟩
theorem pX1_load_87 : At cX1_load 87 (.ireturn) 1 88 := ⟨tX1_load_0_ok (87, .ireturn, 1) (List.mem_of_getElem? (i := 35) rfl), rfl⟩
def tX2_leaf_0 : List (Nat × Instr × Nat) := [(0, .iload_n 0, 1), (1, .sipush 10000, 3), (4, .isub, 1), (5, .tableswitch 33 0 2 #[27, 29, 31], 27), (32, .iload_n 1, 1), (33, .ireturn, 1), (34, .iload_n 2, 1), (35, .ireturn, 1), (36, .iload_n 3, 1), (37, .ireturn, 1), (38, .iload_n 0, 1), (39, .ireturn, 1)]
theorem tX2_leaf_0_ok : ∀ q ∈ tX2_leaf_0, decode cX2_leaf q.1 = .ok (q.2.1, q.2.2) := by decide +kernel
theorem pX2_leaf_0 : At cX2_leaf 0 (.iload_n 0) 1 1 := ⟨tX2_leaf_0_ok (0, .iload_n 0, 1) (List.mem_of_getElem? (i := 0) rfl), rfl⟩
theorem pX2_leaf_1 : At cX2_leaf 1 (.sipush 10000) 3 4 := ⟨tX2_leaf_0_ok (1, .sipush 10000, 3) (List.mem_of_getElem? (i := 1) rfl), rfl⟩
theorem pX2_leaf_4 : At cX2_leaf 4 (.isub) 1 5 := ⟨tX2_leaf_0_ok (4, .isub, 1) (List.mem_of_getElem? (i := 2) rfl), rfl⟩
theorem pX2_leaf_5 : decode cX2_leaf 5 = .ok (.tableswitch 33 0 2 #[27, 29, 31], 27) := tX2_leaf_0_ok (5, .tableswitch 33 0 2 #[27, 29, 31], 27) (List.mem_of_getElem? (i := 3) rfl)
theorem pX2_leaf_32 : At cX2_leaf 32 (.iload_n 1) 1 33 := ⟨tX2_leaf_0_ok (32, .iload_n 1, 1) (List.mem_of_getElem? (i := 4) rfl), rfl⟩
theorem pX2_leaf_33 : At cX2_leaf 33 (.ireturn) 1 34 := ⟨tX2_leaf_0_ok (33, .ireturn, 1) (List.mem_of_getElem? (i := 5) rfl), rfl⟩
theorem pX2_leaf_34 : At cX2_leaf 34 (.iload_n 2) 1 35 := ⟨tX2_leaf_0_ok (34, .iload_n 2, 1) (List.mem_of_getElem? (i := 6) rfl), rfl⟩
theorem pX2_leaf_35 : At cX2_leaf 35 (.ireturn) 1 36 := ⟨tX2_leaf_0_ok (35, .ireturn, 1) (List.mem_of_getElem? (i := 7) rfl), rfl⟩
theorem pX2_leaf_36 : At cX2_leaf 36 (.iload_n 3) 1 37 := ⟨tX2_leaf_0_ok (36, .iload_n 3, 1) (List.mem_of_getElem? (i := 8) rfl), rfl⟩
theorem pX2_leaf_37 : At cX2_leaf 37 (.ireturn) 1 38 := ⟨tX2_leaf_0_ok (37, .ireturn, 1) (List.mem_of_getElem? (i := 9) rfl), rfl⟩
theorem pX2_leaf_38 : At cX2_leaf 38 (.iload_n 0) 1 39 := ⟨tX2_leaf_0_ok (38, .iload_n 0, 1) (List.mem_of_getElem? (i := 10) rfl), rfl⟩
theorem pX2_leaf_39 : At cX2_leaf 39 (.ireturn) 1 40 := ⟨tX2_leaf_0_ok (39, .ireturn, 1) (List.mem_of_getElem? (i := 11) rfl), rfl⟩
def tX2_joined_0 : List (Nat × Instr × Nat) := [(0, .iload_n 0, 1), (1, .tableswitch 202 37 62 #[143, 188, 202, 202, 202, 127, 119, 202, 123, 202, 131, 202, 202, 202, 202, 202, 202, 202, 202, 202, 202, 202, 202, 155, 166, 177], 119), (120, .iload_n 1, 1), (121, .iload_n 2, 1), (122, .iadd, 1), (123, .ireturn, 1), (124, .iload_n 1, 1), (125, .iload_n 2, 1), (126, .isub, 1), (127, .ireturn, 1), (128, .iload_n 1, 1), (129, .iload_n 2, 1), (130, .imul, 1), (131, .ireturn, 1), (132, .iload_n 2, 1), (133, .ifCond .ne 7, 3), (136, .iconst 0, 1), (137, .goto 6, 3), (140, .iload_n 1, 1), (141, .iload_n 2, 1), (142, .idiv, 1), (143, .ireturn, 1), (144, .iload_n 2, 1), (145, .ifCond .ne 7, 3), (148, .iconst 0, 1), (149, .goto 6, 3), (152, .iload_n 1, 1), (153, .iload_n 2, 1), (154, .irem, 1), (155, .ireturn, 1), (156, .iload_n 1, 1), (157, .iload_n 2, 1), (158, .if_icmp .ge 7, 3), (161, .iconst 1, 1), (162, .goto 4, 3), (165, .iconst 0, 1), (166, .ireturn, 1), (167, .iload_n 1, 1), (168, .iload_n 2, 1), (169, .if_icmp .ne 7, 3), (172, .iconst 1, 1), (173, .goto 4, 3), (176, .iconst 0, 1), (177, .ireturn, 1), (178, .iload_n 1, 1), (179, .iload_n 2, 1), (180, .if_icmp .le 7, 3), (183, .iconst 1, 1), (184, .goto 4, 3), (187, .iconst 0, 1), (188, .ireturn, 1), (189, .iload_n 1, 1), (190, .ifCond .eq 11, 3), (193, .iload_n 2, 1), (194, .ifCond .eq 7, 3), (197, .iconst 1, 1), (198, .goto 4, 3), (201, .iconst 0, 1), (202, .ireturn, 1), (203, .iload_n 1, 1), (204, .ifCond .ne 7, 3), (207, .iload_n 2, 1), (208, .ifCond .eq 7, 3), (211, .iconst 1, 1), (212, .goto 4, 3), (215, .iconst 0, 1), (216, .ireturn, 1)]
theorem tX2_joined_0_ok : ∀ q ∈ tX2_joined_0, decode cX2_joined q.1 = .ok (q.2.1, q.2.2) := by decide +kernel
theorem pX2_joined_0 : At cX2_joined 0 (.iload_n 0) 1 1 := ⟨tX2_joined_0_ok (0, .iload_n 0, 1) (List.mem_of_getElem? (i := 0) rfl), rfl⟩
theorem pX2_joined_1 : decode cX2_joined 1 = .ok (.tableswitch 202 37 62 #[143, 188, 202, 202, 202, 127, 119, 202, 123, 202, 131, 202, 202, 202, 202, 202, 202, 202, 202, 202, 202, 202, 202, 155, 166, 177], 119) := tX2_joined_0_ok (1, .tableswitch 202 37 62 #[143, 188, 202, 202, 202, 127, 119, 202, 123, 202, 131, 202, 202, 202, 202, 202, 202, 202, 202, 202, 202, 202, 202, 155, 166, 177], 119) (List.mem_of_getElem? (i := 1) rfl)
theorem pX2_joined_120 : At cX2_joined 120 (.iload_n 1) 1 121 := ⟨tX2_joined_0_ok (120, .iload_n 1, 1) (List.mem_of_getElem? (i := 2) rfl), rfl⟩
theorem pX2_joined_121 : At cX2_joined 121 (.iload_n 2) 1 122 := ⟨tX2_joined_0_ok (121, .iload_n 2, 1) (List.mem_of_getElem? (i := 3) rfl), rfl⟩
theorem pX2_joined_122 : At cX2_joined 122 (.iadd) 1 123 := ⟨tX2_joined_0_ok (122, .iadd, 1) (List.mem_of_getElem? (i := 4) rfl), rfl⟩
theorem pX2_joined_123 : At cX2_joined 123 (.ireturn) 1 124 := ⟨tX2_joined_0_ok (123, .ireturn, 1) (List.mem_of_getElem? (i := 5) rfl), rfl⟩
theorem pX2_joined_124 : At cX2_joined 124 (.iload_n 1) 1 125 := ⟨tX2_joined_0_ok (124, .iload_n 1, 1) (List.mem_of_getElem? (i := 6) rfl), rfl⟩
theorem pX2_joined_125 : At cX2_joined 125 (.iload_n 2) 1 126 := ⟨tX2_joined_0_ok (125, .iload_n 2, 1) (List.mem_of_getElem? (i := 7) rfl), rfl⟩
theorem pX2_joined_126 : At cX2_joined 126 (.isub) 1 127 := ⟨tX2_joined_0_ok (126, .isub, 1) (List.mem_of_getElem? (i := 8) rfl), rfl⟩
theorem pX2_joined_127 : At cX2_joined 127 (.ireturn) 1 128 := ⟨tX2_joined_0_ok (127, .ireturn, 1) (List.mem_of_getElem? (i := 9) rfl), rfl⟩
theorem pX2_joined_128 : At cX2_joined 128 (.iload_n 1) 1 129 := ⟨tX2_joined_0_ok (128, .iload_n 1, 1) (List.mem_of_getElem? (i := 10) rfl), rfl⟩
theorem pX2_joined_129 : At cX2_joined 129 (.iload_n 2) 1 130 := ⟨tX2_joined_0_ok (129, .iload_n 2, 1) (List.mem_of_getElem? (i := 11) rfl), rfl⟩
theorem pX2_joined_130 : At cX2_joined 130 (.imul) 1 131 := ⟨tX2_joined_0_ok (130, .imul, 1) (List.mem_of_getElem? (i := 12) rfl), rfl⟩
theorem pX2_joined_131 : At cX2_joined 131 (.ireturn) 1 132 := ⟨tX2_joined_0_ok (131, .ireturn, 1) (List.mem_of_getElem? (i := 13) rfl), rfl⟩
theorem pX2_joined_132 : At cX2_joined 132 (.iload_n 2) 1 133 := ⟨tX2_joined_0_ok (132, .iload_n 2, 1) (List.mem_of_getElem? (i := 14) rfl), rfl⟩
theorem pX2_joined_133 : Bt cX2_joined 133 (.ifCond .ne 7) 7 140 136 := ⟨tX2_joined_0_ok (133, .ifCond .ne 7, 3) (List.mem_of_getElem? (i := 15) rfl), by decide, rfl⟩
theorem pX2_joined_136 : At cX2_joined 136 (.iconst 0) 1 137 := ⟨tX2_joined_0_ok (136, .iconst 0, 1) (List.mem_of_getElem? (i := 16) rfl), rfl⟩
theorem pX2_joined_137 : Bt cX2_joined 137 (.goto 6) 6 143 140 := ⟨tX2_joined_0_ok (137, .goto 6, 3) (List.mem_of_getElem? (i := 17) rfl), by decide, rfl⟩
theorem pX2_joined_140 : At cX2_joined 140 (.iload_n 1) 1 141 := ⟨tX2_joined_0_ok (140, .iload_n 1, 1) (List.mem_of_getElem? (i := 18) rfl), rfl⟩
theorem pX2_joined_141 : At cX2_joined 141 (.iload_n 2) 1 142 := ⟨tX2_joined_0_ok (141, .iload_n 2, 1) (List.mem_of_getElem? (i := 19) rfl), rfl⟩
theorem pX2_joined_142 : At cX2_joined 142 (.idiv) 1 143 := ⟨tX2_joined_0_ok (142, .idiv, 1) (List.mem_of_getElem? (i := 20) rfl), rfl⟩
theorem pX2_joined_143 : At cX2_joined 143 (.ireturn) 1 144 := ⟨tX2_joined_0_ok (143, .ireturn, 1) (List.mem_of_getElem? (i := 21) rfl), rfl⟩
theorem pX2_joined_144 : At cX2_joined 144 (.iload_n 2) 1 145 := ⟨tX2_joined_0_ok (144, .iload_n 2, 1) (List.mem_of_getElem? (i := 22) rfl), rfl⟩
theorem pX2_joined_145 : Bt cX2_joined 145 (.ifCond .ne 7) 7 152 148 := ⟨tX2_joined_0_ok (145, .ifCond .ne 7, 3) (List.mem_of_getElem? (i := 23) rfl), by decide, rfl⟩
theorem pX2_joined_148 : At cX2_joined 148 (.iconst 0) 1 149 := ⟨tX2_joined_0_ok (148, .iconst 0, 1) (List.mem_of_getElem? (i := 24) rfl), rfl⟩
theorem pX2_joined_149 : Bt cX2_joined 149 (.goto 6) 6 155 152 := ⟨tX2_joined_0_ok (149, .goto 6, 3) (List.mem_of_getElem? (i := 25) rfl), by decide, rfl⟩
theorem pX2_joined_152 : At cX2_joined 152 (.iload_n 1) 1 153 := ⟨tX2_joined_0_ok (152, .iload_n 1, 1) (List.mem_of_getElem? (i := 26) rfl), rfl⟩
theorem pX2_joined_153 : At cX2_joined 153 (.iload_n 2) 1 154 := ⟨tX2_joined_0_ok (153, .iload_n 2, 1) (List.mem_of_getElem? (i := 27) rfl), rfl⟩
theorem pX2_joined_154 : At cX2_joined 154 (.irem) 1 155 := ⟨tX2_joined_0_ok (154, .irem, 1) (List.mem_of_getElem? (i := 28) rfl), rfl⟩
theorem pX2_joined_155 : At cX2_joined 155 (.ireturn) 1 156 := ⟨tX2_joined_0_ok (155, .ireturn, 1) (List.mem_of_getElem? (i := 29) rfl), rfl⟩
theorem pX2_joined_156 : At cX2_joined 156 (.iload_n 1) 1 157 := ⟨tX2_joined_0_ok (156, .iload_n 1, 1) (List.mem_of_getElem? (i := 30) rfl), rfl⟩
theorem pX2_joined_157 : At cX2_joined 157 (.iload_n 2) 1 158 := ⟨tX2_joined_0_ok (157, .iload_n 2, 1) (List.mem_of_getElem? (i := 31) rfl), rfl⟩
theorem pX2_joined_158 : Bt cX2_joined 158 (.if_icmp .ge 7) 7 165 161 := ⟨tX2_joined_0_ok (158, .if_icmp .ge 7, 3) (List.mem_of_getElem? (i := 32) rfl), by decide, rfl⟩
theorem pX2_joined_161 : At cX2_joined 161 (.iconst 1) 1 162 := ⟨tX2_joined_0_ok (161, .iconst 1, 1) (List.mem_of_getElem? (i := 33) rfl), rfl⟩
theorem pX2_joined_162 : Bt cX2_joined 162 (.goto 4) 4 166 165 := ⟨tX2_joined_0_ok (162, .goto 4, 3) (List.mem_of_getElem? (i := 34) rfl), by decide, rfl⟩
theorem pX2_joined_165 : At cX2_joined 165 (.iconst 0) 1 166 := ⟨tX2_joined_0_ok (165, .iconst 0, 1) (List.mem_of_getElem? (i := 35) rfl), rfl⟩
theorem pX2_joined_166 : At cX2_joined 166 (.ireturn) 1 167 := ⟨tX2_joined_0_ok (166, .ireturn, 1) (List.mem_of_getElem? (i := 36) rfl), rfl⟩
theorem pX2_joined_167 : At cX2_joined 167 (.iload_n 1) 1 168 := ⟨tX2_joined_0_ok (167, .iload_n 1, 1) (List.mem_of_getElem? (i := 37) rfl), rfl⟩
theorem pX2_joined_168 : At cX2_joined 168 (.iload_n 2) 1 169 := ⟨tX2_joined_0_ok (168, .iload_n 2, 1) (List.mem_of_getElem? (i := 38) rfl), rfl⟩
theorem pX2_joined_169 : Bt cX2_joined 169 (.if_icmp .ne 7) 7 176 172 := ⟨tX2_joined_0_ok (169, .if_icmp .ne 7, 3) (List.mem_of_getElem? (i := 39) rfl), by decide, rfl⟩
theorem pX2_joined_172 : At cX2_joined 172 (.iconst 1) 1 173 := ⟨tX2_joined_0_ok (172, .iconst 1, 1) (List.mem_of_getElem? (i := 40) rfl), rfl⟩
theorem pX2_joined_173 : Bt cX2_joined 173 (.goto 4) 4 177 176 := ⟨tX2_joined_0_ok (173, .goto 4, 3) (List.mem_of_getElem? (i := 41) rfl), by decide, rfl⟩
theorem pX2_joined_176 : At cX2_joined 176 (.iconst 0) 1 177 := ⟨tX2_joined_0_ok (176, .iconst 0, 1) (List.mem_of_getElem? (i := 42) rfl), rfl⟩
theorem pX2_joined_177 : At cX2_joined 177 (.ireturn) 1 178 := ⟨tX2_joined_0_ok (177, .ireturn, 1) (List.mem_of_getElem? (i := 43) rfl), rfl⟩
theorem pX2_joined_178 : At cX2_joined 178 (.iload_n 1) 1 179 := ⟨tX2_joined_0_ok (178, .iload_n 1, 1) (List.mem_of_getElem? (i := 44) rfl), rfl⟩
theorem pX2_joined_179 : At cX2_joined 179 (.iload_n 2) 1 180 := ⟨tX2_joined_0_ok (179, .iload_n 2, 1) (List.mem_of_getElem? (i := 45) rfl), rfl⟩
theorem pX2_joined_180 : Bt cX2_joined 180 (.if_icmp .le 7) 7 187 183 := ⟨tX2_joined_0_ok (180, .if_icmp .le 7, 3) (List.mem_of_getElem? (i := 46) rfl), by decide, rfl⟩
theorem pX2_joined_183 : At cX2_joined 183 (.iconst 1) 1 184 := ⟨tX2_joined_0_ok (183, .iconst 1, 1) (List.mem_of_getElem? (i := 47) rfl), rfl⟩
theorem pX2_joined_184 : Bt cX2_joined 184 (.goto 4) 4 188 187 := ⟨tX2_joined_0_ok (184, .goto 4, 3) (List.mem_of_getElem? (i := 48) rfl), by decide, rfl⟩
theorem pX2_joined_187 : At cX2_joined 187 (.iconst 0) 1 188 := ⟨tX2_joined_0_ok (187, .iconst 0, 1) (List.mem_of_getElem? (i := 49) rfl), rfl⟩
theorem pX2_joined_188 : At cX2_joined 188 (.ireturn) 1 189 := ⟨tX2_joined_0_ok (188, .ireturn, 1) (List.mem_of_getElem? (i := 50) rfl), rfl⟩
theorem pX2_joined_189 : At cX2_joined 189 (.iload_n 1) 1 190 := ⟨tX2_joined_0_ok (189, .iload_n 1, 1) (List.mem_of_getElem? (i := 51) rfl), rfl⟩
theorem pX2_joined_190 : Bt cX2_joined 190 (.ifCond .eq 11) 11 201 193 := ⟨tX2_joined_0_ok (190, .ifCond .eq 11, 3) (List.mem_of_getElem? (i := 52) rfl), by decide, rfl⟩
theorem pX2_joined_193 : At cX2_joined 193 (.iload_n 2) 1 194 := ⟨tX2_joined_0_ok (193, .iload_n 2, 1) (List.mem_of_getElem? (i := 53) rfl), rfl⟩
theorem pX2_joined_194 : Bt cX2_joined 194 (.ifCond .eq 7) 7 201 197 := ⟨tX2_joined_0_ok (194, .ifCond .eq 7, 3) (List.mem_of_getElem? (i := 54) rfl), by decide, rfl⟩
theorem pX2_joined_197 : At cX2_joined 197 (.iconst 1) 1 198 := ⟨tX2_joined_0_ok (197, .iconst 1, 1) (List.mem_of_getElem? (i := 55) rfl), rfl⟩
theorem pX2_joined_198 : Bt cX2_joined 198 (.goto 4) 4 202 201 := ⟨tX2_joined_0_ok (198, .goto 4, 3) (List.mem_of_getElem? (i := 56) rfl), by decide, rfl⟩
theorem pX2_joined_201 : At cX2_joined 201 (.iconst 0) 1 202 := ⟨tX2_joined_0_ok (201, .iconst 0, 1) (List.mem_of_getElem? (i := 57) rfl), rfl⟩
theorem pX2_joined_202 : At cX2_joined 202 (.ireturn) 1 203 := ⟨tX2_joined_0_ok (202, .ireturn, 1) (List.mem_of_getElem? (i := 58) rfl), rfl⟩
theorem pX2_joined_203 : At cX2_joined 203 (.iload_n 1) 1 204 := ⟨tX2_joined_0_ok (203, .iload_n 1, 1) (List.mem_of_getElem? (i := 59) rfl), rfl⟩
theorem pX2_joined_204 : Bt cX2_joined 204 (.ifCond .ne 7) 7 211 207 := ⟨tX2_joined_0_ok (204, .ifCond .ne 7, 3) (List.mem_of_getElem? (i := 60) rfl), by decide, rfl⟩
theorem pX2_joined_207 : At cX2_joined 207 (.iload_n 2) 1 208 := ⟨tX2_joined_0_ok (207, .iload_n 2, 1) (List.mem_of_getElem? (i := 61) rfl), rfl⟩
theorem pX2_joined_208 : Bt cX2_joined 208 (.ifCond .eq 7) 7 215 211 := ⟨tX2_joined_0_ok (208, .ifCond .eq 7, 3) (List.mem_of_getElem? (i := 62) rfl), by decide, rfl⟩
theorem pX2_joined_211 : At cX2_joined 211 (.iconst 1) 1 212 := ⟨tX2_joined_0_ok (211, .iconst 1, 1) (List.mem_of_getElem? (i := 63) rfl), rfl⟩
theorem pX2_joined_212 : Bt cX2_joined 212 (.goto 4) 4 216 215 := ⟨tX2_joined_0_ok (212, .goto 4, 3) (List.mem_of_getElem? (i := 64) rfl), by decide, rfl⟩
theorem pX2_joined_215 : At cX2_joined 215 (.iconst 0) 1 216 := ⟨tX2_joined_0_ok (215, .iconst 0, 1) (List.mem_of_getElem? (i := 65) rfl), rfl⟩
theorem pX2_joined_216 : At cX2_joined 216 (.ireturn) 1 217 := ⟨tX2_joined_0_ok (216, .ireturn, 1) (List.mem_of_getElem? (i := 66) rfl), rfl⟩
def tX2_worked_0 : List (Nat × Instr × Nat) := [(0, .iconst 0, 1), (1, .istore 4, 2), (3, .iconst 0, 1), (4, .istore 5, 2), (6, .iload 5, 2), (8, .aload_n 0, 1), (9, .getfield 26, 3), (12, .if_icmp .ge 139, 3), (15, .aload_n 0, 1), (16, .getfield 9, 3), (19, .iload 5, 2), (21, .iaload, 1), (22, .istore 6, 2), (24, .iload 6, 2), (26, .sipush 20000, 3), (29, .if_icmp .ge 31, 3), (32, .iload 4, 2), (34, .bipush 50, 2), (36, .if_icmp .ge 24, 3), (39, .aload_n 0, 1), (40, .getfield 15, 3), (43, .iload 4, 2), (45, .iload 6, 2), (47, .iload_n 1, 1), (48, .iload_n 2, 1), (49, .iload_n 3, 1), (50, .invokestatic 38, 3), (53, .iastore, 1), (54, .iinc 4 1, 3), (57, .goto 88, 3), (60, .iload 6, 2), (62, .sipush 20033, 3), (65, .if_icmp .ne 37, 3), (68, .iload 4, 2), (70, .ifCond .le 32, 3), (73, .aload_n 0, 1), (74, .getfield 15, 3), (77, .iload 4, 2), (79, .iconst 1, 1), (80, .isub, 1), (81, .aload_n 0, 1), (82, .getfield 15, 3), (85, .iload 4, 2), (87, .iconst 1, 1), (88, .isub, 1), (89, .iaload, 1), (90, .ifCond .ne 7, 3), (93, .iconst 1, 1), (94, .goto 4, 3), (97, .iconst 0, 1), (98, .iastore, 1), (99, .goto 46, 3), (102, .iload 4, 2), (104, .iconst 1, 1), (105, .if_icmp .le 40, 3), (108, .iinc 4 (-1), 3), (111, .aload_n 0, 1), (112, .getfield 15, 3), (115, .iload 4, 2), (117, .iconst 1, 1), (118, .isub, 1), (119, .iload 6, 2), (121, .sipush 20000, 3), (124, .isub, 1), (125, .aload_n 0, 1), (126, .getfield 15, 3), (129, .iload 4, 2), (131, .iconst 1, 1), (132, .isub, 1), (133, .iaload, 1), (134, .aload_n 0, 1), (135, .getfield 15, 3), (138, .iload 4, 2), (140, .iaload, 1), (141, .invokestatic 42, 3), (144, .iastore, 1), (145, .iinc 5 1, 3), (148, .goto (-142), 3), (151, .aload_n 0, 1), (152, .getfield 15, 3), (155, .iconst 0, 1), (156, .iaload, 1), (157, .ireturn, 1)]
theorem tX2_worked_0_ok : ∀ q ∈ tX2_worked_0, decode cX2_worked q.1 = .ok (q.2.1, q.2.2) := by decide +kernel
theorem pX2_worked_0 : At cX2_worked 0 (.iconst 0) 1 1 := ⟨tX2_worked_0_ok (0, .iconst 0, 1) (List.mem_of_getElem? (i := 0) rfl), rfl⟩
theorem pX2_worked_1 : At cX2_worked 1 (.istore 4) 2 3 := ⟨tX2_worked_0_ok (1, .istore 4, 2) (List.mem_of_getElem? (i := 1) rfl), rfl⟩
theorem pX2_worked_3 : At cX2_worked 3 (.iconst 0) 1 4 := ⟨tX2_worked_0_ok (3, .iconst 0, 1) (List.mem_of_getElem? (i := 2) rfl), rfl⟩
theorem pX2_worked_4 : At cX2_worked 4 (.istore 5) 2 6 := ⟨tX2_worked_0_ok (4, .istore 5, 2) (List.mem_of_getElem? (i := 3) rfl), rfl⟩
theorem pX2_worked_6 : At cX2_worked 6 (.iload 5) 2 8 := ⟨tX2_worked_0_ok (6, .iload 5, 2) (List.mem_of_getElem? (i := 4) rfl), rfl⟩
theorem pX2_worked_8 : At cX2_worked 8 (.aload_n 0) 1 9 := ⟨tX2_worked_0_ok (8, .aload_n 0, 1) (List.mem_of_getElem? (i := 5) rfl), rfl⟩
theorem pX2_worked_9 : At cX2_worked 9 (.getfield 26) 3 12 := ⟨tX2_worked_0_ok (9, .getfield 26, 3) (List.mem_of_getElem? (i := 6) rfl), rfl⟩
theorem pX2_worked_12 : Bt cX2_worked 12 (.if_icmp .ge 139) 139 151 15 := ⟨tX2_worked_0_ok (12, .if_icmp .ge 139, 3) (List.mem_of_getElem? (i := 7) rfl), by decide, rfl⟩
theorem pX2_worked_15 : At cX2_worked 15 (.aload_n 0) 1 16 := ⟨tX2_worked_0_ok (15, .aload_n 0, 1) (List.mem_of_getElem? (i := 8) rfl), rfl⟩
theorem pX2_worked_16 : At cX2_worked 16 (.getfield 9) 3 19 := ⟨tX2_worked_0_ok (16, .getfield 9, 3) (List.mem_of_getElem? (i := 9) rfl), rfl⟩
theorem pX2_worked_19 : At cX2_worked 19 (.iload 5) 2 21 := ⟨tX2_worked_0_ok (19, .iload 5, 2) (List.mem_of_getElem? (i := 10) rfl), rfl⟩
theorem pX2_worked_21 : At cX2_worked 21 (.iaload) 1 22 := ⟨tX2_worked_0_ok (21, .iaload, 1) (List.mem_of_getElem? (i := 11) rfl), rfl⟩
theorem pX2_worked_22 : At cX2_worked 22 (.istore 6) 2 24 := ⟨tX2_worked_0_ok (22, .istore 6, 2) (List.mem_of_getElem? (i := 12) rfl), rfl⟩
theorem pX2_worked_24 : At cX2_worked 24 (.iload 6) 2 26 := ⟨tX2_worked_0_ok (24, .iload 6, 2) (List.mem_of_getElem? (i := 13) rfl), rfl⟩
theorem pX2_worked_26 : At cX2_worked 26 (.sipush 20000) 3 29 := ⟨tX2_worked_0_ok (26, .sipush 20000, 3) (List.mem_of_getElem? (i := 14) rfl), rfl⟩
theorem pX2_worked_29 : Bt cX2_worked 29 (.if_icmp .ge 31) 31 60 32 := ⟨tX2_worked_0_ok (29, .if_icmp .ge 31, 3) (List.mem_of_getElem? (i := 15) rfl), by decide, rfl⟩
theorem pX2_worked_32 : At cX2_worked 32 (.iload 4) 2 34 := ⟨tX2_worked_0_ok (32, .iload 4, 2) (List.mem_of_getElem? (i := 16) rfl), rfl⟩
theorem pX2_worked_34 : At cX2_worked 34 (.bipush 50) 2 36 := ⟨tX2_worked_0_ok (34, .bipush 50, 2) (List.mem_of_getElem? (i := 17) rfl), rfl⟩
theorem pX2_worked_36 : Bt cX2_worked 36 (.if_icmp .ge 24) 24 60 39 := ⟨tX2_worked_0_ok (36, .if_icmp .ge 24, 3) (List.mem_of_getElem? (i := 18) rfl), by decide, rfl⟩
theorem pX2_worked_39 : At cX2_worked 39 (.aload_n 0) 1 40 := ⟨tX2_worked_0_ok (39, .aload_n 0, 1) (List.mem_of_getElem? (i := 19) rfl), rfl⟩
theorem pX2_worked_40 : At cX2_worked 40 (.getfield 15) 3 43 := ⟨tX2_worked_0_ok (40, .getfield 15, 3) (List.mem_of_getElem? (i := 20) rfl), rfl⟩
theorem pX2_worked_43 : At cX2_worked 43 (.iload 4) 2 45 := ⟨tX2_worked_0_ok (43, .iload 4, 2) (List.mem_of_getElem? (i := 21) rfl), rfl⟩
theorem pX2_worked_45 : At cX2_worked 45 (.iload 6) 2 47 := ⟨tX2_worked_0_ok (45, .iload 6, 2) (List.mem_of_getElem? (i := 22) rfl), rfl⟩
theorem pX2_worked_47 : At cX2_worked 47 (.iload_n 1) 1 48 := ⟨tX2_worked_0_ok (47, .iload_n 1, 1) (List.mem_of_getElem? (i := 23) rfl), rfl⟩
theorem pX2_worked_48 : At cX2_worked 48 (.iload_n 2) 1 49 := ⟨tX2_worked_0_ok (48, .iload_n 2, 1) (List.mem_of_getElem? (i := 24) rfl), rfl⟩
theorem pX2_worked_49 : At cX2_worked 49 (.iload_n 3) 1 50 := ⟨tX2_worked_0_ok (49, .iload_n 3, 1) (List.mem_of_getElem? (i := 25) rfl), rfl⟩
theorem pX2_worked_50 : At cX2_worked 50 (.invokestatic 38) 3 53 := ⟨tX2_worked_0_ok (50, .invokestatic 38, 3) (List.mem_of_getElem? (i := 26) rfl), rfl⟩
theorem pX2_worked_53 : At cX2_worked 53 (.iastore) 1 54 := ⟨tX2_worked_0_ok (53, .iastore, 1) (List.mem_of_getElem? (i := 27) rfl), rfl⟩
theorem pX2_worked_54 : At cX2_worked 54 (.iinc 4 1) 3 57 := ⟨tX2_worked_0_ok (54, .iinc 4 1, 3) (List.mem_of_getElem? (i := 28) rfl), rfl⟩
theorem pX2_worked_57 : Bt cX2_worked 57 (.goto 88) 88 145 60 := ⟨tX2_worked_0_ok (57, .goto 88, 3) (List.mem_of_getElem? (i := 29) rfl), by decide, rfl⟩
theorem pX2_worked_60 : At cX2_worked 60 (.iload 6) 2 62 := ⟨tX2_worked_0_ok (60, .iload 6, 2) (List.mem_of_getElem? (i := 30) rfl), rfl⟩
theorem pX2_worked_62 : At cX2_worked 62 (.sipush 20033) 3 65 := ⟨tX2_worked_0_ok (62, .sipush 20033, 3) (List.mem_of_getElem? (i := 31) rfl), rfl⟩
theorem pX2_worked_65 : Bt cX2_worked 65 (.if_icmp .ne 37) 37 102 68 := ⟨tX2_worked_0_ok (65, .if_icmp .ne 37, 3) (List.mem_of_getElem? (i := 32) rfl), by decide, rfl⟩
theorem pX2_worked_68 : At cX2_worked 68 (.iload 4) 2 70 := ⟨tX2_worked_0_ok (68, .iload 4, 2) (List.mem_of_getElem? (i := 33) rfl), rfl⟩
theorem pX2_worked_70 : Bt cX2_worked 70 (.ifCond .le 32) 32 102 73 := ⟨tX2_worked_0_ok (70, .ifCond .le 32, 3) (List.mem_of_getElem? (i := 34) rfl), by decide, rfl⟩
theorem pX2_worked_73 : At cX2_worked 73 (.aload_n 0) 1 74 := ⟨tX2_worked_0_ok (73, .aload_n 0, 1) (List.mem_of_getElem? (i := 35) rfl), rfl⟩
theorem pX2_worked_74 : At cX2_worked 74 (.getfield 15) 3 77 := ⟨tX2_worked_0_ok (74, .getfield 15, 3) (List.mem_of_getElem? (i := 36) rfl), rfl⟩
theorem pX2_worked_77 : At cX2_worked 77 (.iload 4) 2 79 := ⟨tX2_worked_0_ok (77, .iload 4, 2) (List.mem_of_getElem? (i := 37) rfl), rfl⟩
theorem pX2_worked_79 : At cX2_worked 79 (.iconst 1) 1 80 := ⟨tX2_worked_0_ok (79, .iconst 1, 1) (List.mem_of_getElem? (i := 38) rfl), rfl⟩
theorem pX2_worked_80 : At cX2_worked 80 (.isub) 1 81 := ⟨tX2_worked_0_ok (80, .isub, 1) (List.mem_of_getElem? (i := 39) rfl), rfl⟩
theorem pX2_worked_81 : At cX2_worked 81 (.aload_n 0) 1 82 := ⟨tX2_worked_0_ok (81, .aload_n 0, 1) (List.mem_of_getElem? (i := 40) rfl), rfl⟩
theorem pX2_worked_82 : At cX2_worked 82 (.getfield 15) 3 85 := ⟨tX2_worked_0_ok (82, .getfield 15, 3) (List.mem_of_getElem? (i := 41) rfl), rfl⟩
theorem pX2_worked_85 : At cX2_worked 85 (.iload 4) 2 87 := ⟨tX2_worked_0_ok (85, .iload 4, 2) (List.mem_of_getElem? (i := 42) rfl), rfl⟩
theorem pX2_worked_87 : At cX2_worked 87 (.iconst 1) 1 88 := ⟨tX2_worked_0_ok (87, .iconst 1, 1) (List.mem_of_getElem? (i := 43) rfl), rfl⟩
theorem pX2_worked_88 : At cX2_worked 88 (.isub) 1 89 := ⟨tX2_worked_0_ok (88, .isub, 1) (List.mem_of_getElem? (i := 44) rfl), rfl⟩
theorem pX2_worked_89 : At cX2_worked 89 (.iaload) 1 90 := ⟨tX2_worked_0_ok (89, .iaload, 1) (List.mem_of_getElem? (i := 45) rfl), rfl⟩
theorem pX2_worked_90 : Bt cX2_worked 90 (.ifCond .ne 7) 7 97 93 := ⟨tX2_worked_0_ok (90, .ifCond .ne 7, 3) (List.mem_of_getElem? (i := 46) rfl), by decide, rfl⟩
theorem pX2_worked_93 : At cX2_worked 93 (.iconst 1) 1 94 := ⟨tX2_worked_0_ok (93, .iconst 1, 1) (List.mem_of_getElem? (i := 47) rfl), rfl⟩
theorem pX2_worked_94 : Bt cX2_worked 94 (.goto 4) 4 98 97 := ⟨tX2_worked_0_ok (94, .goto 4, 3) (List.mem_of_getElem? (i := 48) rfl), by decide, rfl⟩
theorem pX2_worked_97 : At cX2_worked 97 (.iconst 0) 1 98 := ⟨tX2_worked_0_ok (97, .iconst 0, 1) (List.mem_of_getElem? (i := 49) rfl), rfl⟩
theorem pX2_worked_98 : At cX2_worked 98 (.iastore) 1 99 := ⟨tX2_worked_0_ok (98, .iastore, 1) (List.mem_of_getElem? (i := 50) rfl), rfl⟩
theorem pX2_worked_99 : Bt cX2_worked 99 (.goto 46) 46 145 102 := ⟨tX2_worked_0_ok (99, .goto 46, 3) (List.mem_of_getElem? (i := 51) rfl), by decide, rfl⟩
theorem pX2_worked_102 : At cX2_worked 102 (.iload 4) 2 104 := ⟨tX2_worked_0_ok (102, .iload 4, 2) (List.mem_of_getElem? (i := 52) rfl), rfl⟩
theorem pX2_worked_104 : At cX2_worked 104 (.iconst 1) 1 105 := ⟨tX2_worked_0_ok (104, .iconst 1, 1) (List.mem_of_getElem? (i := 53) rfl), rfl⟩
theorem pX2_worked_105 : Bt cX2_worked 105 (.if_icmp .le 40) 40 145 108 := ⟨tX2_worked_0_ok (105, .if_icmp .le 40, 3) (List.mem_of_getElem? (i := 54) rfl), by decide, rfl⟩
theorem pX2_worked_108 : At cX2_worked 108 (.iinc 4 (-1)) 3 111 := ⟨tX2_worked_0_ok (108, .iinc 4 (-1), 3) (List.mem_of_getElem? (i := 55) rfl), rfl⟩
theorem pX2_worked_111 : At cX2_worked 111 (.aload_n 0) 1 112 := ⟨tX2_worked_0_ok (111, .aload_n 0, 1) (List.mem_of_getElem? (i := 56) rfl), rfl⟩
theorem pX2_worked_112 : At cX2_worked 112 (.getfield 15) 3 115 := ⟨tX2_worked_0_ok (112, .getfield 15, 3) (List.mem_of_getElem? (i := 57) rfl), rfl⟩
theorem pX2_worked_115 : At cX2_worked 115 (.iload 4) 2 117 := ⟨tX2_worked_0_ok (115, .iload 4, 2) (List.mem_of_getElem? (i := 58) rfl), rfl⟩
theorem pX2_worked_117 : At cX2_worked 117 (.iconst 1) 1 118 := ⟨tX2_worked_0_ok (117, .iconst 1, 1) (List.mem_of_getElem? (i := 59) rfl), rfl⟩
theorem pX2_worked_118 : At cX2_worked 118 (.isub) 1 119 := ⟨tX2_worked_0_ok (118, .isub, 1) (List.mem_of_getElem? (i := 60) rfl), rfl⟩
theorem pX2_worked_119 : At cX2_worked 119 (.iload 6) 2 121 := ⟨tX2_worked_0_ok (119, .iload 6, 2) (List.mem_of_getElem? (i := 61) rfl), rfl⟩
theorem pX2_worked_121 : At cX2_worked 121 (.sipush 20000) 3 124 := ⟨tX2_worked_0_ok (121, .sipush 20000, 3) (List.mem_of_getElem? (i := 62) rfl), rfl⟩
theorem pX2_worked_124 : At cX2_worked 124 (.isub) 1 125 := ⟨tX2_worked_0_ok (124, .isub, 1) (List.mem_of_getElem? (i := 63) rfl), rfl⟩
theorem pX2_worked_125 : At cX2_worked 125 (.aload_n 0) 1 126 := ⟨tX2_worked_0_ok (125, .aload_n 0, 1) (List.mem_of_getElem? (i := 64) rfl), rfl⟩
theorem pX2_worked_126 : At cX2_worked 126 (.getfield 15) 3 129 := ⟨tX2_worked_0_ok (126, .getfield 15, 3) (List.mem_of_getElem? (i := 65) rfl), rfl⟩
theorem pX2_worked_129 : At cX2_worked 129 (.iload 4) 2 131 := ⟨tX2_worked_0_ok (129, .iload 4, 2) (List.mem_of_getElem? (i := 66) rfl), rfl⟩
theorem pX2_worked_131 : At cX2_worked 131 (.iconst 1) 1 132 := ⟨tX2_worked_0_ok (131, .iconst 1, 1) (List.mem_of_getElem? (i := 67) rfl), rfl⟩
theorem pX2_worked_132 : At cX2_worked 132 (.isub) 1 133 := ⟨tX2_worked_0_ok (132, .isub, 1) (List.mem_of_getElem? (i := 68) rfl), rfl⟩
theorem pX2_worked_133 : At cX2_worked 133 (.iaload) 1 134 := ⟨tX2_worked_0_ok (133, .iaload, 1) (List.mem_of_getElem? (i := 69) rfl), rfl⟩
theorem pX2_worked_134 : At cX2_worked 134 (.aload_n 0) 1 135 := ⟨tX2_worked_0_ok (134, .aload_n 0, 1) (List.mem_of_getElem? (i := 70) rfl), rfl⟩
theorem pX2_worked_135 : At cX2_worked 135 (.getfield 15) 3 138 := ⟨tX2_worked_0_ok (135, .getfield 15, 3) (List.mem_of_getElem? (i := 71) rfl), rfl⟩
theorem pX2_worked_138 : At cX2_worked 138 (.iload 4) 2 140 := ⟨tX2_worked_0_ok (138, .iload 4, 2) (List.mem_of_getElem? (i := 72) rfl), rfl⟩
theorem pX2_worked_140 : At cX2_worked 140 (.iaload) 1 141 := ⟨tX2_worked_0_ok (140, .iaload, 1) (List.mem_of_getElem? (i := 73) rfl), rfl⟩
theorem pX2_worked_141 : At cX2_worked 141 (.invokestatic 42) 3 144 := ⟨tX2_worked_0_ok (141, .invokestatic 42, 3) (List.mem_of_getElem? (i := 74) rfl), rfl⟩
theorem pX2_worked_144 : At cX2_worked 144 (.iastore) 1 145 := ⟨tX2_worked_0_ok (144, .iastore, 1) (List.mem_of_getElem? (i := 75) rfl), rfl⟩
theorem pX2_worked_145 : At cX2_worked 145 (.iinc 5 1) 3 148 := ⟨tX2_worked_0_ok (145, .iinc 5 1, 3) (List.mem_of_getElem? (i := 76) rfl), rfl⟩
theorem pX2_worked_148 : Bt cX2_worked 148 (.goto (-142)) (-142) 6 151 := ⟨tX2_worked_0_ok (148, .goto (-142), 3) (List.mem_of_getElem? (i := 77) rfl), by decide, rfl⟩
theorem pX2_worked_151 : At cX2_worked 151 (.aload_n 0) 1 152 := ⟨tX2_worked_0_ok (151, .aload_n 0, 1) (List.mem_of_getElem? (i := 78) rfl), rfl⟩
theorem pX2_worked_152 : At cX2_worked 152 (.getfield 15) 3 155 := ⟨tX2_worked_0_ok (152, .getfield 15, 3) (List.mem_of_getElem? (i := 79) rfl), rfl⟩
theorem pX2_worked_155 : At cX2_worked 155 (.iconst 0) 1 156 := ⟨tX2_worked_0_ok (155, .iconst 0, 1) (List.mem_of_getElem? (i := 80) rfl), rfl⟩
theorem pX2_worked_156 : At cX2_worked 156 (.iaload) 1 157 := ⟨tX2_worked_0_ok (156, .iaload, 1) (List.mem_of_getElem? (i := 81) rfl), rfl⟩
theorem pX2_worked_157 : At cX2_worked 157 (.ireturn) 1 158 := ⟨tX2_worked_0_ok (157, .ireturn, 1) (List.mem_of_getElem? (i := 82) rfl), rfl⟩
def tX2_give_0 : List (Nat × Instr × Nat) := [(0, .aload_n 0, 1), (1, .getfield 18, 3), (4, .ifCond .ne 34, 3), (7, .aload_n 0, 1), (8, .getfield 26, 3), (11, .ifCond .ne 12, 3), (14, .iload_n 1, 1), (15, .bipush 20, 2), (17, .isub, 1), (18, .iconst 5, 1), (19, .idiv, 1), (20, .goto 10, 3), (23, .aload_n 0, 1), (24, .iload_n 1, 1), (25, .iload_n 2, 1), (26, .iload_n 3, 1), (27, .invokevirtual 35, 3), (30, .bipush (-9), 2), (32, .bipush 9, 2), (34, .invokestatic 22, 3), (37, .ireturn, 1), (38, .aload_n 0, 1), (39, .getfield 26, 3), (42, .ifCond .ne 11, 3), (45, .iload_n 2, 1), (46, .iload_n 1, 1), (47, .iconst 1, 1), (48, .iadd, 1), (49, .imul, 1), (50, .goto 10, 3), (53, .aload_n 0, 1), (54, .iload_n 1, 1), (55, .iload_n 2, 1), (56, .iload_n 3, 1), (57, .invokevirtual 35, 3), (60, .bipush (-99), 2), (62, .bipush 99, 2), (64, .invokestatic 22, 3), (67, .ireturn, 1)]
theorem tX2_give_0_ok : ∀ q ∈ tX2_give_0, decode cX2_give q.1 = .ok (q.2.1, q.2.2) := by decide +kernel
theorem pX2_give_0 : At cX2_give 0 (.aload_n 0) 1 1 := ⟨tX2_give_0_ok (0, .aload_n 0, 1) (List.mem_of_getElem? (i := 0) rfl), rfl⟩
theorem pX2_give_1 : At cX2_give 1 (.getfield 18) 3 4 := ⟨tX2_give_0_ok (1, .getfield 18, 3) (List.mem_of_getElem? (i := 1) rfl), rfl⟩
theorem pX2_give_4 : Bt cX2_give 4 (.ifCond .ne 34) 34 38 7 := ⟨tX2_give_0_ok (4, .ifCond .ne 34, 3) (List.mem_of_getElem? (i := 2) rfl), by decide, rfl⟩
theorem pX2_give_7 : At cX2_give 7 (.aload_n 0) 1 8 := ⟨tX2_give_0_ok (7, .aload_n 0, 1) (List.mem_of_getElem? (i := 3) rfl), rfl⟩
theorem pX2_give_8 : At cX2_give 8 (.getfield 26) 3 11 := ⟨tX2_give_0_ok (8, .getfield 26, 3) (List.mem_of_getElem? (i := 4) rfl), rfl⟩
theorem pX2_give_11 : Bt cX2_give 11 (.ifCond .ne 12) 12 23 14 := ⟨tX2_give_0_ok (11, .ifCond .ne 12, 3) (List.mem_of_getElem? (i := 5) rfl), by decide, rfl⟩
theorem pX2_give_14 : At cX2_give 14 (.iload_n 1) 1 15 := ⟨tX2_give_0_ok (14, .iload_n 1, 1) (List.mem_of_getElem? (i := 6) rfl), rfl⟩
theorem pX2_give_15 : At cX2_give 15 (.bipush 20) 2 17 := ⟨tX2_give_0_ok (15, .bipush 20, 2) (List.mem_of_getElem? (i := 7) rfl), rfl⟩
theorem pX2_give_17 : At cX2_give 17 (.isub) 1 18 := ⟨tX2_give_0_ok (17, .isub, 1) (List.mem_of_getElem? (i := 8) rfl), rfl⟩
theorem pX2_give_18 : At cX2_give 18 (.iconst 5) 1 19 := ⟨tX2_give_0_ok (18, .iconst 5, 1) (List.mem_of_getElem? (i := 9) rfl), rfl⟩
theorem pX2_give_19 : At cX2_give 19 (.idiv) 1 20 := ⟨tX2_give_0_ok (19, .idiv, 1) (List.mem_of_getElem? (i := 10) rfl), rfl⟩
theorem pX2_give_20 : Bt cX2_give 20 (.goto 10) 10 30 23 := ⟨tX2_give_0_ok (20, .goto 10, 3) (List.mem_of_getElem? (i := 11) rfl), by decide, rfl⟩
theorem pX2_give_23 : At cX2_give 23 (.aload_n 0) 1 24 := ⟨tX2_give_0_ok (23, .aload_n 0, 1) (List.mem_of_getElem? (i := 12) rfl), rfl⟩
theorem pX2_give_24 : At cX2_give 24 (.iload_n 1) 1 25 := ⟨tX2_give_0_ok (24, .iload_n 1, 1) (List.mem_of_getElem? (i := 13) rfl), rfl⟩
theorem pX2_give_25 : At cX2_give 25 (.iload_n 2) 1 26 := ⟨tX2_give_0_ok (25, .iload_n 2, 1) (List.mem_of_getElem? (i := 14) rfl), rfl⟩
theorem pX2_give_26 : At cX2_give 26 (.iload_n 3) 1 27 := ⟨tX2_give_0_ok (26, .iload_n 3, 1) (List.mem_of_getElem? (i := 15) rfl), rfl⟩
theorem pX2_give_27 : At cX2_give 27 (.invokevirtual 35) 3 30 := ⟨tX2_give_0_ok (27, .invokevirtual 35, 3) (List.mem_of_getElem? (i := 16) rfl), rfl⟩
theorem pX2_give_30 : At cX2_give 30 (.bipush (-9)) 2 32 := ⟨tX2_give_0_ok (30, .bipush (-9), 2) (List.mem_of_getElem? (i := 17) rfl), rfl⟩
theorem pX2_give_32 : At cX2_give 32 (.bipush 9) 2 34 := ⟨tX2_give_0_ok (32, .bipush 9, 2) (List.mem_of_getElem? (i := 18) rfl), rfl⟩
theorem pX2_give_34 : At cX2_give 34 (.invokestatic 22) 3 37 := ⟨tX2_give_0_ok (34, .invokestatic 22, 3) (List.mem_of_getElem? (i := 19) rfl), rfl⟩
theorem pX2_give_37 : At cX2_give 37 (.ireturn) 1 38 := ⟨tX2_give_0_ok (37, .ireturn, 1) (List.mem_of_getElem? (i := 20) rfl), rfl⟩
theorem pX2_give_38 : At cX2_give 38 (.aload_n 0) 1 39 := ⟨tX2_give_0_ok (38, .aload_n 0, 1) (List.mem_of_getElem? (i := 21) rfl), rfl⟩
theorem pX2_give_39 : At cX2_give 39 (.getfield 26) 3 42 := ⟨tX2_give_0_ok (39, .getfield 26, 3) (List.mem_of_getElem? (i := 22) rfl), rfl⟩
theorem pX2_give_42 : Bt cX2_give 42 (.ifCond .ne 11) 11 53 45 := ⟨tX2_give_0_ok (42, .ifCond .ne 11, 3) (List.mem_of_getElem? (i := 23) rfl), by decide, rfl⟩
theorem pX2_give_45 : At cX2_give 45 (.iload_n 2) 1 46 := ⟨tX2_give_0_ok (45, .iload_n 2, 1) (List.mem_of_getElem? (i := 24) rfl), rfl⟩
theorem pX2_give_46 : At cX2_give 46 (.iload_n 1) 1 47 := ⟨tX2_give_0_ok (46, .iload_n 1, 1) (List.mem_of_getElem? (i := 25) rfl), rfl⟩
theorem pX2_give_47 : At cX2_give 47 (.iconst 1) 1 48 := ⟨tX2_give_0_ok (47, .iconst 1, 1) (List.mem_of_getElem? (i := 26) rfl), rfl⟩
theorem pX2_give_48 : At cX2_give 48 (.iadd) 1 49 := ⟨tX2_give_0_ok (48, .iadd, 1) (List.mem_of_getElem? (i := 27) rfl), rfl⟩
theorem pX2_give_49 : At cX2_give 49 (.imul) 1 50 := ⟨tX2_give_0_ok (49, .imul, 1) (List.mem_of_getElem? (i := 28) rfl), rfl⟩
theorem pX2_give_50 : Bt cX2_give 50 (.goto 10) 10 60 53 := ⟨tX2_give_0_ok (50, .goto 10, 3) (List.mem_of_getElem? (i := 29) rfl), by decide, rfl⟩
theorem pX2_give_53 : At cX2_give 53 (.aload_n 0) 1 54 := ⟨tX2_give_0_ok (53, .aload_n 0, 1) (List.mem_of_getElem? (i := 30) rfl), rfl⟩
theorem pX2_give_54 : At cX2_give 54 (.iload_n 1) 1 55 := ⟨tX2_give_0_ok (54, .iload_n 1, 1) (List.mem_of_getElem? (i := 31) rfl), rfl⟩
theorem pX2_give_55 : At cX2_give 55 (.iload_n 2) 1 56 := ⟨tX2_give_0_ok (55, .iload_n 2, 1) (List.mem_of_getElem? (i := 32) rfl), rfl⟩
theorem pX2_give_56 : At cX2_give 56 (.iload_n 3) 1 57 := ⟨tX2_give_0_ok (56, .iload_n 3, 1) (List.mem_of_getElem? (i := 33) rfl), rfl⟩
theorem pX2_give_57 : At cX2_give 57 (.invokevirtual 35) 3 60 := ⟨tX2_give_0_ok (57, .invokevirtual 35, 3) (List.mem_of_getElem? (i := 34) rfl), rfl⟩
theorem pX2_give_60 : At cX2_give 60 (.bipush (-99)) 2 62 := ⟨tX2_give_0_ok (60, .bipush (-99), 2) (List.mem_of_getElem? (i := 35) rfl), rfl⟩
theorem pX2_give_62 : At cX2_give 62 (.bipush 99) 2 64 := ⟨tX2_give_0_ok (62, .bipush 99, 2) (List.mem_of_getElem? (i := 36) rfl), rfl⟩
theorem pX2_give_64 : At cX2_give 64 (.invokestatic 22) 3 67 := ⟨tX2_give_0_ok (64, .invokestatic 22, 3) (List.mem_of_getElem? (i := 37) rfl), rfl⟩
theorem pX2_give_67 : At cX2_give 67 (.ireturn) 1 68 := ⟨tX2_give_0_ok (67, .ireturn, 1) (List.mem_of_getElem? (i := 38) rfl), rfl⟩
def tX5_pullOf_0 : List (Nat × Instr × Nat) := [(0, .aload_n 1, 1), (1, .getfield 75, 3), (4, .bipush 41, 2), (6, .imul, 1), (7, .aload_n 1, 1), (8, .getfield 80, 3), (11, .iadd, 1), (12, .istore_n 2, 1), (13, .iload_n 2, 1), (14, .iconst 0, 1), (15, .aload_n 0, 1), (16, .getfield 41, 3), (19, .arraylength, 1), (20, .iconst 1, 1), (21, .isub, 1), (22, .invokestatic 83, 3), (25, .ifCond .ne 20, 3), (28, .aload_n 0, 1), (29, .getfield 34, 3), (32, .aload_n 1, 1), (33, .getfield 80, 3), (36, .aload_n 1, 1), (37, .getfield 75, 3), (40, .iconst 0, 1), (41, .invokevirtual 87, 3), (44, .ireturn, 1), (45, .aload_n 0, 1), (46, .getfield 41, 3), (49, .iload_n 2, 1), (50, .baload, 1), (51, .bipush 100, 2), (53, .if_icmp .ne 26, 3), (56, .aload_n 0, 1), (57, .getfield 41, 3), (60, .iload_n 2, 1), (61, .aload_n 0, 1), (62, .getfield 34, 3), (65, .aload_n 1, 1), (66, .getfield 80, 3), (69, .aload_n 1, 1), (70, .getfield 75, 3), (73, .iconst 0, 1), (74, .invokevirtual 87, 3), (77, .i2b, 1), (78, .bastore, 1), (79, .aload_n 0, 1), (80, .getfield 41, 3), (83, .iload_n 2, 1), (84, .baload, 1), (85, .ireturn, 1)]
theorem tX5_pullOf_0_ok : ∀ q ∈ tX5_pullOf_0, decode cX5_pullOf q.1 = .ok (q.2.1, q.2.2) := by decide +kernel
theorem pX5_pullOf_0 : At cX5_pullOf 0 (.aload_n 1) 1 1 := ⟨tX5_pullOf_0_ok (0, .aload_n 1, 1) (List.mem_of_getElem? (i := 0) rfl), rfl⟩
theorem pX5_pullOf_1 : At cX5_pullOf 1 (.getfield 75) 3 4 := ⟨tX5_pullOf_0_ok (1, .getfield 75, 3) (List.mem_of_getElem? (i := 1) rfl), rfl⟩
theorem pX5_pullOf_4 : At cX5_pullOf 4 (.bipush 41) 2 6 := ⟨tX5_pullOf_0_ok (4, .bipush 41, 2) (List.mem_of_getElem? (i := 2) rfl), rfl⟩
theorem pX5_pullOf_6 : At cX5_pullOf 6 (.imul) 1 7 := ⟨tX5_pullOf_0_ok (6, .imul, 1) (List.mem_of_getElem? (i := 3) rfl), rfl⟩
theorem pX5_pullOf_7 : At cX5_pullOf 7 (.aload_n 1) 1 8 := ⟨tX5_pullOf_0_ok (7, .aload_n 1, 1) (List.mem_of_getElem? (i := 4) rfl), rfl⟩
theorem pX5_pullOf_8 : At cX5_pullOf 8 (.getfield 80) 3 11 := ⟨tX5_pullOf_0_ok (8, .getfield 80, 3) (List.mem_of_getElem? (i := 5) rfl), rfl⟩
theorem pX5_pullOf_11 : At cX5_pullOf 11 (.iadd) 1 12 := ⟨tX5_pullOf_0_ok (11, .iadd, 1) (List.mem_of_getElem? (i := 6) rfl), rfl⟩
theorem pX5_pullOf_12 : At cX5_pullOf 12 (.istore_n 2) 1 13 := ⟨tX5_pullOf_0_ok (12, .istore_n 2, 1) (List.mem_of_getElem? (i := 7) rfl), rfl⟩
theorem pX5_pullOf_13 : At cX5_pullOf 13 (.iload_n 2) 1 14 := ⟨tX5_pullOf_0_ok (13, .iload_n 2, 1) (List.mem_of_getElem? (i := 8) rfl), rfl⟩
theorem pX5_pullOf_14 : At cX5_pullOf 14 (.iconst 0) 1 15 := ⟨tX5_pullOf_0_ok (14, .iconst 0, 1) (List.mem_of_getElem? (i := 9) rfl), rfl⟩
theorem pX5_pullOf_15 : At cX5_pullOf 15 (.aload_n 0) 1 16 := ⟨tX5_pullOf_0_ok (15, .aload_n 0, 1) (List.mem_of_getElem? (i := 10) rfl), rfl⟩
theorem pX5_pullOf_16 : At cX5_pullOf 16 (.getfield 41) 3 19 := ⟨tX5_pullOf_0_ok (16, .getfield 41, 3) (List.mem_of_getElem? (i := 11) rfl), rfl⟩
theorem pX5_pullOf_19 : At cX5_pullOf 19 (.arraylength) 1 20 := ⟨tX5_pullOf_0_ok (19, .arraylength, 1) (List.mem_of_getElem? (i := 12) rfl), rfl⟩
theorem pX5_pullOf_20 : At cX5_pullOf 20 (.iconst 1) 1 21 := ⟨tX5_pullOf_0_ok (20, .iconst 1, 1) (List.mem_of_getElem? (i := 13) rfl), rfl⟩
theorem pX5_pullOf_21 : At cX5_pullOf 21 (.isub) 1 22 := ⟨tX5_pullOf_0_ok (21, .isub, 1) (List.mem_of_getElem? (i := 14) rfl), rfl⟩
theorem pX5_pullOf_22 : At cX5_pullOf 22 (.invokestatic 83) 3 25 := ⟨tX5_pullOf_0_ok (22, .invokestatic 83, 3) (List.mem_of_getElem? (i := 15) rfl), rfl⟩
theorem pX5_pullOf_25 : Bt cX5_pullOf 25 (.ifCond .ne 20) 20 45 28 := ⟨tX5_pullOf_0_ok (25, .ifCond .ne 20, 3) (List.mem_of_getElem? (i := 16) rfl), by decide, rfl⟩
theorem pX5_pullOf_28 : At cX5_pullOf 28 (.aload_n 0) 1 29 := ⟨tX5_pullOf_0_ok (28, .aload_n 0, 1) (List.mem_of_getElem? (i := 17) rfl), rfl⟩
theorem pX5_pullOf_29 : At cX5_pullOf 29 (.getfield 34) 3 32 := ⟨tX5_pullOf_0_ok (29, .getfield 34, 3) (List.mem_of_getElem? (i := 18) rfl), rfl⟩
theorem pX5_pullOf_32 : At cX5_pullOf 32 (.aload_n 1) 1 33 := ⟨tX5_pullOf_0_ok (32, .aload_n 1, 1) (List.mem_of_getElem? (i := 19) rfl), rfl⟩
theorem pX5_pullOf_33 : At cX5_pullOf 33 (.getfield 80) 3 36 := ⟨tX5_pullOf_0_ok (33, .getfield 80, 3) (List.mem_of_getElem? (i := 20) rfl), rfl⟩
theorem pX5_pullOf_36 : At cX5_pullOf 36 (.aload_n 1) 1 37 := ⟨tX5_pullOf_0_ok (36, .aload_n 1, 1) (List.mem_of_getElem? (i := 21) rfl), rfl⟩
theorem pX5_pullOf_37 : At cX5_pullOf 37 (.getfield 75) 3 40 := ⟨tX5_pullOf_0_ok (37, .getfield 75, 3) (List.mem_of_getElem? (i := 22) rfl), rfl⟩
theorem pX5_pullOf_40 : At cX5_pullOf 40 (.iconst 0) 1 41 := ⟨tX5_pullOf_0_ok (40, .iconst 0, 1) (List.mem_of_getElem? (i := 23) rfl), rfl⟩
theorem pX5_pullOf_41 : At cX5_pullOf 41 (.invokevirtual 87) 3 44 := ⟨tX5_pullOf_0_ok (41, .invokevirtual 87, 3) (List.mem_of_getElem? (i := 24) rfl), rfl⟩
theorem pX5_pullOf_44 : At cX5_pullOf 44 (.ireturn) 1 45 := ⟨tX5_pullOf_0_ok (44, .ireturn, 1) (List.mem_of_getElem? (i := 25) rfl), rfl⟩
theorem pX5_pullOf_45 : At cX5_pullOf 45 (.aload_n 0) 1 46 := ⟨tX5_pullOf_0_ok (45, .aload_n 0, 1) (List.mem_of_getElem? (i := 26) rfl), rfl⟩
theorem pX5_pullOf_46 : At cX5_pullOf 46 (.getfield 41) 3 49 := ⟨tX5_pullOf_0_ok (46, .getfield 41, 3) (List.mem_of_getElem? (i := 27) rfl), rfl⟩
theorem pX5_pullOf_49 : At cX5_pullOf 49 (.iload_n 2) 1 50 := ⟨tX5_pullOf_0_ok (49, .iload_n 2, 1) (List.mem_of_getElem? (i := 28) rfl), rfl⟩
theorem pX5_pullOf_50 : At cX5_pullOf 50 (.baload) 1 51 := ⟨tX5_pullOf_0_ok (50, .baload, 1) (List.mem_of_getElem? (i := 29) rfl), rfl⟩
theorem pX5_pullOf_51 : At cX5_pullOf 51 (.bipush 100) 2 53 := ⟨tX5_pullOf_0_ok (51, .bipush 100, 2) (List.mem_of_getElem? (i := 30) rfl), rfl⟩
theorem pX5_pullOf_53 : Bt cX5_pullOf 53 (.if_icmp .ne 26) 26 79 56 := ⟨tX5_pullOf_0_ok (53, .if_icmp .ne 26, 3) (List.mem_of_getElem? (i := 31) rfl), by decide, rfl⟩
theorem pX5_pullOf_56 : At cX5_pullOf 56 (.aload_n 0) 1 57 := ⟨tX5_pullOf_0_ok (56, .aload_n 0, 1) (List.mem_of_getElem? (i := 32) rfl), rfl⟩
theorem pX5_pullOf_57 : At cX5_pullOf 57 (.getfield 41) 3 60 := ⟨tX5_pullOf_0_ok (57, .getfield 41, 3) (List.mem_of_getElem? (i := 33) rfl), rfl⟩
theorem pX5_pullOf_60 : At cX5_pullOf 60 (.iload_n 2) 1 61 := ⟨tX5_pullOf_0_ok (60, .iload_n 2, 1) (List.mem_of_getElem? (i := 34) rfl), rfl⟩
theorem pX5_pullOf_61 : At cX5_pullOf 61 (.aload_n 0) 1 62 := ⟨tX5_pullOf_0_ok (61, .aload_n 0, 1) (List.mem_of_getElem? (i := 35) rfl), rfl⟩
theorem pX5_pullOf_62 : At cX5_pullOf 62 (.getfield 34) 3 65 := ⟨tX5_pullOf_0_ok (62, .getfield 34, 3) (List.mem_of_getElem? (i := 36) rfl), rfl⟩
theorem pX5_pullOf_65 : At cX5_pullOf 65 (.aload_n 1) 1 66 := ⟨tX5_pullOf_0_ok (65, .aload_n 1, 1) (List.mem_of_getElem? (i := 37) rfl), rfl⟩
theorem pX5_pullOf_66 : At cX5_pullOf 66 (.getfield 80) 3 69 := ⟨tX5_pullOf_0_ok (66, .getfield 80, 3) (List.mem_of_getElem? (i := 38) rfl), rfl⟩
theorem pX5_pullOf_69 : At cX5_pullOf 69 (.aload_n 1) 1 70 := ⟨tX5_pullOf_0_ok (69, .aload_n 1, 1) (List.mem_of_getElem? (i := 39) rfl), rfl⟩
theorem pX5_pullOf_70 : At cX5_pullOf 70 (.getfield 75) 3 73 := ⟨tX5_pullOf_0_ok (70, .getfield 75, 3) (List.mem_of_getElem? (i := 40) rfl), rfl⟩
theorem pX5_pullOf_73 : At cX5_pullOf 73 (.iconst 0) 1 74 := ⟨tX5_pullOf_0_ok (73, .iconst 0, 1) (List.mem_of_getElem? (i := 41) rfl), rfl⟩
theorem pX5_pullOf_74 : At cX5_pullOf 74 (.invokevirtual 87) 3 77 := ⟨tX5_pullOf_0_ok (74, .invokevirtual 87, 3) (List.mem_of_getElem? (i := 42) rfl), rfl⟩
theorem pX5_pullOf_77 : At cX5_pullOf 77 (.i2b) 1 78 := ⟨tX5_pullOf_0_ok (77, .i2b, 1) (List.mem_of_getElem? (i := 43) rfl), rfl⟩
theorem pX5_pullOf_78 : At cX5_pullOf 78 (.bastore) 1 79 := ⟨tX5_pullOf_0_ok (78, .bastore, 1) (List.mem_of_getElem? (i := 44) rfl), rfl⟩
theorem pX5_pullOf_79 : At cX5_pullOf 79 (.aload_n 0) 1 80 := ⟨tX5_pullOf_0_ok (79, .aload_n 0, 1) (List.mem_of_getElem? (i := 45) rfl), rfl⟩
theorem pX5_pullOf_80 : At cX5_pullOf 80 (.getfield 41) 3 83 := ⟨tX5_pullOf_0_ok (80, .getfield 41, 3) (List.mem_of_getElem? (i := 46) rfl), rfl⟩
theorem pX5_pullOf_83 : At cX5_pullOf 83 (.iload_n 2) 1 84 := ⟨tX5_pullOf_0_ok (83, .iload_n 2, 1) (List.mem_of_getElem? (i := 47) rfl), rfl⟩
theorem pX5_pullOf_84 : At cX5_pullOf 84 (.baload) 1 85 := ⟨tX5_pullOf_0_ok (84, .baload, 1) (List.mem_of_getElem? (i := 48) rfl), rfl⟩
theorem pX5_pullOf_85 : At cX5_pullOf 85 (.ireturn) 1 86 := ⟨tX5_pullOf_0_ok (85, .ireturn, 1) (List.mem_of_getElem? (i := 49) rfl), rfl⟩
def tX1_pulled_0 : List (Nat × Instr × Nat) := [(0, .aload_n 0, 1), (1, .getfield 9, 3), (4, .tableswitch 42 3 6 #[32, 42, 32, 38], 32), (36, .iconst 0, 1), (37, .iload_n 1, 1), (38, .iconst 2, 1), (39, .idiv, 1), (40, .isub, 1), (41, .ireturn, 1), (42, .iconst 2, 1), (43, .iload_n 1, 1), (44, .imul, 1), (45, .ireturn, 1), (46, .iload_n 1, 1), (47, .ireturn, 1)]
theorem tX1_pulled_0_ok : ∀ q ∈ tX1_pulled_0, decode cX1_pulled q.1 = .ok (q.2.1, q.2.2) := by decide +kernel
theorem pX1_pulled_0 : At cX1_pulled 0 (.aload_n 0) 1 1 := ⟨tX1_pulled_0_ok (0, .aload_n 0, 1) (List.mem_of_getElem? (i := 0) rfl), rfl⟩
theorem pX1_pulled_1 : At cX1_pulled 1 (.getfield 9) 3 4 := ⟨tX1_pulled_0_ok (1, .getfield 9, 3) (List.mem_of_getElem? (i := 1) rfl), rfl⟩
theorem pX1_pulled_4 : decode cX1_pulled 4 = .ok (.tableswitch 42 3 6 #[32, 42, 32, 38], 32) := tX1_pulled_0_ok (4, .tableswitch 42 3 6 #[32, 42, 32, 38], 32) (List.mem_of_getElem? (i := 2) rfl)
theorem pX1_pulled_36 : At cX1_pulled 36 (.iconst 0) 1 37 := ⟨tX1_pulled_0_ok (36, .iconst 0, 1) (List.mem_of_getElem? (i := 3) rfl), rfl⟩
theorem pX1_pulled_37 : At cX1_pulled 37 (.iload_n 1) 1 38 := ⟨tX1_pulled_0_ok (37, .iload_n 1, 1) (List.mem_of_getElem? (i := 4) rfl), rfl⟩
theorem pX1_pulled_38 : At cX1_pulled 38 (.iconst 2) 1 39 := ⟨tX1_pulled_0_ok (38, .iconst 2, 1) (List.mem_of_getElem? (i := 5) rfl), rfl⟩
theorem pX1_pulled_39 : At cX1_pulled 39 (.idiv) 1 40 := ⟨tX1_pulled_0_ok (39, .idiv, 1) (List.mem_of_getElem? (i := 6) rfl), rfl⟩
theorem pX1_pulled_40 : At cX1_pulled 40 (.isub) 1 41 := ⟨tX1_pulled_0_ok (40, .isub, 1) (List.mem_of_getElem? (i := 7) rfl), rfl⟩
theorem pX1_pulled_41 : At cX1_pulled 41 (.ireturn) 1 42 := ⟨tX1_pulled_0_ok (41, .ireturn, 1) (List.mem_of_getElem? (i := 8) rfl), rfl⟩
theorem pX1_pulled_42 : At cX1_pulled 42 (.iconst 2) 1 43 := ⟨tX1_pulled_0_ok (42, .iconst 2, 1) (List.mem_of_getElem? (i := 9) rfl), rfl⟩
theorem pX1_pulled_43 : At cX1_pulled 43 (.iload_n 1) 1 44 := ⟨tX1_pulled_0_ok (43, .iload_n 1, 1) (List.mem_of_getElem? (i := 10) rfl), rfl⟩
theorem pX1_pulled_44 : At cX1_pulled 44 (.imul) 1 45 := ⟨tX1_pulled_0_ok (44, .imul, 1) (List.mem_of_getElem? (i := 11) rfl), rfl⟩
theorem pX1_pulled_45 : At cX1_pulled 45 (.ireturn) 1 46 := ⟨tX1_pulled_0_ok (45, .ireturn, 1) (List.mem_of_getElem? (i := 12) rfl), rfl⟩
theorem pX1_pulled_46 : At cX1_pulled 46 (.iload_n 1) 1 47 := ⟨tX1_pulled_0_ok (46, .iload_n 1, 1) (List.mem_of_getElem? (i := 13) rfl), rfl⟩
theorem pX1_pulled_47 : At cX1_pulled 47 (.ireturn) 1 48 := ⟨tX1_pulled_0_ok (47, .ireturn, 1) (List.mem_of_getElem? (i := 14) rfl), rfl⟩
def tX1_drag_0 : List (Nat × Instr × Nat) := [(0, .aload_n 0, 1), (1, .getfield 9, 3), (4, .tableswitch 46 1 6 #[40, 46, 42, 46, 44, 40], 40), (44, .iconst 0, 1), (45, .ireturn, 1), (46, .iconst 2, 1), (47, .ireturn, 1), (48, .iconst 1, 1), (49, .ireturn, 1), (50, .aload_n 0, 1), (51, .getfield 15, 3), (54, .iconst 2, 1), (55, .irem, 1), (56, .ireturn, 1)]
theorem tX1_drag_0_ok : ∀ q ∈ tX1_drag_0, decode cX1_drag q.1 = .ok (q.2.1, q.2.2) := by decide +kernel
theorem pX1_drag_0 : At cX1_drag 0 (.aload_n 0) 1 1 := ⟨tX1_drag_0_ok (0, .aload_n 0, 1) (List.mem_of_getElem? (i := 0) rfl), rfl⟩
theorem pX1_drag_1 : At cX1_drag 1 (.getfield 9) 3 4 := ⟨tX1_drag_0_ok (1, .getfield 9, 3) (List.mem_of_getElem? (i := 1) rfl), rfl⟩
theorem pX1_drag_4 : decode cX1_drag 4 = .ok (.tableswitch 46 1 6 #[40, 46, 42, 46, 44, 40], 40) := tX1_drag_0_ok (4, .tableswitch 46 1 6 #[40, 46, 42, 46, 44, 40], 40) (List.mem_of_getElem? (i := 2) rfl)
theorem pX1_drag_44 : At cX1_drag 44 (.iconst 0) 1 45 := ⟨tX1_drag_0_ok (44, .iconst 0, 1) (List.mem_of_getElem? (i := 3) rfl), rfl⟩
theorem pX1_drag_45 : At cX1_drag 45 (.ireturn) 1 46 := ⟨tX1_drag_0_ok (45, .ireturn, 1) (List.mem_of_getElem? (i := 4) rfl), rfl⟩
theorem pX1_drag_46 : At cX1_drag 46 (.iconst 2) 1 47 := ⟨tX1_drag_0_ok (46, .iconst 2, 1) (List.mem_of_getElem? (i := 5) rfl), rfl⟩
theorem pX1_drag_47 : At cX1_drag 47 (.ireturn) 1 48 := ⟨tX1_drag_0_ok (47, .ireturn, 1) (List.mem_of_getElem? (i := 6) rfl), rfl⟩
theorem pX1_drag_48 : At cX1_drag 48 (.iconst 1) 1 49 := ⟨tX1_drag_0_ok (48, .iconst 1, 1) (List.mem_of_getElem? (i := 7) rfl), rfl⟩
theorem pX1_drag_49 : At cX1_drag 49 (.ireturn) 1 50 := ⟨tX1_drag_0_ok (49, .ireturn, 1) (List.mem_of_getElem? (i := 8) rfl), rfl⟩
theorem pX1_drag_50 : At cX1_drag 50 (.aload_n 0) 1 51 := ⟨tX1_drag_0_ok (50, .aload_n 0, 1) (List.mem_of_getElem? (i := 9) rfl), rfl⟩
theorem pX1_drag_51 : At cX1_drag 51 (.getfield 15) 3 54 := ⟨tX1_drag_0_ok (51, .getfield 15, 3) (List.mem_of_getElem? (i := 10) rfl), rfl⟩
theorem pX1_drag_54 : At cX1_drag 54 (.iconst 2) 1 55 := ⟨tX1_drag_0_ok (54, .iconst 2, 1) (List.mem_of_getElem? (i := 11) rfl), rfl⟩
theorem pX1_drag_55 : At cX1_drag 55 (.irem) 1 56 := ⟨tX1_drag_0_ok (55, .irem, 1) (List.mem_of_getElem? (i := 12) rfl), rfl⟩
theorem pX1_drag_56 : At cX1_drag 56 (.ireturn) 1 57 := ⟨tX1_drag_0_ok (56, .ireturn, 1) (List.mem_of_getElem? (i := 13) rfl), rfl⟩
def tX1_reach_0 : List (Nat × Instr × Nat) := [(0, .aload_n 0, 1), (1, .getfield 9, 3), (4, .lookupswitch 44 #[(2, 28), (4, 35)], 28), (32, .aload_n 0, 1), (33, .getfield 15, 3), (36, .iconst 2, 1), (37, .iadd, 1), (38, .ireturn, 1), (39, .aload_n 0, 1), (40, .getfield 15, 3), (43, .iconst 2, 1), (44, .iadd, 1), (45, .iconst 2, 1), (46, .idiv, 1), (47, .ireturn, 1), (48, .bipush 40, 2), (50, .ireturn, 1)]
theorem tX1_reach_0_ok : ∀ q ∈ tX1_reach_0, decode cX1_reach q.1 = .ok (q.2.1, q.2.2) := by decide +kernel
theorem pX1_reach_0 : At cX1_reach 0 (.aload_n 0) 1 1 := ⟨tX1_reach_0_ok (0, .aload_n 0, 1) (List.mem_of_getElem? (i := 0) rfl), rfl⟩
theorem pX1_reach_1 : At cX1_reach 1 (.getfield 9) 3 4 := ⟨tX1_reach_0_ok (1, .getfield 9, 3) (List.mem_of_getElem? (i := 1) rfl), rfl⟩
theorem pX1_reach_4 : decode cX1_reach 4 = .ok (.lookupswitch 44 #[(2, 28), (4, 35)], 28) := tX1_reach_0_ok (4, .lookupswitch 44 #[(2, 28), (4, 35)], 28) (List.mem_of_getElem? (i := 2) rfl)
theorem pX1_reach_32 : At cX1_reach 32 (.aload_n 0) 1 33 := ⟨tX1_reach_0_ok (32, .aload_n 0, 1) (List.mem_of_getElem? (i := 3) rfl), rfl⟩
theorem pX1_reach_33 : At cX1_reach 33 (.getfield 15) 3 36 := ⟨tX1_reach_0_ok (33, .getfield 15, 3) (List.mem_of_getElem? (i := 4) rfl), rfl⟩
theorem pX1_reach_36 : At cX1_reach 36 (.iconst 2) 1 37 := ⟨tX1_reach_0_ok (36, .iconst 2, 1) (List.mem_of_getElem? (i := 5) rfl), rfl⟩
theorem pX1_reach_37 : At cX1_reach 37 (.iadd) 1 38 := ⟨tX1_reach_0_ok (37, .iadd, 1) (List.mem_of_getElem? (i := 6) rfl), rfl⟩
theorem pX1_reach_38 : At cX1_reach 38 (.ireturn) 1 39 := ⟨tX1_reach_0_ok (38, .ireturn, 1) (List.mem_of_getElem? (i := 7) rfl), rfl⟩
theorem pX1_reach_39 : At cX1_reach 39 (.aload_n 0) 1 40 := ⟨tX1_reach_0_ok (39, .aload_n 0, 1) (List.mem_of_getElem? (i := 8) rfl), rfl⟩
theorem pX1_reach_40 : At cX1_reach 40 (.getfield 15) 3 43 := ⟨tX1_reach_0_ok (40, .getfield 15, 3) (List.mem_of_getElem? (i := 9) rfl), rfl⟩
theorem pX1_reach_43 : At cX1_reach 43 (.iconst 2) 1 44 := ⟨tX1_reach_0_ok (43, .iconst 2, 1) (List.mem_of_getElem? (i := 10) rfl), rfl⟩
theorem pX1_reach_44 : At cX1_reach 44 (.iadd) 1 45 := ⟨tX1_reach_0_ok (44, .iadd, 1) (List.mem_of_getElem? (i := 11) rfl), rfl⟩
theorem pX1_reach_45 : At cX1_reach 45 (.iconst 2) 1 46 := ⟨tX1_reach_0_ok (45, .iconst 2, 1) (List.mem_of_getElem? (i := 12) rfl), rfl⟩
theorem pX1_reach_46 : At cX1_reach 46 (.idiv) 1 47 := ⟨tX1_reach_0_ok (46, .idiv, 1) (List.mem_of_getElem? (i := 13) rfl), rfl⟩
theorem pX1_reach_47 : At cX1_reach 47 (.ireturn) 1 48 := ⟨tX1_reach_0_ok (47, .ireturn, 1) (List.mem_of_getElem? (i := 14) rfl), rfl⟩
theorem pX1_reach_48 : At cX1_reach 48 (.bipush 40) 2 50 := ⟨tX1_reach_0_ok (48, .bipush 40, 2) (List.mem_of_getElem? (i := 15) rfl), rfl⟩
theorem pX1_reach_50 : At cX1_reach 50 (.ireturn) 1 51 := ⟨tX1_reach_0_ok (50, .ireturn, 1) (List.mem_of_getElem? (i := 16) rfl), rfl⟩
def tX1_copyFrom_0 : List (Nat × Instr × Nat) := [(0, .aload_n 0, 1), (1, .aload_n 1, 1), (2, .getfield 9, 3), (5, .putfield 9, 3), (8, .aload_n 0, 1), (9, .aload_n 1, 1), (10, .getfield 15, 3), (13, .putfield 15, 3), (16, .aload_n 0, 1), (17, .aload_n 1, 1), (18, .getfield 18, 3), (21, .putfield 18, 3), (24, .aload_n 0, 1), (25, .aload_n 1, 1), (26, .getfield 21, 3), (29, .putfield 21, 3), (32, .aload_n 0, 1), (33, .aload_n 1, 1), (34, .getfield 24, 3), (37, .putfield 24, 3), (40, .return_, 1)]
theorem tX1_copyFrom_0_ok : ∀ q ∈ tX1_copyFrom_0, decode cX1_copyFrom q.1 = .ok (q.2.1, q.2.2) := by decide +kernel
theorem pX1_copyFrom_0 : At cX1_copyFrom 0 (.aload_n 0) 1 1 := ⟨tX1_copyFrom_0_ok (0, .aload_n 0, 1) (List.mem_of_getElem? (i := 0) rfl), rfl⟩
theorem pX1_copyFrom_1 : At cX1_copyFrom 1 (.aload_n 1) 1 2 := ⟨tX1_copyFrom_0_ok (1, .aload_n 1, 1) (List.mem_of_getElem? (i := 1) rfl), rfl⟩
theorem pX1_copyFrom_2 : At cX1_copyFrom 2 (.getfield 9) 3 5 := ⟨tX1_copyFrom_0_ok (2, .getfield 9, 3) (List.mem_of_getElem? (i := 2) rfl), rfl⟩
theorem pX1_copyFrom_5 : At cX1_copyFrom 5 (.putfield 9) 3 8 := ⟨tX1_copyFrom_0_ok (5, .putfield 9, 3) (List.mem_of_getElem? (i := 3) rfl), rfl⟩
theorem pX1_copyFrom_8 : At cX1_copyFrom 8 (.aload_n 0) 1 9 := ⟨tX1_copyFrom_0_ok (8, .aload_n 0, 1) (List.mem_of_getElem? (i := 4) rfl), rfl⟩
theorem pX1_copyFrom_9 : At cX1_copyFrom 9 (.aload_n 1) 1 10 := ⟨tX1_copyFrom_0_ok (9, .aload_n 1, 1) (List.mem_of_getElem? (i := 5) rfl), rfl⟩
theorem pX1_copyFrom_10 : At cX1_copyFrom 10 (.getfield 15) 3 13 := ⟨tX1_copyFrom_0_ok (10, .getfield 15, 3) (List.mem_of_getElem? (i := 6) rfl), rfl⟩
theorem pX1_copyFrom_13 : At cX1_copyFrom 13 (.putfield 15) 3 16 := ⟨tX1_copyFrom_0_ok (13, .putfield 15, 3) (List.mem_of_getElem? (i := 7) rfl), rfl⟩
theorem pX1_copyFrom_16 : At cX1_copyFrom 16 (.aload_n 0) 1 17 := ⟨tX1_copyFrom_0_ok (16, .aload_n 0, 1) (List.mem_of_getElem? (i := 8) rfl), rfl⟩
theorem pX1_copyFrom_17 : At cX1_copyFrom 17 (.aload_n 1) 1 18 := ⟨tX1_copyFrom_0_ok (17, .aload_n 1, 1) (List.mem_of_getElem? (i := 9) rfl), rfl⟩
theorem pX1_copyFrom_18 : At cX1_copyFrom 18 (.getfield 18) 3 21 := ⟨tX1_copyFrom_0_ok (18, .getfield 18, 3) (List.mem_of_getElem? (i := 10) rfl), rfl⟩
theorem pX1_copyFrom_21 : At cX1_copyFrom 21 (.putfield 18) 3 24 := ⟨tX1_copyFrom_0_ok (21, .putfield 18, 3) (List.mem_of_getElem? (i := 11) rfl), rfl⟩
theorem pX1_copyFrom_24 : At cX1_copyFrom 24 (.aload_n 0) 1 25 := ⟨tX1_copyFrom_0_ok (24, .aload_n 0, 1) (List.mem_of_getElem? (i := 12) rfl), rfl⟩
theorem pX1_copyFrom_25 : At cX1_copyFrom 25 (.aload_n 1) 1 26 := ⟨tX1_copyFrom_0_ok (25, .aload_n 1, 1) (List.mem_of_getElem? (i := 13) rfl), rfl⟩
theorem pX1_copyFrom_26 : At cX1_copyFrom 26 (.getfield 21) 3 29 := ⟨tX1_copyFrom_0_ok (26, .getfield 21, 3) (List.mem_of_getElem? (i := 14) rfl), rfl⟩
theorem pX1_copyFrom_29 : At cX1_copyFrom 29 (.putfield 21) 3 32 := ⟨tX1_copyFrom_0_ok (29, .putfield 21, 3) (List.mem_of_getElem? (i := 15) rfl), rfl⟩
theorem pX1_copyFrom_32 : At cX1_copyFrom 32 (.aload_n 0) 1 33 := ⟨tX1_copyFrom_0_ok (32, .aload_n 0, 1) (List.mem_of_getElem? (i := 16) rfl), rfl⟩
theorem pX1_copyFrom_33 : At cX1_copyFrom 33 (.aload_n 1) 1 34 := ⟨tX1_copyFrom_0_ok (33, .aload_n 1, 1) (List.mem_of_getElem? (i := 17) rfl), rfl⟩
theorem pX1_copyFrom_34 : At cX1_copyFrom 34 (.getfield 24) 3 37 := ⟨tX1_copyFrom_0_ok (34, .getfield 24, 3) (List.mem_of_getElem? (i := 18) rfl), rfl⟩
theorem pX1_copyFrom_37 : At cX1_copyFrom 37 (.putfield 24) 3 40 := ⟨tX1_copyFrom_0_ok (37, .putfield 24, 3) (List.mem_of_getElem? (i := 19) rfl), rfl⟩
theorem pX1_copyFrom_40 : At cX1_copyFrom 40 (.return_) 1 41 := ⟨tX1_copyFrom_0_ok (40, .return_, 1) (List.mem_of_getElem? (i := 20) rfl), rfl⟩
def tX1_stride_0 : List (Nat × Instr × Nat) := [(0, .aload_n 0, 1), (1, .getfield 18, 3), (4, .istore_n 2, 1), (5, .aload_n 0, 1), (6, .getfield 21, 3), (9, .istore_n 3, 1), (10, .aload_n 0, 1), (11, .getfield 21, 3), (14, .aload_n 0, 1), (15, .iload_n 1, 1), (16, .invokevirtual 31, 3), (19, .iadd, 1), (20, .istore 4, 2), (22, .iload 4, 2), (24, .ifCond .le 17, 3), (27, .iconst 0, 1), (28, .iload 4, 2), (30, .aload_n 0, 1), (31, .invokevirtual 35, 3), (34, .isub, 1), (35, .invokestatic 39, 3), (38, .goto 14, 3), (41, .iconst 0, 1), (42, .iload 4, 2), (44, .aload_n 0, 1), (45, .invokevirtual 35, 3), (48, .iadd, 1), (49, .invokestatic 45, 3), (52, .istore 5, 2), (54, .aload_n 0, 1), (55, .iload 5, 2), (57, .bipush (-9), 2), (59, .bipush 9, 2), (61, .invokestatic 27, 3), (64, .putfield 21, 3), (67, .aload_n 0, 1), (68, .getfield 18, 3), (71, .aload_n 0, 1), (72, .getfield 21, 3), (75, .iadd, 1), (76, .istore 6, 2), (78, .aload_n 0, 1), (79, .iload 6, 2), (81, .iconst 0, 1), (82, .aload_n 0, 1), (83, .getfield 24, 3), (86, .aload_n 0, 1), (87, .invokevirtual 48, 3), (90, .isub, 1), (91, .invokestatic 39, 3), (94, .bipush 40, 2), (96, .aload_n 0, 1), (97, .getfield 24, 3), (100, .aload_n 0, 1), (101, .invokevirtual 48, 3), (104, .iadd, 1), (105, .invokestatic 45, 3), (108, .invokestatic 27, 3), (111, .putfield 18, 3), (114, .aload_n 0, 1), (115, .getfield 18, 3), (118, .iload 6, 2), (120, .if_icmp .eq 8, 3), (123, .aload_n 0, 1), (124, .iconst 0, 1), (125, .putfield 21, 3), (128, .aload_n 0, 1), (129, .getfield 18, 3), (132, .iload_n 2, 1), (133, .if_icmp .ne 11, 3), (136, .aload_n 0, 1), (137, .getfield 21, 3), (140, .iload_n 3, 1), (141, .if_icmp .eq 7, 3), (144, .iconst 1, 1), (145, .goto 4, 3), (148, .iconst 0, 1), (149, .ireturn, 1)]
theorem tX1_stride_0_ok : ∀ q ∈ tX1_stride_0, decode cX1_stride q.1 = .ok (q.2.1, q.2.2) := by decide +kernel
theorem pX1_stride_0 : At cX1_stride 0 (.aload_n 0) 1 1 := ⟨tX1_stride_0_ok (0, .aload_n 0, 1) (List.mem_of_getElem? (i := 0) rfl), rfl⟩
theorem pX1_stride_1 : At cX1_stride 1 (.getfield 18) 3 4 := ⟨tX1_stride_0_ok (1, .getfield 18, 3) (List.mem_of_getElem? (i := 1) rfl), rfl⟩
theorem pX1_stride_4 : At cX1_stride 4 (.istore_n 2) 1 5 := ⟨tX1_stride_0_ok (4, .istore_n 2, 1) (List.mem_of_getElem? (i := 2) rfl), rfl⟩
theorem pX1_stride_5 : At cX1_stride 5 (.aload_n 0) 1 6 := ⟨tX1_stride_0_ok (5, .aload_n 0, 1) (List.mem_of_getElem? (i := 3) rfl), rfl⟩
theorem pX1_stride_6 : At cX1_stride 6 (.getfield 21) 3 9 := ⟨tX1_stride_0_ok (6, .getfield 21, 3) (List.mem_of_getElem? (i := 4) rfl), rfl⟩
theorem pX1_stride_9 : At cX1_stride 9 (.istore_n 3) 1 10 := ⟨tX1_stride_0_ok (9, .istore_n 3, 1) (List.mem_of_getElem? (i := 5) rfl), rfl⟩
theorem pX1_stride_10 : At cX1_stride 10 (.aload_n 0) 1 11 := ⟨tX1_stride_0_ok (10, .aload_n 0, 1) (List.mem_of_getElem? (i := 6) rfl), rfl⟩
theorem pX1_stride_11 : At cX1_stride 11 (.getfield 21) 3 14 := ⟨tX1_stride_0_ok (11, .getfield 21, 3) (List.mem_of_getElem? (i := 7) rfl), rfl⟩
theorem pX1_stride_14 : At cX1_stride 14 (.aload_n 0) 1 15 := ⟨tX1_stride_0_ok (14, .aload_n 0, 1) (List.mem_of_getElem? (i := 8) rfl), rfl⟩
theorem pX1_stride_15 : At cX1_stride 15 (.iload_n 1) 1 16 := ⟨tX1_stride_0_ok (15, .iload_n 1, 1) (List.mem_of_getElem? (i := 9) rfl), rfl⟩
theorem pX1_stride_16 : At cX1_stride 16 (.invokevirtual 31) 3 19 := ⟨tX1_stride_0_ok (16, .invokevirtual 31, 3) (List.mem_of_getElem? (i := 10) rfl), rfl⟩
theorem pX1_stride_19 : At cX1_stride 19 (.iadd) 1 20 := ⟨tX1_stride_0_ok (19, .iadd, 1) (List.mem_of_getElem? (i := 11) rfl), rfl⟩
theorem pX1_stride_20 : At cX1_stride 20 (.istore 4) 2 22 := ⟨tX1_stride_0_ok (20, .istore 4, 2) (List.mem_of_getElem? (i := 12) rfl), rfl⟩
theorem pX1_stride_22 : At cX1_stride 22 (.iload 4) 2 24 := ⟨tX1_stride_0_ok (22, .iload 4, 2) (List.mem_of_getElem? (i := 13) rfl), rfl⟩
theorem pX1_stride_24 : Bt cX1_stride 24 (.ifCond .le 17) 17 41 27 := ⟨tX1_stride_0_ok (24, .ifCond .le 17, 3) (List.mem_of_getElem? (i := 14) rfl), by decide, rfl⟩
theorem pX1_stride_27 : At cX1_stride 27 (.iconst 0) 1 28 := ⟨tX1_stride_0_ok (27, .iconst 0, 1) (List.mem_of_getElem? (i := 15) rfl), rfl⟩
theorem pX1_stride_28 : At cX1_stride 28 (.iload 4) 2 30 := ⟨tX1_stride_0_ok (28, .iload 4, 2) (List.mem_of_getElem? (i := 16) rfl), rfl⟩
theorem pX1_stride_30 : At cX1_stride 30 (.aload_n 0) 1 31 := ⟨tX1_stride_0_ok (30, .aload_n 0, 1) (List.mem_of_getElem? (i := 17) rfl), rfl⟩
theorem pX1_stride_31 : At cX1_stride 31 (.invokevirtual 35) 3 34 := ⟨tX1_stride_0_ok (31, .invokevirtual 35, 3) (List.mem_of_getElem? (i := 18) rfl), rfl⟩
theorem pX1_stride_34 : At cX1_stride 34 (.isub) 1 35 := ⟨tX1_stride_0_ok (34, .isub, 1) (List.mem_of_getElem? (i := 19) rfl), rfl⟩
theorem pX1_stride_35 : At cX1_stride 35 (.invokestatic 39) 3 38 := ⟨tX1_stride_0_ok (35, .invokestatic 39, 3) (List.mem_of_getElem? (i := 20) rfl), rfl⟩
theorem pX1_stride_38 : Bt cX1_stride 38 (.goto 14) 14 52 41 := ⟨tX1_stride_0_ok (38, .goto 14, 3) (List.mem_of_getElem? (i := 21) rfl), by decide, rfl⟩
theorem pX1_stride_41 : At cX1_stride 41 (.iconst 0) 1 42 := ⟨tX1_stride_0_ok (41, .iconst 0, 1) (List.mem_of_getElem? (i := 22) rfl), rfl⟩
theorem pX1_stride_42 : At cX1_stride 42 (.iload 4) 2 44 := ⟨tX1_stride_0_ok (42, .iload 4, 2) (List.mem_of_getElem? (i := 23) rfl), rfl⟩
theorem pX1_stride_44 : At cX1_stride 44 (.aload_n 0) 1 45 := ⟨tX1_stride_0_ok (44, .aload_n 0, 1) (List.mem_of_getElem? (i := 24) rfl), rfl⟩
theorem pX1_stride_45 : At cX1_stride 45 (.invokevirtual 35) 3 48 := ⟨tX1_stride_0_ok (45, .invokevirtual 35, 3) (List.mem_of_getElem? (i := 25) rfl), rfl⟩
theorem pX1_stride_48 : At cX1_stride 48 (.iadd) 1 49 := ⟨tX1_stride_0_ok (48, .iadd, 1) (List.mem_of_getElem? (i := 26) rfl), rfl⟩
theorem pX1_stride_49 : At cX1_stride 49 (.invokestatic 45) 3 52 := ⟨tX1_stride_0_ok (49, .invokestatic 45, 3) (List.mem_of_getElem? (i := 27) rfl), rfl⟩
theorem pX1_stride_52 : At cX1_stride 52 (.istore 5) 2 54 := ⟨tX1_stride_0_ok (52, .istore 5, 2) (List.mem_of_getElem? (i := 28) rfl), rfl⟩
theorem pX1_stride_54 : At cX1_stride 54 (.aload_n 0) 1 55 := ⟨tX1_stride_0_ok (54, .aload_n 0, 1) (List.mem_of_getElem? (i := 29) rfl), rfl⟩
theorem pX1_stride_55 : At cX1_stride 55 (.iload 5) 2 57 := ⟨tX1_stride_0_ok (55, .iload 5, 2) (List.mem_of_getElem? (i := 30) rfl), rfl⟩
theorem pX1_stride_57 : At cX1_stride 57 (.bipush (-9)) 2 59 := ⟨tX1_stride_0_ok (57, .bipush (-9), 2) (List.mem_of_getElem? (i := 31) rfl), rfl⟩
theorem pX1_stride_59 : At cX1_stride 59 (.bipush 9) 2 61 := ⟨tX1_stride_0_ok (59, .bipush 9, 2) (List.mem_of_getElem? (i := 32) rfl), rfl⟩
theorem pX1_stride_61 : At cX1_stride 61 (.invokestatic 27) 3 64 := ⟨tX1_stride_0_ok (61, .invokestatic 27, 3) (List.mem_of_getElem? (i := 33) rfl), rfl⟩
theorem pX1_stride_64 : At cX1_stride 64 (.putfield 21) 3 67 := ⟨tX1_stride_0_ok (64, .putfield 21, 3) (List.mem_of_getElem? (i := 34) rfl), rfl⟩
theorem pX1_stride_67 : At cX1_stride 67 (.aload_n 0) 1 68 := ⟨tX1_stride_0_ok (67, .aload_n 0, 1) (List.mem_of_getElem? (i := 35) rfl), rfl⟩
theorem pX1_stride_68 : At cX1_stride 68 (.getfield 18) 3 71 := ⟨tX1_stride_0_ok (68, .getfield 18, 3) (List.mem_of_getElem? (i := 36) rfl), rfl⟩
theorem pX1_stride_71 : At cX1_stride 71 (.aload_n 0) 1 72 := ⟨tX1_stride_0_ok (71, .aload_n 0, 1) (List.mem_of_getElem? (i := 37) rfl), rfl⟩
theorem pX1_stride_72 : At cX1_stride 72 (.getfield 21) 3 75 := ⟨tX1_stride_0_ok (72, .getfield 21, 3) (List.mem_of_getElem? (i := 38) rfl), rfl⟩
theorem pX1_stride_75 : At cX1_stride 75 (.iadd) 1 76 := ⟨tX1_stride_0_ok (75, .iadd, 1) (List.mem_of_getElem? (i := 39) rfl), rfl⟩
theorem pX1_stride_76 : At cX1_stride 76 (.istore 6) 2 78 := ⟨tX1_stride_0_ok (76, .istore 6, 2) (List.mem_of_getElem? (i := 40) rfl), rfl⟩
theorem pX1_stride_78 : At cX1_stride 78 (.aload_n 0) 1 79 := ⟨tX1_stride_0_ok (78, .aload_n 0, 1) (List.mem_of_getElem? (i := 41) rfl), rfl⟩
theorem pX1_stride_79 : At cX1_stride 79 (.iload 6) 2 81 := ⟨tX1_stride_0_ok (79, .iload 6, 2) (List.mem_of_getElem? (i := 42) rfl), rfl⟩
theorem pX1_stride_81 : At cX1_stride 81 (.iconst 0) 1 82 := ⟨tX1_stride_0_ok (81, .iconst 0, 1) (List.mem_of_getElem? (i := 43) rfl), rfl⟩
theorem pX1_stride_82 : At cX1_stride 82 (.aload_n 0) 1 83 := ⟨tX1_stride_0_ok (82, .aload_n 0, 1) (List.mem_of_getElem? (i := 44) rfl), rfl⟩
theorem pX1_stride_83 : At cX1_stride 83 (.getfield 24) 3 86 := ⟨tX1_stride_0_ok (83, .getfield 24, 3) (List.mem_of_getElem? (i := 45) rfl), rfl⟩
theorem pX1_stride_86 : At cX1_stride 86 (.aload_n 0) 1 87 := ⟨tX1_stride_0_ok (86, .aload_n 0, 1) (List.mem_of_getElem? (i := 46) rfl), rfl⟩
theorem pX1_stride_87 : At cX1_stride 87 (.invokevirtual 48) 3 90 := ⟨tX1_stride_0_ok (87, .invokevirtual 48, 3) (List.mem_of_getElem? (i := 47) rfl), rfl⟩
theorem pX1_stride_90 : At cX1_stride 90 (.isub) 1 91 := ⟨tX1_stride_0_ok (90, .isub, 1) (List.mem_of_getElem? (i := 48) rfl), rfl⟩
theorem pX1_stride_91 : At cX1_stride 91 (.invokestatic 39) 3 94 := ⟨tX1_stride_0_ok (91, .invokestatic 39, 3) (List.mem_of_getElem? (i := 49) rfl), rfl⟩
theorem pX1_stride_94 : At cX1_stride 94 (.bipush 40) 2 96 := ⟨tX1_stride_0_ok (94, .bipush 40, 2) (List.mem_of_getElem? (i := 50) rfl), rfl⟩
theorem pX1_stride_96 : At cX1_stride 96 (.aload_n 0) 1 97 := ⟨tX1_stride_0_ok (96, .aload_n 0, 1) (List.mem_of_getElem? (i := 51) rfl), rfl⟩
theorem pX1_stride_97 : At cX1_stride 97 (.getfield 24) 3 100 := ⟨tX1_stride_0_ok (97, .getfield 24, 3) (List.mem_of_getElem? (i := 52) rfl), rfl⟩
theorem pX1_stride_100 : At cX1_stride 100 (.aload_n 0) 1 101 := ⟨tX1_stride_0_ok (100, .aload_n 0, 1) (List.mem_of_getElem? (i := 53) rfl), rfl⟩
theorem pX1_stride_101 : At cX1_stride 101 (.invokevirtual 48) 3 104 := ⟨tX1_stride_0_ok (101, .invokevirtual 48, 3) (List.mem_of_getElem? (i := 54) rfl), rfl⟩
theorem pX1_stride_104 : At cX1_stride 104 (.iadd) 1 105 := ⟨tX1_stride_0_ok (104, .iadd, 1) (List.mem_of_getElem? (i := 55) rfl), rfl⟩
theorem pX1_stride_105 : At cX1_stride 105 (.invokestatic 45) 3 108 := ⟨tX1_stride_0_ok (105, .invokestatic 45, 3) (List.mem_of_getElem? (i := 56) rfl), rfl⟩
theorem pX1_stride_108 : At cX1_stride 108 (.invokestatic 27) 3 111 := ⟨tX1_stride_0_ok (108, .invokestatic 27, 3) (List.mem_of_getElem? (i := 57) rfl), rfl⟩
theorem pX1_stride_111 : At cX1_stride 111 (.putfield 18) 3 114 := ⟨tX1_stride_0_ok (111, .putfield 18, 3) (List.mem_of_getElem? (i := 58) rfl), rfl⟩
theorem pX1_stride_114 : At cX1_stride 114 (.aload_n 0) 1 115 := ⟨tX1_stride_0_ok (114, .aload_n 0, 1) (List.mem_of_getElem? (i := 59) rfl), rfl⟩
theorem pX1_stride_115 : At cX1_stride 115 (.getfield 18) 3 118 := ⟨tX1_stride_0_ok (115, .getfield 18, 3) (List.mem_of_getElem? (i := 60) rfl), rfl⟩
theorem pX1_stride_118 : At cX1_stride 118 (.iload 6) 2 120 := ⟨tX1_stride_0_ok (118, .iload 6, 2) (List.mem_of_getElem? (i := 61) rfl), rfl⟩
theorem pX1_stride_120 : Bt cX1_stride 120 (.if_icmp .eq 8) 8 128 123 := ⟨tX1_stride_0_ok (120, .if_icmp .eq 8, 3) (List.mem_of_getElem? (i := 62) rfl), by decide, rfl⟩
theorem pX1_stride_123 : At cX1_stride 123 (.aload_n 0) 1 124 := ⟨tX1_stride_0_ok (123, .aload_n 0, 1) (List.mem_of_getElem? (i := 63) rfl), rfl⟩
theorem pX1_stride_124 : At cX1_stride 124 (.iconst 0) 1 125 := ⟨tX1_stride_0_ok (124, .iconst 0, 1) (List.mem_of_getElem? (i := 64) rfl), rfl⟩
theorem pX1_stride_125 : At cX1_stride 125 (.putfield 21) 3 128 := ⟨tX1_stride_0_ok (125, .putfield 21, 3) (List.mem_of_getElem? (i := 65) rfl), rfl⟩
theorem pX1_stride_128 : At cX1_stride 128 (.aload_n 0) 1 129 := ⟨tX1_stride_0_ok (128, .aload_n 0, 1) (List.mem_of_getElem? (i := 66) rfl), rfl⟩
theorem pX1_stride_129 : At cX1_stride 129 (.getfield 18) 3 132 := ⟨tX1_stride_0_ok (129, .getfield 18, 3) (List.mem_of_getElem? (i := 67) rfl), rfl⟩
theorem pX1_stride_132 : At cX1_stride 132 (.iload_n 2) 1 133 := ⟨tX1_stride_0_ok (132, .iload_n 2, 1) (List.mem_of_getElem? (i := 68) rfl), rfl⟩
theorem pX1_stride_133 : Bt cX1_stride 133 (.if_icmp .ne 11) 11 144 136 := ⟨tX1_stride_0_ok (133, .if_icmp .ne 11, 3) (List.mem_of_getElem? (i := 69) rfl), by decide, rfl⟩
theorem pX1_stride_136 : At cX1_stride 136 (.aload_n 0) 1 137 := ⟨tX1_stride_0_ok (136, .aload_n 0, 1) (List.mem_of_getElem? (i := 70) rfl), rfl⟩
theorem pX1_stride_137 : At cX1_stride 137 (.getfield 21) 3 140 := ⟨tX1_stride_0_ok (137, .getfield 21, 3) (List.mem_of_getElem? (i := 71) rfl), rfl⟩
theorem pX1_stride_140 : At cX1_stride 140 (.iload_n 3) 1 141 := ⟨tX1_stride_0_ok (140, .iload_n 3, 1) (List.mem_of_getElem? (i := 72) rfl), rfl⟩
theorem pX1_stride_141 : Bt cX1_stride 141 (.if_icmp .eq 7) 7 148 144 := ⟨tX1_stride_0_ok (141, .if_icmp .eq 7, 3) (List.mem_of_getElem? (i := 73) rfl), by decide, rfl⟩
theorem pX1_stride_144 : At cX1_stride 144 (.iconst 1) 1 145 := ⟨tX1_stride_0_ok (144, .iconst 1, 1) (List.mem_of_getElem? (i := 74) rfl), rfl⟩
theorem pX1_stride_145 : Bt cX1_stride 145 (.goto 4) 4 149 148 := ⟨tX1_stride_0_ok (145, .goto 4, 3) (List.mem_of_getElem? (i := 75) rfl), by decide, rfl⟩
theorem pX1_stride_148 : At cX1_stride 148 (.iconst 0) 1 149 := ⟨tX1_stride_0_ok (148, .iconst 0, 1) (List.mem_of_getElem? (i := 76) rfl), rfl⟩
theorem pX1_stride_149 : At cX1_stride 149 (.ireturn) 1 150 := ⟨tX1_stride_0_ok (149, .ireturn, 1) (List.mem_of_getElem? (i := 77) rfl), rfl⟩
def tX7_goesOn_0 : List (Nat × Instr × Nat) := [(0, .aload_n 0, 1), (1, .getfield 12, 3), (4, .aload_n 0, 1), (5, .getfield 18, 3), (8, .aload_n 0, 1), (9, .getfield 12, 3), (12, .invokevirtual 22, 3), (15, .invokevirtual 28, 3), (18, .ireturn, 1)]
theorem tX7_goesOn_0_ok : ∀ q ∈ tX7_goesOn_0, decode cX7_goesOn q.1 = .ok (q.2.1, q.2.2) := by decide +kernel
theorem pX7_goesOn_0 : At cX7_goesOn 0 (.aload_n 0) 1 1 := ⟨tX7_goesOn_0_ok (0, .aload_n 0, 1) (List.mem_of_getElem? (i := 0) rfl), rfl⟩
theorem pX7_goesOn_1 : At cX7_goesOn 1 (.getfield 12) 3 4 := ⟨tX7_goesOn_0_ok (1, .getfield 12, 3) (List.mem_of_getElem? (i := 1) rfl), rfl⟩
theorem pX7_goesOn_4 : At cX7_goesOn 4 (.aload_n 0) 1 5 := ⟨tX7_goesOn_0_ok (4, .aload_n 0, 1) (List.mem_of_getElem? (i := 2) rfl), rfl⟩
theorem pX7_goesOn_5 : At cX7_goesOn 5 (.getfield 18) 3 8 := ⟨tX7_goesOn_0_ok (5, .getfield 18, 3) (List.mem_of_getElem? (i := 3) rfl), rfl⟩
theorem pX7_goesOn_8 : At cX7_goesOn 8 (.aload_n 0) 1 9 := ⟨tX7_goesOn_0_ok (8, .aload_n 0, 1) (List.mem_of_getElem? (i := 4) rfl), rfl⟩
theorem pX7_goesOn_9 : At cX7_goesOn 9 (.getfield 12) 3 12 := ⟨tX7_goesOn_0_ok (9, .getfield 12, 3) (List.mem_of_getElem? (i := 5) rfl), rfl⟩
theorem pX7_goesOn_12 : At cX7_goesOn 12 (.invokevirtual 22) 3 15 := ⟨tX7_goesOn_0_ok (12, .invokevirtual 22, 3) (List.mem_of_getElem? (i := 6) rfl), rfl⟩
theorem pX7_goesOn_15 : At cX7_goesOn 15 (.invokevirtual 28) 3 18 := ⟨tX7_goesOn_0_ok (15, .invokevirtual 28, 3) (List.mem_of_getElem? (i := 7) rfl), rfl⟩
theorem pX7_goesOn_18 : At cX7_goesOn 18 (.ireturn) 1 19 := ⟨tX7_goesOn_0_ok (18, .ireturn, 1) (List.mem_of_getElem? (i := 8) rfl), rfl⟩
def tX7_stays_0 : List (Nat × Instr × Nat) := [(0, .aload_n 0, 1), (1, .getfield 12, 3), (4, .aload_n 1, 1), (5, .invokevirtual 32, 3), (8, .aload_n 0, 1), (9, .invokevirtual 36, 3), (12, .ifCond .ne 7, 3), (15, .iconst 1, 1), (16, .goto 4, 3), (19, .iconst 0, 1), (20, .ireturn, 1)]
theorem tX7_stays_0_ok : ∀ q ∈ tX7_stays_0, decode cX7_stays q.1 = .ok (q.2.1, q.2.2) := by decide +kernel
theorem pX7_stays_0 : At cX7_stays 0 (.aload_n 0) 1 1 := ⟨tX7_stays_0_ok (0, .aload_n 0, 1) (List.mem_of_getElem? (i := 0) rfl), rfl⟩
theorem pX7_stays_1 : At cX7_stays 1 (.getfield 12) 3 4 := ⟨tX7_stays_0_ok (1, .getfield 12, 3) (List.mem_of_getElem? (i := 1) rfl), rfl⟩
theorem pX7_stays_4 : At cX7_stays 4 (.aload_n 1) 1 5 := ⟨tX7_stays_0_ok (4, .aload_n 1, 1) (List.mem_of_getElem? (i := 2) rfl), rfl⟩
theorem pX7_stays_5 : At cX7_stays 5 (.invokevirtual 32) 3 8 := ⟨tX7_stays_0_ok (5, .invokevirtual 32, 3) (List.mem_of_getElem? (i := 3) rfl), rfl⟩
theorem pX7_stays_8 : At cX7_stays 8 (.aload_n 0) 1 9 := ⟨tX7_stays_0_ok (8, .aload_n 0, 1) (List.mem_of_getElem? (i := 4) rfl), rfl⟩
theorem pX7_stays_9 : At cX7_stays 9 (.invokevirtual 36) 3 12 := ⟨tX7_stays_0_ok (9, .invokevirtual 36, 3) (List.mem_of_getElem? (i := 5) rfl), rfl⟩
theorem pX7_stays_12 : Bt cX7_stays 12 (.ifCond .ne 7) 7 19 15 := ⟨tX7_stays_0_ok (12, .ifCond .ne 7, 3) (List.mem_of_getElem? (i := 6) rfl), by decide, rfl⟩
theorem pX7_stays_15 : At cX7_stays 15 (.iconst 1) 1 16 := ⟨tX7_stays_0_ok (15, .iconst 1, 1) (List.mem_of_getElem? (i := 7) rfl), rfl⟩
theorem pX7_stays_16 : Bt cX7_stays 16 (.goto 4) 4 20 19 := ⟨tX7_stays_0_ok (16, .goto 4, 3) (List.mem_of_getElem? (i := 8) rfl), by decide, rfl⟩
theorem pX7_stays_19 : At cX7_stays 19 (.iconst 0) 1 20 := ⟨tX7_stays_0_ok (19, .iconst 0, 1) (List.mem_of_getElem? (i := 9) rfl), rfl⟩
theorem pX7_stays_20 : At cX7_stays 20 (.ireturn) 1 21 := ⟨tX7_stays_0_ok (20, .ireturn, 1) (List.mem_of_getElem? (i := 10) rfl), rfl⟩
def tX1_shove_0 : List (Nat × Instr × Nat) := [(0, .aload_n 0, 1), (1, .aload_n 0, 1), (2, .getfield 21, 3), (5, .iload_n 1, 1), (6, .iadd, 1), (7, .bipush (-9), 2), (9, .bipush 9, 2), (11, .invokestatic 27, 3), (14, .putfield 21, 3), (17, .return_, 1)]
theorem tX1_shove_0_ok : ∀ q ∈ tX1_shove_0, decode cX1_shove q.1 = .ok (q.2.1, q.2.2) := by decide +kernel
theorem pX1_shove_0 : At cX1_shove 0 (.aload_n 0) 1 1 := ⟨tX1_shove_0_ok (0, .aload_n 0, 1) (List.mem_of_getElem? (i := 0) rfl), rfl⟩
theorem pX1_shove_1 : At cX1_shove 1 (.aload_n 0) 1 2 := ⟨tX1_shove_0_ok (1, .aload_n 0, 1) (List.mem_of_getElem? (i := 1) rfl), rfl⟩
theorem pX1_shove_2 : At cX1_shove 2 (.getfield 21) 3 5 := ⟨tX1_shove_0_ok (2, .getfield 21, 3) (List.mem_of_getElem? (i := 2) rfl), rfl⟩
theorem pX1_shove_5 : At cX1_shove 5 (.iload_n 1) 1 6 := ⟨tX1_shove_0_ok (5, .iload_n 1, 1) (List.mem_of_getElem? (i := 3) rfl), rfl⟩
theorem pX1_shove_6 : At cX1_shove 6 (.iadd) 1 7 := ⟨tX1_shove_0_ok (6, .iadd, 1) (List.mem_of_getElem? (i := 4) rfl), rfl⟩
theorem pX1_shove_7 : At cX1_shove 7 (.bipush (-9)) 2 9 := ⟨tX1_shove_0_ok (7, .bipush (-9), 2) (List.mem_of_getElem? (i := 5) rfl), rfl⟩
theorem pX1_shove_9 : At cX1_shove 9 (.bipush 9) 2 11 := ⟨tX1_shove_0_ok (9, .bipush 9, 2) (List.mem_of_getElem? (i := 6) rfl), rfl⟩
theorem pX1_shove_11 : At cX1_shove 11 (.invokestatic 27) 3 14 := ⟨tX1_shove_0_ok (11, .invokestatic 27, 3) (List.mem_of_getElem? (i := 7) rfl), rfl⟩
theorem pX1_shove_14 : At cX1_shove 14 (.putfield 21) 3 17 := ⟨tX1_shove_0_ok (14, .putfield 21, 3) (List.mem_of_getElem? (i := 8) rfl), rfl⟩
theorem pX1_shove_17 : At cX1_shove 17 (.return_) 1 18 := ⟨tX1_shove_0_ok (17, .return_, 1) (List.mem_of_getElem? (i := 9) rfl), rfl⟩
def tX5_doorPlace_0 : List (Nat × Instr × Nat) := [(0, .iload_n 2, 1), (1, .aload_n 0, 1), (2, .getfield 15, 3), (5, .iload_n 1, 1), (6, .iaload, 1), (7, .iload_n 3, 1), (8, .imul, 1), (9, .iadd, 1), (10, .aload_n 0, 1), (11, .getfield 9, 3), (14, .invokestatic 91, 3), (17, .ireturn, 1)]
theorem tX5_doorPlace_0_ok : ∀ q ∈ tX5_doorPlace_0, decode cX5_doorPlace q.1 = .ok (q.2.1, q.2.2) := by decide +kernel
theorem pX5_doorPlace_0 : At cX5_doorPlace 0 (.iload_n 2) 1 1 := ⟨tX5_doorPlace_0_ok (0, .iload_n 2, 1) (List.mem_of_getElem? (i := 0) rfl), rfl⟩
theorem pX5_doorPlace_1 : At cX5_doorPlace 1 (.aload_n 0) 1 2 := ⟨tX5_doorPlace_0_ok (1, .aload_n 0, 1) (List.mem_of_getElem? (i := 1) rfl), rfl⟩
theorem pX5_doorPlace_2 : At cX5_doorPlace 2 (.getfield 15) 3 5 := ⟨tX5_doorPlace_0_ok (2, .getfield 15, 3) (List.mem_of_getElem? (i := 2) rfl), rfl⟩
theorem pX5_doorPlace_5 : At cX5_doorPlace 5 (.iload_n 1) 1 6 := ⟨tX5_doorPlace_0_ok (5, .iload_n 1, 1) (List.mem_of_getElem? (i := 3) rfl), rfl⟩
theorem pX5_doorPlace_6 : At cX5_doorPlace 6 (.iaload) 1 7 := ⟨tX5_doorPlace_0_ok (6, .iaload, 1) (List.mem_of_getElem? (i := 4) rfl), rfl⟩
theorem pX5_doorPlace_7 : At cX5_doorPlace 7 (.iload_n 3) 1 8 := ⟨tX5_doorPlace_0_ok (7, .iload_n 3, 1) (List.mem_of_getElem? (i := 5) rfl), rfl⟩
theorem pX5_doorPlace_8 : At cX5_doorPlace 8 (.imul) 1 9 := ⟨tX5_doorPlace_0_ok (8, .imul, 1) (List.mem_of_getElem? (i := 6) rfl), rfl⟩
theorem pX5_doorPlace_9 : At cX5_doorPlace 9 (.iadd) 1 10 := ⟨tX5_doorPlace_0_ok (9, .iadd, 1) (List.mem_of_getElem? (i := 7) rfl), rfl⟩
theorem pX5_doorPlace_10 : At cX5_doorPlace 10 (.aload_n 0) 1 11 := ⟨tX5_doorPlace_0_ok (10, .aload_n 0, 1) (List.mem_of_getElem? (i := 8) rfl), rfl⟩
theorem pX5_doorPlace_11 : At cX5_doorPlace 11 (.getfield 9) 3 14 := ⟨tX5_doorPlace_0_ok (11, .getfield 9, 3) (List.mem_of_getElem? (i := 9) rfl), rfl⟩
theorem pX5_doorPlace_14 : At cX5_doorPlace 14 (.invokestatic 91) 3 17 := ⟨tX5_doorPlace_0_ok (14, .invokestatic 91, 3) (List.mem_of_getElem? (i := 10) rfl), rfl⟩
theorem pX5_doorPlace_17 : At cX5_doorPlace 17 (.ireturn) 1 18 := ⟨tX5_doorPlace_0_ok (17, .ireturn, 1) (List.mem_of_getElem? (i := 11) rfl), rfl⟩
def tX4_isDigit_0 : List (Nat × Instr × Nat) := [(0, .iload_n 0, 1), (1, .bipush 48, 2), (3, .bipush 57, 2), (5, .invokestatic 81, 3), (8, .ireturn, 1)]
theorem tX4_isDigit_0_ok : ∀ q ∈ tX4_isDigit_0, decode cX4_isDigit q.1 = .ok (q.2.1, q.2.2) := by decide +kernel
theorem pX4_isDigit_0 : At cX4_isDigit 0 (.iload_n 0) 1 1 := ⟨tX4_isDigit_0_ok (0, .iload_n 0, 1) (List.mem_of_getElem? (i := 0) rfl), rfl⟩
theorem pX4_isDigit_1 : At cX4_isDigit 1 (.bipush 48) 2 3 := ⟨tX4_isDigit_0_ok (1, .bipush 48, 2) (List.mem_of_getElem? (i := 1) rfl), rfl⟩
theorem pX4_isDigit_3 : At cX4_isDigit 3 (.bipush 57) 2 5 := ⟨tX4_isDigit_0_ok (3, .bipush 57, 2) (List.mem_of_getElem? (i := 2) rfl), rfl⟩
theorem pX4_isDigit_5 : At cX4_isDigit 5 (.invokestatic 81) 3 8 := ⟨tX4_isDigit_0_ok (5, .invokestatic 81, 3) (List.mem_of_getElem? (i := 3) rfl), rfl⟩
theorem pX4_isDigit_8 : At cX4_isDigit 8 (.ireturn) 1 9 := ⟨tX4_isDigit_0_ok (8, .ireturn, 1) (List.mem_of_getElem? (i := 4) rfl), rfl⟩
def tX4_keep_0 : List (Nat × Instr × Nat) := [(0, .aload_n 0, 1), (1, .getfield 42, 3), (4, .bipush 50, 2), (6, .if_icmp .ge 23, 3), (9, .aload_n 0, 1), (10, .getfield 9, 3), (13, .aload_n 0, 1), (14, .getfield 42, 3), (17, .iload_n 1, 1), (18, .iastore, 1), (19, .aload_n 0, 1), (20, .dup, 1), (21, .getfield 42, 3), (24, .iconst 1, 1), (25, .iadd, 1), (26, .putfield 42, 3), (29, .return_, 1)]
theorem tX4_keep_0_ok : ∀ q ∈ tX4_keep_0, decode cX4_keep q.1 = .ok (q.2.1, q.2.2) := by decide +kernel
theorem pX4_keep_0 : At cX4_keep 0 (.aload_n 0) 1 1 := ⟨tX4_keep_0_ok (0, .aload_n 0, 1) (List.mem_of_getElem? (i := 0) rfl), rfl⟩
theorem pX4_keep_1 : At cX4_keep 1 (.getfield 42) 3 4 := ⟨tX4_keep_0_ok (1, .getfield 42, 3) (List.mem_of_getElem? (i := 1) rfl), rfl⟩
theorem pX4_keep_4 : At cX4_keep 4 (.bipush 50) 2 6 := ⟨tX4_keep_0_ok (4, .bipush 50, 2) (List.mem_of_getElem? (i := 2) rfl), rfl⟩
theorem pX4_keep_6 : Bt cX4_keep 6 (.if_icmp .ge 23) 23 29 9 := ⟨tX4_keep_0_ok (6, .if_icmp .ge 23, 3) (List.mem_of_getElem? (i := 3) rfl), by decide, rfl⟩
theorem pX4_keep_9 : At cX4_keep 9 (.aload_n 0) 1 10 := ⟨tX4_keep_0_ok (9, .aload_n 0, 1) (List.mem_of_getElem? (i := 4) rfl), rfl⟩
theorem pX4_keep_10 : At cX4_keep 10 (.getfield 9) 3 13 := ⟨tX4_keep_0_ok (10, .getfield 9, 3) (List.mem_of_getElem? (i := 5) rfl), rfl⟩
theorem pX4_keep_13 : At cX4_keep 13 (.aload_n 0) 1 14 := ⟨tX4_keep_0_ok (13, .aload_n 0, 1) (List.mem_of_getElem? (i := 6) rfl), rfl⟩
theorem pX4_keep_14 : At cX4_keep 14 (.getfield 42) 3 17 := ⟨tX4_keep_0_ok (14, .getfield 42, 3) (List.mem_of_getElem? (i := 7) rfl), rfl⟩
theorem pX4_keep_17 : At cX4_keep 17 (.iload_n 1) 1 18 := ⟨tX4_keep_0_ok (17, .iload_n 1, 1) (List.mem_of_getElem? (i := 8) rfl), rfl⟩
theorem pX4_keep_18 : At cX4_keep 18 (.iastore) 1 19 := ⟨tX4_keep_0_ok (18, .iastore, 1) (List.mem_of_getElem? (i := 9) rfl), rfl⟩
theorem pX4_keep_19 : At cX4_keep 19 (.aload_n 0) 1 20 := ⟨tX4_keep_0_ok (19, .aload_n 0, 1) (List.mem_of_getElem? (i := 10) rfl), rfl⟩
theorem pX4_keep_20 : At cX4_keep 20 (.dup) 1 21 := ⟨tX4_keep_0_ok (20, .dup, 1) (List.mem_of_getElem? (i := 11) rfl), rfl⟩
theorem pX4_keep_21 : At cX4_keep 21 (.getfield 42) 3 24 := ⟨tX4_keep_0_ok (21, .getfield 42, 3) (List.mem_of_getElem? (i := 12) rfl), rfl⟩
theorem pX4_keep_24 : At cX4_keep 24 (.iconst 1) 1 25 := ⟨tX4_keep_0_ok (24, .iconst 1, 1) (List.mem_of_getElem? (i := 13) rfl), rfl⟩
theorem pX4_keep_25 : At cX4_keep 25 (.iadd) 1 26 := ⟨tX4_keep_0_ok (25, .iadd, 1) (List.mem_of_getElem? (i := 14) rfl), rfl⟩
theorem pX4_keep_26 : At cX4_keep 26 (.putfield 42) 3 29 := ⟨tX4_keep_0_ok (26, .putfield 42, 3) (List.mem_of_getElem? (i := 15) rfl), rfl⟩
theorem pX4_keep_29 : At cX4_keep 29 (.return_) 1 30 := ⟨tX4_keep_0_ok (29, .return_, 1) (List.mem_of_getElem? (i := 16) rfl), rfl⟩
def tX4_readNumber_0 : List (Nat × Instr × Nat) := [(0, .iconst 0, 1), (1, .istore_n 1, 1), (2, .aload_n 0, 1), (3, .getfield 31, 3), (6, .aload_n 0, 1), (7, .getfield 39, 3), (10, .iconst 4, 1), (11, .iadd, 1), (12, .invokestatic 25, 3), (15, .istore_n 2, 1), (16, .aload_n 0, 1), (17, .getfield 39, 3), (20, .iload_n 2, 1), (21, .if_icmp .ge 49, 3), (24, .aload_n 0, 1), (25, .getfield 15, 3), (28, .aload_n 0, 1), (29, .getfield 39, 3), (32, .baload, 1), (33, .invokestatic 63, 3), (36, .ifCond .eq 34, 3), (39, .iload_n 1, 1), (40, .bipush 10, 2), (42, .imul, 1), (43, .aload_n 0, 1), (44, .getfield 15, 3), (47, .aload_n 0, 1), (48, .getfield 39, 3), (51, .baload, 1), (52, .iadd, 1), (53, .bipush 48, 2), (55, .isub, 1), (56, .istore_n 1, 1), (57, .aload_n 0, 1), (58, .dup, 1), (59, .getfield 39, 3), (62, .iconst 1, 1), (63, .iadd, 1), (64, .putfield 39, 3), (67, .goto (-51), 3), (70, .aload_n 0, 1), (71, .iload_n 1, 1), (72, .invokevirtual 59, 3), (75, .iconst 1, 1), (76, .ireturn, 1)]
theorem tX4_readNumber_0_ok : ∀ q ∈ tX4_readNumber_0, decode cX4_readNumber q.1 = .ok (q.2.1, q.2.2) := by decide +kernel
theorem pX4_readNumber_0 : At cX4_readNumber 0 (.iconst 0) 1 1 := ⟨tX4_readNumber_0_ok (0, .iconst 0, 1) (List.mem_of_getElem? (i := 0) rfl), rfl⟩
theorem pX4_readNumber_1 : At cX4_readNumber 1 (.istore_n 1) 1 2 := ⟨tX4_readNumber_0_ok (1, .istore_n 1, 1) (List.mem_of_getElem? (i := 1) rfl), rfl⟩
theorem pX4_readNumber_2 : At cX4_readNumber 2 (.aload_n 0) 1 3 := ⟨tX4_readNumber_0_ok (2, .aload_n 0, 1) (List.mem_of_getElem? (i := 2) rfl), rfl⟩
theorem pX4_readNumber_3 : At cX4_readNumber 3 (.getfield 31) 3 6 := ⟨tX4_readNumber_0_ok (3, .getfield 31, 3) (List.mem_of_getElem? (i := 3) rfl), rfl⟩
theorem pX4_readNumber_6 : At cX4_readNumber 6 (.aload_n 0) 1 7 := ⟨tX4_readNumber_0_ok (6, .aload_n 0, 1) (List.mem_of_getElem? (i := 4) rfl), rfl⟩
theorem pX4_readNumber_7 : At cX4_readNumber 7 (.getfield 39) 3 10 := ⟨tX4_readNumber_0_ok (7, .getfield 39, 3) (List.mem_of_getElem? (i := 5) rfl), rfl⟩
theorem pX4_readNumber_10 : At cX4_readNumber 10 (.iconst 4) 1 11 := ⟨tX4_readNumber_0_ok (10, .iconst 4, 1) (List.mem_of_getElem? (i := 6) rfl), rfl⟩
theorem pX4_readNumber_11 : At cX4_readNumber 11 (.iadd) 1 12 := ⟨tX4_readNumber_0_ok (11, .iadd, 1) (List.mem_of_getElem? (i := 7) rfl), rfl⟩
theorem pX4_readNumber_12 : At cX4_readNumber 12 (.invokestatic 25) 3 15 := ⟨tX4_readNumber_0_ok (12, .invokestatic 25, 3) (List.mem_of_getElem? (i := 8) rfl), rfl⟩
theorem pX4_readNumber_15 : At cX4_readNumber 15 (.istore_n 2) 1 16 := ⟨tX4_readNumber_0_ok (15, .istore_n 2, 1) (List.mem_of_getElem? (i := 9) rfl), rfl⟩
theorem pX4_readNumber_16 : At cX4_readNumber 16 (.aload_n 0) 1 17 := ⟨tX4_readNumber_0_ok (16, .aload_n 0, 1) (List.mem_of_getElem? (i := 10) rfl), rfl⟩
theorem pX4_readNumber_17 : At cX4_readNumber 17 (.getfield 39) 3 20 := ⟨tX4_readNumber_0_ok (17, .getfield 39, 3) (List.mem_of_getElem? (i := 11) rfl), rfl⟩
theorem pX4_readNumber_20 : At cX4_readNumber 20 (.iload_n 2) 1 21 := ⟨tX4_readNumber_0_ok (20, .iload_n 2, 1) (List.mem_of_getElem? (i := 12) rfl), rfl⟩
theorem pX4_readNumber_21 : Bt cX4_readNumber 21 (.if_icmp .ge 49) 49 70 24 := ⟨tX4_readNumber_0_ok (21, .if_icmp .ge 49, 3) (List.mem_of_getElem? (i := 13) rfl), by decide, rfl⟩
theorem pX4_readNumber_24 : At cX4_readNumber 24 (.aload_n 0) 1 25 := ⟨tX4_readNumber_0_ok (24, .aload_n 0, 1) (List.mem_of_getElem? (i := 14) rfl), rfl⟩
theorem pX4_readNumber_25 : At cX4_readNumber 25 (.getfield 15) 3 28 := ⟨tX4_readNumber_0_ok (25, .getfield 15, 3) (List.mem_of_getElem? (i := 15) rfl), rfl⟩
theorem pX4_readNumber_28 : At cX4_readNumber 28 (.aload_n 0) 1 29 := ⟨tX4_readNumber_0_ok (28, .aload_n 0, 1) (List.mem_of_getElem? (i := 16) rfl), rfl⟩
theorem pX4_readNumber_29 : At cX4_readNumber 29 (.getfield 39) 3 32 := ⟨tX4_readNumber_0_ok (29, .getfield 39, 3) (List.mem_of_getElem? (i := 17) rfl), rfl⟩
theorem pX4_readNumber_32 : At cX4_readNumber 32 (.baload) 1 33 := ⟨tX4_readNumber_0_ok (32, .baload, 1) (List.mem_of_getElem? (i := 18) rfl), rfl⟩
theorem pX4_readNumber_33 : At cX4_readNumber 33 (.invokestatic 63) 3 36 := ⟨tX4_readNumber_0_ok (33, .invokestatic 63, 3) (List.mem_of_getElem? (i := 19) rfl), rfl⟩
theorem pX4_readNumber_36 : Bt cX4_readNumber 36 (.ifCond .eq 34) 34 70 39 := ⟨tX4_readNumber_0_ok (36, .ifCond .eq 34, 3) (List.mem_of_getElem? (i := 20) rfl), by decide, rfl⟩
theorem pX4_readNumber_39 : At cX4_readNumber 39 (.iload_n 1) 1 40 := ⟨tX4_readNumber_0_ok (39, .iload_n 1, 1) (List.mem_of_getElem? (i := 21) rfl), rfl⟩
theorem pX4_readNumber_40 : At cX4_readNumber 40 (.bipush 10) 2 42 := ⟨tX4_readNumber_0_ok (40, .bipush 10, 2) (List.mem_of_getElem? (i := 22) rfl), rfl⟩
theorem pX4_readNumber_42 : At cX4_readNumber 42 (.imul) 1 43 := ⟨tX4_readNumber_0_ok (42, .imul, 1) (List.mem_of_getElem? (i := 23) rfl), rfl⟩
theorem pX4_readNumber_43 : At cX4_readNumber 43 (.aload_n 0) 1 44 := ⟨tX4_readNumber_0_ok (43, .aload_n 0, 1) (List.mem_of_getElem? (i := 24) rfl), rfl⟩
theorem pX4_readNumber_44 : At cX4_readNumber 44 (.getfield 15) 3 47 := ⟨tX4_readNumber_0_ok (44, .getfield 15, 3) (List.mem_of_getElem? (i := 25) rfl), rfl⟩
theorem pX4_readNumber_47 : At cX4_readNumber 47 (.aload_n 0) 1 48 := ⟨tX4_readNumber_0_ok (47, .aload_n 0, 1) (List.mem_of_getElem? (i := 26) rfl), rfl⟩
theorem pX4_readNumber_48 : At cX4_readNumber 48 (.getfield 39) 3 51 := ⟨tX4_readNumber_0_ok (48, .getfield 39, 3) (List.mem_of_getElem? (i := 27) rfl), rfl⟩
theorem pX4_readNumber_51 : At cX4_readNumber 51 (.baload) 1 52 := ⟨tX4_readNumber_0_ok (51, .baload, 1) (List.mem_of_getElem? (i := 28) rfl), rfl⟩
theorem pX4_readNumber_52 : At cX4_readNumber 52 (.iadd) 1 53 := ⟨tX4_readNumber_0_ok (52, .iadd, 1) (List.mem_of_getElem? (i := 29) rfl), rfl⟩
theorem pX4_readNumber_53 : At cX4_readNumber 53 (.bipush 48) 2 55 := ⟨tX4_readNumber_0_ok (53, .bipush 48, 2) (List.mem_of_getElem? (i := 30) rfl), rfl⟩
theorem pX4_readNumber_55 : At cX4_readNumber 55 (.isub) 1 56 := ⟨tX4_readNumber_0_ok (55, .isub, 1) (List.mem_of_getElem? (i := 31) rfl), rfl⟩
theorem pX4_readNumber_56 : At cX4_readNumber 56 (.istore_n 1) 1 57 := ⟨tX4_readNumber_0_ok (56, .istore_n 1, 1) (List.mem_of_getElem? (i := 32) rfl), rfl⟩
theorem pX4_readNumber_57 : At cX4_readNumber 57 (.aload_n 0) 1 58 := ⟨tX4_readNumber_0_ok (57, .aload_n 0, 1) (List.mem_of_getElem? (i := 33) rfl), rfl⟩
theorem pX4_readNumber_58 : At cX4_readNumber 58 (.dup) 1 59 := ⟨tX4_readNumber_0_ok (58, .dup, 1) (List.mem_of_getElem? (i := 34) rfl), rfl⟩
theorem pX4_readNumber_59 : At cX4_readNumber 59 (.getfield 39) 3 62 := ⟨tX4_readNumber_0_ok (59, .getfield 39, 3) (List.mem_of_getElem? (i := 35) rfl), rfl⟩
theorem pX4_readNumber_62 : At cX4_readNumber 62 (.iconst 1) 1 63 := ⟨tX4_readNumber_0_ok (62, .iconst 1, 1) (List.mem_of_getElem? (i := 36) rfl), rfl⟩
theorem pX4_readNumber_63 : At cX4_readNumber 63 (.iadd) 1 64 := ⟨tX4_readNumber_0_ok (63, .iadd, 1) (List.mem_of_getElem? (i := 37) rfl), rfl⟩
theorem pX4_readNumber_64 : At cX4_readNumber 64 (.putfield 39) 3 67 := ⟨tX4_readNumber_0_ok (64, .putfield 39, 3) (List.mem_of_getElem? (i := 38) rfl), rfl⟩
theorem pX4_readNumber_67 : Bt cX4_readNumber 67 (.goto (-51)) (-51) 16 70 := ⟨tX4_readNumber_0_ok (67, .goto (-51), 3) (List.mem_of_getElem? (i := 39) rfl), by decide, rfl⟩
theorem pX4_readNumber_70 : At cX4_readNumber 70 (.aload_n 0) 1 71 := ⟨tX4_readNumber_0_ok (70, .aload_n 0, 1) (List.mem_of_getElem? (i := 40) rfl), rfl⟩
theorem pX4_readNumber_71 : At cX4_readNumber 71 (.iload_n 1) 1 72 := ⟨tX4_readNumber_0_ok (71, .iload_n 1, 1) (List.mem_of_getElem? (i := 41) rfl), rfl⟩
theorem pX4_readNumber_72 : At cX4_readNumber 72 (.invokevirtual 59) 3 75 := ⟨tX4_readNumber_0_ok (72, .invokevirtual 59, 3) (List.mem_of_getElem? (i := 42) rfl), rfl⟩
theorem pX4_readNumber_75 : At cX4_readNumber 75 (.iconst 1) 1 76 := ⟨tX4_readNumber_0_ok (75, .iconst 1, 1) (List.mem_of_getElem? (i := 43) rfl), rfl⟩
theorem pX4_readNumber_76 : At cX4_readNumber 76 (.ireturn) 1 77 := ⟨tX4_readNumber_0_ok (76, .ireturn, 1) (List.mem_of_getElem? (i := 44) rfl), rfl⟩
def tX4_levelOf_0 : List (Nat × Instr × Nat) := [(0, .iload_n 0, 1), (1, .lookupswitch 101 #[(37, 99), (38, 93), (42, 99), (43, 97), (45, 97), (47, 99), (60, 95), (61, 95), (62, 95), (124, 91)], 91), (92, .iconst 0, 1), (93, .ireturn, 1), (94, .iconst 1, 1), (95, .ireturn, 1), (96, .iconst 2, 1), (97, .ireturn, 1), (98, .iconst 3, 1), (99, .ireturn, 1), (100, .iconst 4, 1), (101, .ireturn, 1), (102, .iconst (-1), 1), (103, .ireturn, 1)]
theorem tX4_levelOf_0_ok : ∀ q ∈ tX4_levelOf_0, decode cX4_levelOf q.1 = .ok (q.2.1, q.2.2) := by decide +kernel
theorem pX4_levelOf_0 : At cX4_levelOf 0 (.iload_n 0) 1 1 := ⟨tX4_levelOf_0_ok (0, .iload_n 0, 1) (List.mem_of_getElem? (i := 0) rfl), rfl⟩
theorem pX4_levelOf_1 : decode cX4_levelOf 1 = .ok (.lookupswitch 101 #[(37, 99), (38, 93), (42, 99), (43, 97), (45, 97), (47, 99), (60, 95), (61, 95), (62, 95), (124, 91)], 91) := tX4_levelOf_0_ok (1, .lookupswitch 101 #[(37, 99), (38, 93), (42, 99), (43, 97), (45, 97), (47, 99), (60, 95), (61, 95), (62, 95), (124, 91)], 91) (List.mem_of_getElem? (i := 1) rfl)
theorem pX4_levelOf_92 : At cX4_levelOf 92 (.iconst 0) 1 93 := ⟨tX4_levelOf_0_ok (92, .iconst 0, 1) (List.mem_of_getElem? (i := 2) rfl), rfl⟩
theorem pX4_levelOf_93 : At cX4_levelOf 93 (.ireturn) 1 94 := ⟨tX4_levelOf_0_ok (93, .ireturn, 1) (List.mem_of_getElem? (i := 3) rfl), rfl⟩
theorem pX4_levelOf_94 : At cX4_levelOf 94 (.iconst 1) 1 95 := ⟨tX4_levelOf_0_ok (94, .iconst 1, 1) (List.mem_of_getElem? (i := 4) rfl), rfl⟩
theorem pX4_levelOf_95 : At cX4_levelOf 95 (.ireturn) 1 96 := ⟨tX4_levelOf_0_ok (95, .ireturn, 1) (List.mem_of_getElem? (i := 5) rfl), rfl⟩
theorem pX4_levelOf_96 : At cX4_levelOf 96 (.iconst 2) 1 97 := ⟨tX4_levelOf_0_ok (96, .iconst 2, 1) (List.mem_of_getElem? (i := 6) rfl), rfl⟩
theorem pX4_levelOf_97 : At cX4_levelOf 97 (.ireturn) 1 98 := ⟨tX4_levelOf_0_ok (97, .ireturn, 1) (List.mem_of_getElem? (i := 7) rfl), rfl⟩
theorem pX4_levelOf_98 : At cX4_levelOf 98 (.iconst 3) 1 99 := ⟨tX4_levelOf_0_ok (98, .iconst 3, 1) (List.mem_of_getElem? (i := 8) rfl), rfl⟩
theorem pX4_levelOf_99 : At cX4_levelOf 99 (.ireturn) 1 100 := ⟨tX4_levelOf_0_ok (99, .ireturn, 1) (List.mem_of_getElem? (i := 9) rfl), rfl⟩
theorem pX4_levelOf_100 : At cX4_levelOf 100 (.iconst 4) 1 101 := ⟨tX4_levelOf_0_ok (100, .iconst 4, 1) (List.mem_of_getElem? (i := 10) rfl), rfl⟩
theorem pX4_levelOf_101 : At cX4_levelOf 101 (.ireturn) 1 102 := ⟨tX4_levelOf_0_ok (101, .ireturn, 1) (List.mem_of_getElem? (i := 11) rfl), rfl⟩
theorem pX4_levelOf_102 : At cX4_levelOf 102 (.iconst (-1)) 1 103 := ⟨tX4_levelOf_0_ok (102, .iconst (-1), 1) (List.mem_of_getElem? (i := 12) rfl), rfl⟩
theorem pX4_levelOf_103 : At cX4_levelOf 103 (.ireturn) 1 104 := ⟨tX4_levelOf_0_ok (103, .ireturn, 1) (List.mem_of_getElem? (i := 13) rfl), rfl⟩
def tX4_readJoined_0 : List (Nat × Instr × Nat) := [(0, .iload_n 1, 1), (1, .iconst 4, 1), (2, .if_icmp .le 9, 3), (5, .aload_n 0, 1), (6, .iload_n 2, 1), (7, .invokevirtual 49, 3), (10, .ireturn, 1), (11, .aload_n 0, 1), (12, .iload_n 1, 1), (13, .iconst 1, 1), (14, .iadd, 1), (15, .iload_n 2, 1), (16, .invokevirtual 45, 3), (19, .ifCond .ne 5, 3), (22, .iconst 0, 1), (23, .ireturn, 1), (24, .aload_n 0, 1), (25, .getfield 39, 3), (28, .aload_n 0, 1), (29, .getfield 31, 3), (32, .if_icmp .ge 72, 3), (35, .aload_n 0, 1), (36, .getfield 15, 3), (39, .aload_n 0, 1), (40, .getfield 39, 3), (43, .baload, 1), (44, .invokestatic 53, 3), (47, .iload_n 1, 1), (48, .if_icmp .ne 56, 3), (51, .aload_n 0, 1), (52, .getfield 15, 3), (55, .aload_n 0, 1), (56, .getfield 39, 3), (59, .baload, 1), (60, .istore_n 3, 1), (61, .aload_n 0, 1), (62, .dup, 1), (63, .getfield 39, 3), (66, .iconst 1, 1), (67, .iadd, 1), (68, .putfield 39, 3), (71, .aload_n 0, 1), (72, .iload_n 1, 1), (73, .iconst 1, 1), (74, .iadd, 1), (75, .iload_n 2, 1), (76, .invokevirtual 45, 3), (79, .ifCond .ne 5, 3), (82, .iconst 0, 1), (83, .ireturn, 1), (84, .aload_n 0, 1), (85, .sipush 20000, 3), (88, .iload_n 3, 1), (89, .iadd, 1), (90, .invokevirtual 59, 3), (93, .iload_n 1, 1), (94, .iconst 2, 1), (95, .if_icmp .ne 6, 3), (98, .goto 6, 3), (101, .goto (-77), 3), (104, .iconst 1, 1), (105, .ireturn, 1)]
theorem tX4_readJoined_0_ok : ∀ q ∈ tX4_readJoined_0, decode cX4_readJoined q.1 = .ok (q.2.1, q.2.2) := by decide +kernel
theorem pX4_readJoined_0 : At cX4_readJoined 0 (.iload_n 1) 1 1 := ⟨tX4_readJoined_0_ok (0, .iload_n 1, 1) (List.mem_of_getElem? (i := 0) rfl), rfl⟩
theorem pX4_readJoined_1 : At cX4_readJoined 1 (.iconst 4) 1 2 := ⟨tX4_readJoined_0_ok (1, .iconst 4, 1) (List.mem_of_getElem? (i := 1) rfl), rfl⟩
theorem pX4_readJoined_2 : Bt cX4_readJoined 2 (.if_icmp .le 9) 9 11 5 := ⟨tX4_readJoined_0_ok (2, .if_icmp .le 9, 3) (List.mem_of_getElem? (i := 2) rfl), by decide, rfl⟩
theorem pX4_readJoined_5 : At cX4_readJoined 5 (.aload_n 0) 1 6 := ⟨tX4_readJoined_0_ok (5, .aload_n 0, 1) (List.mem_of_getElem? (i := 3) rfl), rfl⟩
theorem pX4_readJoined_6 : At cX4_readJoined 6 (.iload_n 2) 1 7 := ⟨tX4_readJoined_0_ok (6, .iload_n 2, 1) (List.mem_of_getElem? (i := 4) rfl), rfl⟩
theorem pX4_readJoined_7 : At cX4_readJoined 7 (.invokevirtual 49) 3 10 := ⟨tX4_readJoined_0_ok (7, .invokevirtual 49, 3) (List.mem_of_getElem? (i := 5) rfl), rfl⟩
theorem pX4_readJoined_10 : At cX4_readJoined 10 (.ireturn) 1 11 := ⟨tX4_readJoined_0_ok (10, .ireturn, 1) (List.mem_of_getElem? (i := 6) rfl), rfl⟩
theorem pX4_readJoined_11 : At cX4_readJoined 11 (.aload_n 0) 1 12 := ⟨tX4_readJoined_0_ok (11, .aload_n 0, 1) (List.mem_of_getElem? (i := 7) rfl), rfl⟩
theorem pX4_readJoined_12 : At cX4_readJoined 12 (.iload_n 1) 1 13 := ⟨tX4_readJoined_0_ok (12, .iload_n 1, 1) (List.mem_of_getElem? (i := 8) rfl), rfl⟩
theorem pX4_readJoined_13 : At cX4_readJoined 13 (.iconst 1) 1 14 := ⟨tX4_readJoined_0_ok (13, .iconst 1, 1) (List.mem_of_getElem? (i := 9) rfl), rfl⟩
theorem pX4_readJoined_14 : At cX4_readJoined 14 (.iadd) 1 15 := ⟨tX4_readJoined_0_ok (14, .iadd, 1) (List.mem_of_getElem? (i := 10) rfl), rfl⟩
theorem pX4_readJoined_15 : At cX4_readJoined 15 (.iload_n 2) 1 16 := ⟨tX4_readJoined_0_ok (15, .iload_n 2, 1) (List.mem_of_getElem? (i := 11) rfl), rfl⟩
theorem pX4_readJoined_16 : At cX4_readJoined 16 (.invokevirtual 45) 3 19 := ⟨tX4_readJoined_0_ok (16, .invokevirtual 45, 3) (List.mem_of_getElem? (i := 12) rfl), rfl⟩
theorem pX4_readJoined_19 : Bt cX4_readJoined 19 (.ifCond .ne 5) 5 24 22 := ⟨tX4_readJoined_0_ok (19, .ifCond .ne 5, 3) (List.mem_of_getElem? (i := 13) rfl), by decide, rfl⟩
theorem pX4_readJoined_22 : At cX4_readJoined 22 (.iconst 0) 1 23 := ⟨tX4_readJoined_0_ok (22, .iconst 0, 1) (List.mem_of_getElem? (i := 14) rfl), rfl⟩
theorem pX4_readJoined_23 : At cX4_readJoined 23 (.ireturn) 1 24 := ⟨tX4_readJoined_0_ok (23, .ireturn, 1) (List.mem_of_getElem? (i := 15) rfl), rfl⟩
theorem pX4_readJoined_24 : At cX4_readJoined 24 (.aload_n 0) 1 25 := ⟨tX4_readJoined_0_ok (24, .aload_n 0, 1) (List.mem_of_getElem? (i := 16) rfl), rfl⟩
theorem pX4_readJoined_25 : At cX4_readJoined 25 (.getfield 39) 3 28 := ⟨tX4_readJoined_0_ok (25, .getfield 39, 3) (List.mem_of_getElem? (i := 17) rfl), rfl⟩
theorem pX4_readJoined_28 : At cX4_readJoined 28 (.aload_n 0) 1 29 := ⟨tX4_readJoined_0_ok (28, .aload_n 0, 1) (List.mem_of_getElem? (i := 18) rfl), rfl⟩
theorem pX4_readJoined_29 : At cX4_readJoined 29 (.getfield 31) 3 32 := ⟨tX4_readJoined_0_ok (29, .getfield 31, 3) (List.mem_of_getElem? (i := 19) rfl), rfl⟩
theorem pX4_readJoined_32 : Bt cX4_readJoined 32 (.if_icmp .ge 72) 72 104 35 := ⟨tX4_readJoined_0_ok (32, .if_icmp .ge 72, 3) (List.mem_of_getElem? (i := 20) rfl), by decide, rfl⟩
theorem pX4_readJoined_35 : At cX4_readJoined 35 (.aload_n 0) 1 36 := ⟨tX4_readJoined_0_ok (35, .aload_n 0, 1) (List.mem_of_getElem? (i := 21) rfl), rfl⟩
theorem pX4_readJoined_36 : At cX4_readJoined 36 (.getfield 15) 3 39 := ⟨tX4_readJoined_0_ok (36, .getfield 15, 3) (List.mem_of_getElem? (i := 22) rfl), rfl⟩
theorem pX4_readJoined_39 : At cX4_readJoined 39 (.aload_n 0) 1 40 := ⟨tX4_readJoined_0_ok (39, .aload_n 0, 1) (List.mem_of_getElem? (i := 23) rfl), rfl⟩
theorem pX4_readJoined_40 : At cX4_readJoined 40 (.getfield 39) 3 43 := ⟨tX4_readJoined_0_ok (40, .getfield 39, 3) (List.mem_of_getElem? (i := 24) rfl), rfl⟩
theorem pX4_readJoined_43 : At cX4_readJoined 43 (.baload) 1 44 := ⟨tX4_readJoined_0_ok (43, .baload, 1) (List.mem_of_getElem? (i := 25) rfl), rfl⟩
theorem pX4_readJoined_44 : At cX4_readJoined 44 (.invokestatic 53) 3 47 := ⟨tX4_readJoined_0_ok (44, .invokestatic 53, 3) (List.mem_of_getElem? (i := 26) rfl), rfl⟩
theorem pX4_readJoined_47 : At cX4_readJoined 47 (.iload_n 1) 1 48 := ⟨tX4_readJoined_0_ok (47, .iload_n 1, 1) (List.mem_of_getElem? (i := 27) rfl), rfl⟩
theorem pX4_readJoined_48 : Bt cX4_readJoined 48 (.if_icmp .ne 56) 56 104 51 := ⟨tX4_readJoined_0_ok (48, .if_icmp .ne 56, 3) (List.mem_of_getElem? (i := 28) rfl), by decide, rfl⟩
theorem pX4_readJoined_51 : At cX4_readJoined 51 (.aload_n 0) 1 52 := ⟨tX4_readJoined_0_ok (51, .aload_n 0, 1) (List.mem_of_getElem? (i := 29) rfl), rfl⟩
theorem pX4_readJoined_52 : At cX4_readJoined 52 (.getfield 15) 3 55 := ⟨tX4_readJoined_0_ok (52, .getfield 15, 3) (List.mem_of_getElem? (i := 30) rfl), rfl⟩
theorem pX4_readJoined_55 : At cX4_readJoined 55 (.aload_n 0) 1 56 := ⟨tX4_readJoined_0_ok (55, .aload_n 0, 1) (List.mem_of_getElem? (i := 31) rfl), rfl⟩
theorem pX4_readJoined_56 : At cX4_readJoined 56 (.getfield 39) 3 59 := ⟨tX4_readJoined_0_ok (56, .getfield 39, 3) (List.mem_of_getElem? (i := 32) rfl), rfl⟩
theorem pX4_readJoined_59 : At cX4_readJoined 59 (.baload) 1 60 := ⟨tX4_readJoined_0_ok (59, .baload, 1) (List.mem_of_getElem? (i := 33) rfl), rfl⟩
theorem pX4_readJoined_60 : At cX4_readJoined 60 (.istore_n 3) 1 61 := ⟨tX4_readJoined_0_ok (60, .istore_n 3, 1) (List.mem_of_getElem? (i := 34) rfl), rfl⟩
theorem pX4_readJoined_61 : At cX4_readJoined 61 (.aload_n 0) 1 62 := ⟨tX4_readJoined_0_ok (61, .aload_n 0, 1) (List.mem_of_getElem? (i := 35) rfl), rfl⟩
theorem pX4_readJoined_62 : At cX4_readJoined 62 (.dup) 1 63 := ⟨tX4_readJoined_0_ok (62, .dup, 1) (List.mem_of_getElem? (i := 36) rfl), rfl⟩
theorem pX4_readJoined_63 : At cX4_readJoined 63 (.getfield 39) 3 66 := ⟨tX4_readJoined_0_ok (63, .getfield 39, 3) (List.mem_of_getElem? (i := 37) rfl), rfl⟩
theorem pX4_readJoined_66 : At cX4_readJoined 66 (.iconst 1) 1 67 := ⟨tX4_readJoined_0_ok (66, .iconst 1, 1) (List.mem_of_getElem? (i := 38) rfl), rfl⟩
theorem pX4_readJoined_67 : At cX4_readJoined 67 (.iadd) 1 68 := ⟨tX4_readJoined_0_ok (67, .iadd, 1) (List.mem_of_getElem? (i := 39) rfl), rfl⟩
theorem pX4_readJoined_68 : At cX4_readJoined 68 (.putfield 39) 3 71 := ⟨tX4_readJoined_0_ok (68, .putfield 39, 3) (List.mem_of_getElem? (i := 40) rfl), rfl⟩
theorem pX4_readJoined_71 : At cX4_readJoined 71 (.aload_n 0) 1 72 := ⟨tX4_readJoined_0_ok (71, .aload_n 0, 1) (List.mem_of_getElem? (i := 41) rfl), rfl⟩
theorem pX4_readJoined_72 : At cX4_readJoined 72 (.iload_n 1) 1 73 := ⟨tX4_readJoined_0_ok (72, .iload_n 1, 1) (List.mem_of_getElem? (i := 42) rfl), rfl⟩
theorem pX4_readJoined_73 : At cX4_readJoined 73 (.iconst 1) 1 74 := ⟨tX4_readJoined_0_ok (73, .iconst 1, 1) (List.mem_of_getElem? (i := 43) rfl), rfl⟩
theorem pX4_readJoined_74 : At cX4_readJoined 74 (.iadd) 1 75 := ⟨tX4_readJoined_0_ok (74, .iadd, 1) (List.mem_of_getElem? (i := 44) rfl), rfl⟩
theorem pX4_readJoined_75 : At cX4_readJoined 75 (.iload_n 2) 1 76 := ⟨tX4_readJoined_0_ok (75, .iload_n 2, 1) (List.mem_of_getElem? (i := 45) rfl), rfl⟩
theorem pX4_readJoined_76 : At cX4_readJoined 76 (.invokevirtual 45) 3 79 := ⟨tX4_readJoined_0_ok (76, .invokevirtual 45, 3) (List.mem_of_getElem? (i := 46) rfl), rfl⟩
theorem pX4_readJoined_79 : Bt cX4_readJoined 79 (.ifCond .ne 5) 5 84 82 := ⟨tX4_readJoined_0_ok (79, .ifCond .ne 5, 3) (List.mem_of_getElem? (i := 47) rfl), by decide, rfl⟩
theorem pX4_readJoined_82 : At cX4_readJoined 82 (.iconst 0) 1 83 := ⟨tX4_readJoined_0_ok (82, .iconst 0, 1) (List.mem_of_getElem? (i := 48) rfl), rfl⟩
theorem pX4_readJoined_83 : At cX4_readJoined 83 (.ireturn) 1 84 := ⟨tX4_readJoined_0_ok (83, .ireturn, 1) (List.mem_of_getElem? (i := 49) rfl), rfl⟩
theorem pX4_readJoined_84 : At cX4_readJoined 84 (.aload_n 0) 1 85 := ⟨tX4_readJoined_0_ok (84, .aload_n 0, 1) (List.mem_of_getElem? (i := 50) rfl), rfl⟩
theorem pX4_readJoined_85 : At cX4_readJoined 85 (.sipush 20000) 3 88 := ⟨tX4_readJoined_0_ok (85, .sipush 20000, 3) (List.mem_of_getElem? (i := 51) rfl), rfl⟩
theorem pX4_readJoined_88 : At cX4_readJoined 88 (.iload_n 3) 1 89 := ⟨tX4_readJoined_0_ok (88, .iload_n 3, 1) (List.mem_of_getElem? (i := 52) rfl), rfl⟩
theorem pX4_readJoined_89 : At cX4_readJoined 89 (.iadd) 1 90 := ⟨tX4_readJoined_0_ok (89, .iadd, 1) (List.mem_of_getElem? (i := 53) rfl), rfl⟩
theorem pX4_readJoined_90 : At cX4_readJoined 90 (.invokevirtual 59) 3 93 := ⟨tX4_readJoined_0_ok (90, .invokevirtual 59, 3) (List.mem_of_getElem? (i := 54) rfl), rfl⟩
theorem pX4_readJoined_93 : At cX4_readJoined 93 (.iload_n 1) 1 94 := ⟨tX4_readJoined_0_ok (93, .iload_n 1, 1) (List.mem_of_getElem? (i := 55) rfl), rfl⟩
theorem pX4_readJoined_94 : At cX4_readJoined 94 (.iconst 2) 1 95 := ⟨tX4_readJoined_0_ok (94, .iconst 2, 1) (List.mem_of_getElem? (i := 56) rfl), rfl⟩
theorem pX4_readJoined_95 : Bt cX4_readJoined 95 (.if_icmp .ne 6) 6 101 98 := ⟨tX4_readJoined_0_ok (95, .if_icmp .ne 6, 3) (List.mem_of_getElem? (i := 57) rfl), by decide, rfl⟩
theorem pX4_readJoined_98 : Bt cX4_readJoined 98 (.goto 6) 6 104 101 := ⟨tX4_readJoined_0_ok (98, .goto 6, 3) (List.mem_of_getElem? (i := 58) rfl), by decide, rfl⟩
theorem pX4_readJoined_101 : Bt cX4_readJoined 101 (.goto (-77)) (-77) 24 104 := ⟨tX4_readJoined_0_ok (101, .goto (-77), 3) (List.mem_of_getElem? (i := 59) rfl), by decide, rfl⟩
theorem pX4_readJoined_104 : At cX4_readJoined 104 (.iconst 1) 1 105 := ⟨tX4_readJoined_0_ok (104, .iconst 1, 1) (List.mem_of_getElem? (i := 60) rfl), rfl⟩
theorem pX4_readJoined_105 : At cX4_readJoined 105 (.ireturn) 1 106 := ⟨tX4_readJoined_0_ok (105, .ireturn, 1) (List.mem_of_getElem? (i := 61) rfl), rfl⟩
def tX4_readPart_0 : List (Nat × Instr × Nat) := [(0, .aload_n 0, 1), (1, .getfield 39, 3), (4, .aload_n 0, 1), (5, .getfield 31, 3), (8, .if_icmp .lt 5, 3), (11, .iconst 0, 1), (12, .ireturn, 1), (13, .aload_n 0, 1), (14, .getfield 15, 3), (17, .aload_n 0, 1), (18, .getfield 39, 3), (21, .baload, 1), (22, .sipush 255, 3), (25, .iand, 1), (26, .istore_n 2, 1), (27, .iload_n 2, 1), (28, .invokestatic 63, 3), (31, .ifCond .eq 8, 3), (34, .aload_n 0, 1), (35, .invokevirtual 66, 3), (38, .ireturn, 1), (39, .aload_n 0, 1), (40, .getfield 21, 3), (43, .iload_n 2, 1), (44, .i2c, 1), (45, .invokevirtual 70, 3), (48, .istore_n 3, 1), (49, .iload_n 3, 1), (50, .ifCond .lt 24, 3), (53, .aload_n 0, 1), (54, .sipush 10000, 3), (57, .iload_n 3, 1), (58, .iadd, 1), (59, .invokevirtual 59, 3), (62, .aload_n 0, 1), (63, .dup, 1), (64, .getfield 39, 3), (67, .iconst 1, 1), (68, .iadd, 1), (69, .putfield 39, 3), (72, .iconst 1, 1), (73, .ireturn, 1), (74, .iload_n 1, 1), (75, .iconst 5, 1), (76, .if_icmp .ge 15, 3), (79, .iload_n 2, 1), (80, .bipush 33, 2), (82, .if_icmp .eq 11, 3), (85, .iload_n 2, 1), (86, .bipush 40, 2), (88, .if_icmp .eq 5, 3), (91, .iconst 0, 1), (92, .ireturn, 1), (93, .aload_n 0, 1), (94, .dup, 1), (95, .getfield 39, 3), (98, .iconst 1, 1), (99, .iadd, 1), (100, .putfield 39, 3), (103, .iload_n 2, 1), (104, .bipush 33, 2), (106, .if_icmp .ne 13, 3), (109, .aload_n 0, 1), (110, .iload_n 1, 1), (111, .iconst 1, 1), (112, .iadd, 1), (113, .invokevirtual 75, 3), (116, .goto 10, 3), (119, .aload_n 0, 1), (120, .iload_n 1, 1), (121, .iconst 1, 1), (122, .iadd, 1), (123, .invokevirtual 78, 3), (126, .ireturn, 1)]
theorem tX4_readPart_0_ok : ∀ q ∈ tX4_readPart_0, decode cX4_readPart q.1 = .ok (q.2.1, q.2.2) := by decide +kernel
theorem pX4_readPart_0 : At cX4_readPart 0 (.aload_n 0) 1 1 := ⟨tX4_readPart_0_ok (0, .aload_n 0, 1) (List.mem_of_getElem? (i := 0) rfl), rfl⟩
theorem pX4_readPart_1 : At cX4_readPart 1 (.getfield 39) 3 4 := ⟨tX4_readPart_0_ok (1, .getfield 39, 3) (List.mem_of_getElem? (i := 1) rfl), rfl⟩
theorem pX4_readPart_4 : At cX4_readPart 4 (.aload_n 0) 1 5 := ⟨tX4_readPart_0_ok (4, .aload_n 0, 1) (List.mem_of_getElem? (i := 2) rfl), rfl⟩
theorem pX4_readPart_5 : At cX4_readPart 5 (.getfield 31) 3 8 := ⟨tX4_readPart_0_ok (5, .getfield 31, 3) (List.mem_of_getElem? (i := 3) rfl), rfl⟩
theorem pX4_readPart_8 : Bt cX4_readPart 8 (.if_icmp .lt 5) 5 13 11 := ⟨tX4_readPart_0_ok (8, .if_icmp .lt 5, 3) (List.mem_of_getElem? (i := 4) rfl), by decide, rfl⟩
theorem pX4_readPart_11 : At cX4_readPart 11 (.iconst 0) 1 12 := ⟨tX4_readPart_0_ok (11, .iconst 0, 1) (List.mem_of_getElem? (i := 5) rfl), rfl⟩
theorem pX4_readPart_12 : At cX4_readPart 12 (.ireturn) 1 13 := ⟨tX4_readPart_0_ok (12, .ireturn, 1) (List.mem_of_getElem? (i := 6) rfl), rfl⟩
theorem pX4_readPart_13 : At cX4_readPart 13 (.aload_n 0) 1 14 := ⟨tX4_readPart_0_ok (13, .aload_n 0, 1) (List.mem_of_getElem? (i := 7) rfl), rfl⟩
theorem pX4_readPart_14 : At cX4_readPart 14 (.getfield 15) 3 17 := ⟨tX4_readPart_0_ok (14, .getfield 15, 3) (List.mem_of_getElem? (i := 8) rfl), rfl⟩
theorem pX4_readPart_17 : At cX4_readPart 17 (.aload_n 0) 1 18 := ⟨tX4_readPart_0_ok (17, .aload_n 0, 1) (List.mem_of_getElem? (i := 9) rfl), rfl⟩
theorem pX4_readPart_18 : At cX4_readPart 18 (.getfield 39) 3 21 := ⟨tX4_readPart_0_ok (18, .getfield 39, 3) (List.mem_of_getElem? (i := 10) rfl), rfl⟩
theorem pX4_readPart_21 : At cX4_readPart 21 (.baload) 1 22 := ⟨tX4_readPart_0_ok (21, .baload, 1) (List.mem_of_getElem? (i := 11) rfl), rfl⟩
theorem pX4_readPart_22 : At cX4_readPart 22 (.sipush 255) 3 25 := ⟨tX4_readPart_0_ok (22, .sipush 255, 3) (List.mem_of_getElem? (i := 12) rfl), rfl⟩
theorem pX4_readPart_25 : At cX4_readPart 25 (.iand) 1 26 := ⟨tX4_readPart_0_ok (25, .iand, 1) (List.mem_of_getElem? (i := 13) rfl), rfl⟩
theorem pX4_readPart_26 : At cX4_readPart 26 (.istore_n 2) 1 27 := ⟨tX4_readPart_0_ok (26, .istore_n 2, 1) (List.mem_of_getElem? (i := 14) rfl), rfl⟩
theorem pX4_readPart_27 : At cX4_readPart 27 (.iload_n 2) 1 28 := ⟨tX4_readPart_0_ok (27, .iload_n 2, 1) (List.mem_of_getElem? (i := 15) rfl), rfl⟩
theorem pX4_readPart_28 : At cX4_readPart 28 (.invokestatic 63) 3 31 := ⟨tX4_readPart_0_ok (28, .invokestatic 63, 3) (List.mem_of_getElem? (i := 16) rfl), rfl⟩
theorem pX4_readPart_31 : Bt cX4_readPart 31 (.ifCond .eq 8) 8 39 34 := ⟨tX4_readPart_0_ok (31, .ifCond .eq 8, 3) (List.mem_of_getElem? (i := 17) rfl), by decide, rfl⟩
theorem pX4_readPart_34 : At cX4_readPart 34 (.aload_n 0) 1 35 := ⟨tX4_readPart_0_ok (34, .aload_n 0, 1) (List.mem_of_getElem? (i := 18) rfl), rfl⟩
theorem pX4_readPart_35 : At cX4_readPart 35 (.invokevirtual 66) 3 38 := ⟨tX4_readPart_0_ok (35, .invokevirtual 66, 3) (List.mem_of_getElem? (i := 19) rfl), rfl⟩
theorem pX4_readPart_38 : At cX4_readPart 38 (.ireturn) 1 39 := ⟨tX4_readPart_0_ok (38, .ireturn, 1) (List.mem_of_getElem? (i := 20) rfl), rfl⟩
theorem pX4_readPart_39 : At cX4_readPart 39 (.aload_n 0) 1 40 := ⟨tX4_readPart_0_ok (39, .aload_n 0, 1) (List.mem_of_getElem? (i := 21) rfl), rfl⟩
theorem pX4_readPart_40 : At cX4_readPart 40 (.getfield 21) 3 43 := ⟨tX4_readPart_0_ok (40, .getfield 21, 3) (List.mem_of_getElem? (i := 22) rfl), rfl⟩
theorem pX4_readPart_43 : At cX4_readPart 43 (.iload_n 2) 1 44 := ⟨tX4_readPart_0_ok (43, .iload_n 2, 1) (List.mem_of_getElem? (i := 23) rfl), rfl⟩
theorem pX4_readPart_44 : At cX4_readPart 44 (.i2c) 1 45 := ⟨tX4_readPart_0_ok (44, .i2c, 1) (List.mem_of_getElem? (i := 24) rfl), rfl⟩
theorem pX4_readPart_45 : At cX4_readPart 45 (.invokevirtual 70) 3 48 := ⟨tX4_readPart_0_ok (45, .invokevirtual 70, 3) (List.mem_of_getElem? (i := 25) rfl), rfl⟩
theorem pX4_readPart_48 : At cX4_readPart 48 (.istore_n 3) 1 49 := ⟨tX4_readPart_0_ok (48, .istore_n 3, 1) (List.mem_of_getElem? (i := 26) rfl), rfl⟩
theorem pX4_readPart_49 : At cX4_readPart 49 (.iload_n 3) 1 50 := ⟨tX4_readPart_0_ok (49, .iload_n 3, 1) (List.mem_of_getElem? (i := 27) rfl), rfl⟩
theorem pX4_readPart_50 : Bt cX4_readPart 50 (.ifCond .lt 24) 24 74 53 := ⟨tX4_readPart_0_ok (50, .ifCond .lt 24, 3) (List.mem_of_getElem? (i := 28) rfl), by decide, rfl⟩
theorem pX4_readPart_53 : At cX4_readPart 53 (.aload_n 0) 1 54 := ⟨tX4_readPart_0_ok (53, .aload_n 0, 1) (List.mem_of_getElem? (i := 29) rfl), rfl⟩
theorem pX4_readPart_54 : At cX4_readPart 54 (.sipush 10000) 3 57 := ⟨tX4_readPart_0_ok (54, .sipush 10000, 3) (List.mem_of_getElem? (i := 30) rfl), rfl⟩
theorem pX4_readPart_57 : At cX4_readPart 57 (.iload_n 3) 1 58 := ⟨tX4_readPart_0_ok (57, .iload_n 3, 1) (List.mem_of_getElem? (i := 31) rfl), rfl⟩
theorem pX4_readPart_58 : At cX4_readPart 58 (.iadd) 1 59 := ⟨tX4_readPart_0_ok (58, .iadd, 1) (List.mem_of_getElem? (i := 32) rfl), rfl⟩
theorem pX4_readPart_59 : At cX4_readPart 59 (.invokevirtual 59) 3 62 := ⟨tX4_readPart_0_ok (59, .invokevirtual 59, 3) (List.mem_of_getElem? (i := 33) rfl), rfl⟩
theorem pX4_readPart_62 : At cX4_readPart 62 (.aload_n 0) 1 63 := ⟨tX4_readPart_0_ok (62, .aload_n 0, 1) (List.mem_of_getElem? (i := 34) rfl), rfl⟩
theorem pX4_readPart_63 : At cX4_readPart 63 (.dup) 1 64 := ⟨tX4_readPart_0_ok (63, .dup, 1) (List.mem_of_getElem? (i := 35) rfl), rfl⟩
theorem pX4_readPart_64 : At cX4_readPart 64 (.getfield 39) 3 67 := ⟨tX4_readPart_0_ok (64, .getfield 39, 3) (List.mem_of_getElem? (i := 36) rfl), rfl⟩
theorem pX4_readPart_67 : At cX4_readPart 67 (.iconst 1) 1 68 := ⟨tX4_readPart_0_ok (67, .iconst 1, 1) (List.mem_of_getElem? (i := 37) rfl), rfl⟩
theorem pX4_readPart_68 : At cX4_readPart 68 (.iadd) 1 69 := ⟨tX4_readPart_0_ok (68, .iadd, 1) (List.mem_of_getElem? (i := 38) rfl), rfl⟩
theorem pX4_readPart_69 : At cX4_readPart 69 (.putfield 39) 3 72 := ⟨tX4_readPart_0_ok (69, .putfield 39, 3) (List.mem_of_getElem? (i := 39) rfl), rfl⟩
theorem pX4_readPart_72 : At cX4_readPart 72 (.iconst 1) 1 73 := ⟨tX4_readPart_0_ok (72, .iconst 1, 1) (List.mem_of_getElem? (i := 40) rfl), rfl⟩
theorem pX4_readPart_73 : At cX4_readPart 73 (.ireturn) 1 74 := ⟨tX4_readPart_0_ok (73, .ireturn, 1) (List.mem_of_getElem? (i := 41) rfl), rfl⟩
theorem pX4_readPart_74 : At cX4_readPart 74 (.iload_n 1) 1 75 := ⟨tX4_readPart_0_ok (74, .iload_n 1, 1) (List.mem_of_getElem? (i := 42) rfl), rfl⟩
theorem pX4_readPart_75 : At cX4_readPart 75 (.iconst 5) 1 76 := ⟨tX4_readPart_0_ok (75, .iconst 5, 1) (List.mem_of_getElem? (i := 43) rfl), rfl⟩
theorem pX4_readPart_76 : Bt cX4_readPart 76 (.if_icmp .ge 15) 15 91 79 := ⟨tX4_readPart_0_ok (76, .if_icmp .ge 15, 3) (List.mem_of_getElem? (i := 44) rfl), by decide, rfl⟩
theorem pX4_readPart_79 : At cX4_readPart 79 (.iload_n 2) 1 80 := ⟨tX4_readPart_0_ok (79, .iload_n 2, 1) (List.mem_of_getElem? (i := 45) rfl), rfl⟩
theorem pX4_readPart_80 : At cX4_readPart 80 (.bipush 33) 2 82 := ⟨tX4_readPart_0_ok (80, .bipush 33, 2) (List.mem_of_getElem? (i := 46) rfl), rfl⟩
theorem pX4_readPart_82 : Bt cX4_readPart 82 (.if_icmp .eq 11) 11 93 85 := ⟨tX4_readPart_0_ok (82, .if_icmp .eq 11, 3) (List.mem_of_getElem? (i := 47) rfl), by decide, rfl⟩
theorem pX4_readPart_85 : At cX4_readPart 85 (.iload_n 2) 1 86 := ⟨tX4_readPart_0_ok (85, .iload_n 2, 1) (List.mem_of_getElem? (i := 48) rfl), rfl⟩
theorem pX4_readPart_86 : At cX4_readPart 86 (.bipush 40) 2 88 := ⟨tX4_readPart_0_ok (86, .bipush 40, 2) (List.mem_of_getElem? (i := 49) rfl), rfl⟩
theorem pX4_readPart_88 : Bt cX4_readPart 88 (.if_icmp .eq 5) 5 93 91 := ⟨tX4_readPart_0_ok (88, .if_icmp .eq 5, 3) (List.mem_of_getElem? (i := 50) rfl), by decide, rfl⟩
theorem pX4_readPart_91 : At cX4_readPart 91 (.iconst 0) 1 92 := ⟨tX4_readPart_0_ok (91, .iconst 0, 1) (List.mem_of_getElem? (i := 51) rfl), rfl⟩
theorem pX4_readPart_92 : At cX4_readPart 92 (.ireturn) 1 93 := ⟨tX4_readPart_0_ok (92, .ireturn, 1) (List.mem_of_getElem? (i := 52) rfl), rfl⟩
theorem pX4_readPart_93 : At cX4_readPart 93 (.aload_n 0) 1 94 := ⟨tX4_readPart_0_ok (93, .aload_n 0, 1) (List.mem_of_getElem? (i := 53) rfl), rfl⟩
theorem pX4_readPart_94 : At cX4_readPart 94 (.dup) 1 95 := ⟨tX4_readPart_0_ok (94, .dup, 1) (List.mem_of_getElem? (i := 54) rfl), rfl⟩
theorem pX4_readPart_95 : At cX4_readPart 95 (.getfield 39) 3 98 := ⟨tX4_readPart_0_ok (95, .getfield 39, 3) (List.mem_of_getElem? (i := 55) rfl), rfl⟩
theorem pX4_readPart_98 : At cX4_readPart 98 (.iconst 1) 1 99 := ⟨tX4_readPart_0_ok (98, .iconst 1, 1) (List.mem_of_getElem? (i := 56) rfl), rfl⟩
theorem pX4_readPart_99 : At cX4_readPart 99 (.iadd) 1 100 := ⟨tX4_readPart_0_ok (99, .iadd, 1) (List.mem_of_getElem? (i := 57) rfl), rfl⟩
theorem pX4_readPart_100 : At cX4_readPart 100 (.putfield 39) 3 103 := ⟨tX4_readPart_0_ok (100, .putfield 39, 3) (List.mem_of_getElem? (i := 58) rfl), rfl⟩
theorem pX4_readPart_103 : At cX4_readPart 103 (.iload_n 2) 1 104 := ⟨tX4_readPart_0_ok (103, .iload_n 2, 1) (List.mem_of_getElem? (i := 59) rfl), rfl⟩
theorem pX4_readPart_104 : At cX4_readPart 104 (.bipush 33) 2 106 := ⟨tX4_readPart_0_ok (104, .bipush 33, 2) (List.mem_of_getElem? (i := 60) rfl), rfl⟩
theorem pX4_readPart_106 : Bt cX4_readPart 106 (.if_icmp .ne 13) 13 119 109 := ⟨tX4_readPart_0_ok (106, .if_icmp .ne 13, 3) (List.mem_of_getElem? (i := 61) rfl), by decide, rfl⟩
theorem pX4_readPart_109 : At cX4_readPart 109 (.aload_n 0) 1 110 := ⟨tX4_readPart_0_ok (109, .aload_n 0, 1) (List.mem_of_getElem? (i := 62) rfl), rfl⟩
theorem pX4_readPart_110 : At cX4_readPart 110 (.iload_n 1) 1 111 := ⟨tX4_readPart_0_ok (110, .iload_n 1, 1) (List.mem_of_getElem? (i := 63) rfl), rfl⟩
theorem pX4_readPart_111 : At cX4_readPart 111 (.iconst 1) 1 112 := ⟨tX4_readPart_0_ok (111, .iconst 1, 1) (List.mem_of_getElem? (i := 64) rfl), rfl⟩
theorem pX4_readPart_112 : At cX4_readPart 112 (.iadd) 1 113 := ⟨tX4_readPart_0_ok (112, .iadd, 1) (List.mem_of_getElem? (i := 65) rfl), rfl⟩
theorem pX4_readPart_113 : At cX4_readPart 113 (.invokevirtual 75) 3 116 := ⟨tX4_readPart_0_ok (113, .invokevirtual 75, 3) (List.mem_of_getElem? (i := 66) rfl), rfl⟩
theorem pX4_readPart_116 : Bt cX4_readPart 116 (.goto 10) 10 126 119 := ⟨tX4_readPart_0_ok (116, .goto 10, 3) (List.mem_of_getElem? (i := 67) rfl), by decide, rfl⟩
theorem pX4_readPart_119 : At cX4_readPart 119 (.aload_n 0) 1 120 := ⟨tX4_readPart_0_ok (119, .aload_n 0, 1) (List.mem_of_getElem? (i := 68) rfl), rfl⟩
theorem pX4_readPart_120 : At cX4_readPart 120 (.iload_n 1) 1 121 := ⟨tX4_readPart_0_ok (120, .iload_n 1, 1) (List.mem_of_getElem? (i := 69) rfl), rfl⟩
theorem pX4_readPart_121 : At cX4_readPart 121 (.iconst 1) 1 122 := ⟨tX4_readPart_0_ok (121, .iconst 1, 1) (List.mem_of_getElem? (i := 70) rfl), rfl⟩
theorem pX4_readPart_122 : At cX4_readPart 122 (.iadd) 1 123 := ⟨tX4_readPart_0_ok (122, .iadd, 1) (List.mem_of_getElem? (i := 71) rfl), rfl⟩
theorem pX4_readPart_123 : At cX4_readPart 123 (.invokevirtual 78) 3 126 := ⟨tX4_readPart_0_ok (123, .invokevirtual 78, 3) (List.mem_of_getElem? (i := 72) rfl), rfl⟩
theorem pX4_readPart_126 : At cX4_readPart 126 (.ireturn) 1 127 := ⟨tX4_readPart_0_ok (126, .ireturn, 1) (List.mem_of_getElem? (i := 73) rfl), rfl⟩
def tX4_readNegated_0 : List (Nat × Instr × Nat) := [(0, .aload_n 0, 1), (1, .iload_n 1, 1), (2, .invokevirtual 49, 3), (5, .ifCond .ne 5, 3), (8, .iconst 0, 1), (9, .ireturn, 1), (10, .aload_n 0, 1), (11, .sipush 20033, 3), (14, .invokevirtual 59, 3), (17, .iconst 1, 1), (18, .ireturn, 1)]
theorem tX4_readNegated_0_ok : ∀ q ∈ tX4_readNegated_0, decode cX4_readNegated q.1 = .ok (q.2.1, q.2.2) := by decide +kernel
theorem pX4_readNegated_0 : At cX4_readNegated 0 (.aload_n 0) 1 1 := ⟨tX4_readNegated_0_ok (0, .aload_n 0, 1) (List.mem_of_getElem? (i := 0) rfl), rfl⟩
theorem pX4_readNegated_1 : At cX4_readNegated 1 (.iload_n 1) 1 2 := ⟨tX4_readNegated_0_ok (1, .iload_n 1, 1) (List.mem_of_getElem? (i := 1) rfl), rfl⟩
theorem pX4_readNegated_2 : At cX4_readNegated 2 (.invokevirtual 49) 3 5 := ⟨tX4_readNegated_0_ok (2, .invokevirtual 49, 3) (List.mem_of_getElem? (i := 2) rfl), rfl⟩
theorem pX4_readNegated_5 : Bt cX4_readNegated 5 (.ifCond .ne 5) 5 10 8 := ⟨tX4_readNegated_0_ok (5, .ifCond .ne 5, 3) (List.mem_of_getElem? (i := 3) rfl), by decide, rfl⟩
theorem pX4_readNegated_8 : At cX4_readNegated 8 (.iconst 0) 1 9 := ⟨tX4_readNegated_0_ok (8, .iconst 0, 1) (List.mem_of_getElem? (i := 4) rfl), rfl⟩
theorem pX4_readNegated_9 : At cX4_readNegated 9 (.ireturn) 1 10 := ⟨tX4_readNegated_0_ok (9, .ireturn, 1) (List.mem_of_getElem? (i := 5) rfl), rfl⟩
theorem pX4_readNegated_10 : At cX4_readNegated 10 (.aload_n 0) 1 11 := ⟨tX4_readNegated_0_ok (10, .aload_n 0, 1) (List.mem_of_getElem? (i := 6) rfl), rfl⟩
theorem pX4_readNegated_11 : At cX4_readNegated 11 (.sipush 20033) 3 14 := ⟨tX4_readNegated_0_ok (11, .sipush 20033, 3) (List.mem_of_getElem? (i := 7) rfl), rfl⟩
theorem pX4_readNegated_14 : At cX4_readNegated 14 (.invokevirtual 59) 3 17 := ⟨tX4_readNegated_0_ok (14, .invokevirtual 59, 3) (List.mem_of_getElem? (i := 8) rfl), rfl⟩
theorem pX4_readNegated_17 : At cX4_readNegated 17 (.iconst 1) 1 18 := ⟨tX4_readNegated_0_ok (17, .iconst 1, 1) (List.mem_of_getElem? (i := 9) rfl), rfl⟩
theorem pX4_readNegated_18 : At cX4_readNegated 18 (.ireturn) 1 19 := ⟨tX4_readNegated_0_ok (18, .ireturn, 1) (List.mem_of_getElem? (i := 10) rfl), rfl⟩
def tX4_readEnclosed_0 : List (Nat × Instr × Nat) := [(0, .aload_n 0, 1), (1, .iconst 0, 1), (2, .iload_n 1, 1), (3, .invokevirtual 45, 3), (6, .ifCond .eq 28, 3), (9, .aload_n 0, 1), (10, .getfield 39, 3), (13, .aload_n 0, 1), (14, .getfield 31, 3), (17, .if_icmp .ge 17, 3), (20, .aload_n 0, 1), (21, .getfield 15, 3), (24, .aload_n 0, 1), (25, .getfield 39, 3), (28, .baload, 1), (29, .bipush 41, 2), (31, .if_icmp .eq 5, 3), (34, .iconst 0, 1), (35, .ireturn, 1), (36, .aload_n 0, 1), (37, .dup, 1), (38, .getfield 39, 3), (41, .iconst 1, 1), (42, .iadd, 1), (43, .putfield 39, 3), (46, .iconst 1, 1), (47, .ireturn, 1)]
theorem tX4_readEnclosed_0_ok : ∀ q ∈ tX4_readEnclosed_0, decode cX4_readEnclosed q.1 = .ok (q.2.1, q.2.2) := by decide +kernel
theorem pX4_readEnclosed_0 : At cX4_readEnclosed 0 (.aload_n 0) 1 1 := ⟨tX4_readEnclosed_0_ok (0, .aload_n 0, 1) (List.mem_of_getElem? (i := 0) rfl), rfl⟩
theorem pX4_readEnclosed_1 : At cX4_readEnclosed 1 (.iconst 0) 1 2 := ⟨tX4_readEnclosed_0_ok (1, .iconst 0, 1) (List.mem_of_getElem? (i := 1) rfl), rfl⟩
theorem pX4_readEnclosed_2 : At cX4_readEnclosed 2 (.iload_n 1) 1 3 := ⟨tX4_readEnclosed_0_ok (2, .iload_n 1, 1) (List.mem_of_getElem? (i := 2) rfl), rfl⟩
theorem pX4_readEnclosed_3 : At cX4_readEnclosed 3 (.invokevirtual 45) 3 6 := ⟨tX4_readEnclosed_0_ok (3, .invokevirtual 45, 3) (List.mem_of_getElem? (i := 3) rfl), rfl⟩
theorem pX4_readEnclosed_6 : Bt cX4_readEnclosed 6 (.ifCond .eq 28) 28 34 9 := ⟨tX4_readEnclosed_0_ok (6, .ifCond .eq 28, 3) (List.mem_of_getElem? (i := 4) rfl), by decide, rfl⟩
theorem pX4_readEnclosed_9 : At cX4_readEnclosed 9 (.aload_n 0) 1 10 := ⟨tX4_readEnclosed_0_ok (9, .aload_n 0, 1) (List.mem_of_getElem? (i := 5) rfl), rfl⟩
theorem pX4_readEnclosed_10 : At cX4_readEnclosed 10 (.getfield 39) 3 13 := ⟨tX4_readEnclosed_0_ok (10, .getfield 39, 3) (List.mem_of_getElem? (i := 6) rfl), rfl⟩
theorem pX4_readEnclosed_13 : At cX4_readEnclosed 13 (.aload_n 0) 1 14 := ⟨tX4_readEnclosed_0_ok (13, .aload_n 0, 1) (List.mem_of_getElem? (i := 7) rfl), rfl⟩
theorem pX4_readEnclosed_14 : At cX4_readEnclosed 14 (.getfield 31) 3 17 := ⟨tX4_readEnclosed_0_ok (14, .getfield 31, 3) (List.mem_of_getElem? (i := 8) rfl), rfl⟩
theorem pX4_readEnclosed_17 : Bt cX4_readEnclosed 17 (.if_icmp .ge 17) 17 34 20 := ⟨tX4_readEnclosed_0_ok (17, .if_icmp .ge 17, 3) (List.mem_of_getElem? (i := 9) rfl), by decide, rfl⟩
theorem pX4_readEnclosed_20 : At cX4_readEnclosed 20 (.aload_n 0) 1 21 := ⟨tX4_readEnclosed_0_ok (20, .aload_n 0, 1) (List.mem_of_getElem? (i := 10) rfl), rfl⟩
theorem pX4_readEnclosed_21 : At cX4_readEnclosed 21 (.getfield 15) 3 24 := ⟨tX4_readEnclosed_0_ok (21, .getfield 15, 3) (List.mem_of_getElem? (i := 11) rfl), rfl⟩
theorem pX4_readEnclosed_24 : At cX4_readEnclosed 24 (.aload_n 0) 1 25 := ⟨tX4_readEnclosed_0_ok (24, .aload_n 0, 1) (List.mem_of_getElem? (i := 12) rfl), rfl⟩
theorem pX4_readEnclosed_25 : At cX4_readEnclosed 25 (.getfield 39) 3 28 := ⟨tX4_readEnclosed_0_ok (25, .getfield 39, 3) (List.mem_of_getElem? (i := 13) rfl), rfl⟩
theorem pX4_readEnclosed_28 : At cX4_readEnclosed 28 (.baload) 1 29 := ⟨tX4_readEnclosed_0_ok (28, .baload, 1) (List.mem_of_getElem? (i := 14) rfl), rfl⟩
theorem pX4_readEnclosed_29 : At cX4_readEnclosed 29 (.bipush 41) 2 31 := ⟨tX4_readEnclosed_0_ok (29, .bipush 41, 2) (List.mem_of_getElem? (i := 15) rfl), rfl⟩
theorem pX4_readEnclosed_31 : Bt cX4_readEnclosed 31 (.if_icmp .eq 5) 5 36 34 := ⟨tX4_readEnclosed_0_ok (31, .if_icmp .eq 5, 3) (List.mem_of_getElem? (i := 16) rfl), by decide, rfl⟩
theorem pX4_readEnclosed_34 : At cX4_readEnclosed 34 (.iconst 0) 1 35 := ⟨tX4_readEnclosed_0_ok (34, .iconst 0, 1) (List.mem_of_getElem? (i := 17) rfl), rfl⟩
theorem pX4_readEnclosed_35 : At cX4_readEnclosed 35 (.ireturn) 1 36 := ⟨tX4_readEnclosed_0_ok (35, .ireturn, 1) (List.mem_of_getElem? (i := 18) rfl), rfl⟩
theorem pX4_readEnclosed_36 : At cX4_readEnclosed 36 (.aload_n 0) 1 37 := ⟨tX4_readEnclosed_0_ok (36, .aload_n 0, 1) (List.mem_of_getElem? (i := 19) rfl), rfl⟩
theorem pX4_readEnclosed_37 : At cX4_readEnclosed 37 (.dup) 1 38 := ⟨tX4_readEnclosed_0_ok (37, .dup, 1) (List.mem_of_getElem? (i := 20) rfl), rfl⟩
theorem pX4_readEnclosed_38 : At cX4_readEnclosed 38 (.getfield 39) 3 41 := ⟨tX4_readEnclosed_0_ok (38, .getfield 39, 3) (List.mem_of_getElem? (i := 21) rfl), rfl⟩
theorem pX4_readEnclosed_41 : At cX4_readEnclosed 41 (.iconst 1) 1 42 := ⟨tX4_readEnclosed_0_ok (41, .iconst 1, 1) (List.mem_of_getElem? (i := 22) rfl), rfl⟩
theorem pX4_readEnclosed_42 : At cX4_readEnclosed 42 (.iadd) 1 43 := ⟨tX4_readEnclosed_0_ok (42, .iadd, 1) (List.mem_of_getElem? (i := 23) rfl), rfl⟩
theorem pX4_readEnclosed_43 : At cX4_readEnclosed 43 (.putfield 39) 3 46 := ⟨tX4_readEnclosed_0_ok (43, .putfield 39, 3) (List.mem_of_getElem? (i := 24) rfl), rfl⟩
theorem pX4_readEnclosed_46 : At cX4_readEnclosed 46 (.iconst 1) 1 47 := ⟨tX4_readEnclosed_0_ok (46, .iconst 1, 1) (List.mem_of_getElem? (i := 25) rfl), rfl⟩
theorem pX4_readEnclosed_47 : At cX4_readEnclosed 47 (.ireturn) 1 48 := ⟨tX4_readEnclosed_0_ok (47, .ireturn, 1) (List.mem_of_getElem? (i := 26) rfl), rfl⟩
def tX4_fault_0 : List (Nat × Instr × Nat) := [(0, .aload_n 0, 1), (1, .aload_n 1, 1), (2, .putfield 15, 3), (5, .aload_n 0, 1), (6, .iload_n 2, 1), (7, .aload_n 1, 1), (8, .arraylength, 1), (9, .invokestatic 25, 3), (12, .putfield 31, 3), (15, .aload_n 0, 1), (16, .iload_n 3, 1), (17, .ifCond .ne 8, 3), (20, .ldc 35, 2), (22, .goto 5, 3), (25, .ldc 37, 2), (27, .putfield 21, 3), (30, .aload_n 0, 1), (31, .iconst 0, 1), (32, .putfield 39, 3), (35, .aload_n 0, 1), (36, .iconst 0, 1), (37, .putfield 42, 3), (40, .aload_n 0, 1), (41, .iconst 0, 1), (42, .iconst 0, 1), (43, .invokevirtual 45, 3), (46, .ifCond .eq 18, 3), (49, .aload_n 0, 1), (50, .getfield 39, 3), (53, .aload_n 0, 1), (54, .getfield 31, 3), (57, .if_icmp .ne 7, 3), (60, .iconst (-1), 1), (61, .goto 7, 3), (64, .aload_n 0, 1), (65, .getfield 39, 3), (68, .ireturn, 1)]
theorem tX4_fault_0_ok : ∀ q ∈ tX4_fault_0, decode cX4_fault q.1 = .ok (q.2.1, q.2.2) := by decide +kernel
theorem pX4_fault_0 : At cX4_fault 0 (.aload_n 0) 1 1 := ⟨tX4_fault_0_ok (0, .aload_n 0, 1) (List.mem_of_getElem? (i := 0) rfl), rfl⟩
theorem pX4_fault_1 : At cX4_fault 1 (.aload_n 1) 1 2 := ⟨tX4_fault_0_ok (1, .aload_n 1, 1) (List.mem_of_getElem? (i := 1) rfl), rfl⟩
theorem pX4_fault_2 : At cX4_fault 2 (.putfield 15) 3 5 := ⟨tX4_fault_0_ok (2, .putfield 15, 3) (List.mem_of_getElem? (i := 2) rfl), rfl⟩
theorem pX4_fault_5 : At cX4_fault 5 (.aload_n 0) 1 6 := ⟨tX4_fault_0_ok (5, .aload_n 0, 1) (List.mem_of_getElem? (i := 3) rfl), rfl⟩
theorem pX4_fault_6 : At cX4_fault 6 (.iload_n 2) 1 7 := ⟨tX4_fault_0_ok (6, .iload_n 2, 1) (List.mem_of_getElem? (i := 4) rfl), rfl⟩
theorem pX4_fault_7 : At cX4_fault 7 (.aload_n 1) 1 8 := ⟨tX4_fault_0_ok (7, .aload_n 1, 1) (List.mem_of_getElem? (i := 5) rfl), rfl⟩
theorem pX4_fault_8 : At cX4_fault 8 (.arraylength) 1 9 := ⟨tX4_fault_0_ok (8, .arraylength, 1) (List.mem_of_getElem? (i := 6) rfl), rfl⟩
theorem pX4_fault_9 : At cX4_fault 9 (.invokestatic 25) 3 12 := ⟨tX4_fault_0_ok (9, .invokestatic 25, 3) (List.mem_of_getElem? (i := 7) rfl), rfl⟩
theorem pX4_fault_12 : At cX4_fault 12 (.putfield 31) 3 15 := ⟨tX4_fault_0_ok (12, .putfield 31, 3) (List.mem_of_getElem? (i := 8) rfl), rfl⟩
theorem pX4_fault_15 : At cX4_fault 15 (.aload_n 0) 1 16 := ⟨tX4_fault_0_ok (15, .aload_n 0, 1) (List.mem_of_getElem? (i := 9) rfl), rfl⟩
theorem pX4_fault_16 : At cX4_fault 16 (.iload_n 3) 1 17 := ⟨tX4_fault_0_ok (16, .iload_n 3, 1) (List.mem_of_getElem? (i := 10) rfl), rfl⟩
theorem pX4_fault_17 : Bt cX4_fault 17 (.ifCond .ne 8) 8 25 20 := ⟨tX4_fault_0_ok (17, .ifCond .ne 8, 3) (List.mem_of_getElem? (i := 11) rfl), by decide, rfl⟩
theorem pX4_fault_20 : At cX4_fault 20 (.ldc 35) 2 22 := ⟨tX4_fault_0_ok (20, .ldc 35, 2) (List.mem_of_getElem? (i := 12) rfl), rfl⟩
theorem pX4_fault_22 : Bt cX4_fault 22 (.goto 5) 5 27 25 := ⟨tX4_fault_0_ok (22, .goto 5, 3) (List.mem_of_getElem? (i := 13) rfl), by decide, rfl⟩
theorem pX4_fault_25 : At cX4_fault 25 (.ldc 37) 2 27 := ⟨tX4_fault_0_ok (25, .ldc 37, 2) (List.mem_of_getElem? (i := 14) rfl), rfl⟩
theorem pX4_fault_27 : At cX4_fault 27 (.putfield 21) 3 30 := ⟨tX4_fault_0_ok (27, .putfield 21, 3) (List.mem_of_getElem? (i := 15) rfl), rfl⟩
theorem pX4_fault_30 : At cX4_fault 30 (.aload_n 0) 1 31 := ⟨tX4_fault_0_ok (30, .aload_n 0, 1) (List.mem_of_getElem? (i := 16) rfl), rfl⟩
theorem pX4_fault_31 : At cX4_fault 31 (.iconst 0) 1 32 := ⟨tX4_fault_0_ok (31, .iconst 0, 1) (List.mem_of_getElem? (i := 17) rfl), rfl⟩
theorem pX4_fault_32 : At cX4_fault 32 (.putfield 39) 3 35 := ⟨tX4_fault_0_ok (32, .putfield 39, 3) (List.mem_of_getElem? (i := 18) rfl), rfl⟩
theorem pX4_fault_35 : At cX4_fault 35 (.aload_n 0) 1 36 := ⟨tX4_fault_0_ok (35, .aload_n 0, 1) (List.mem_of_getElem? (i := 19) rfl), rfl⟩
theorem pX4_fault_36 : At cX4_fault 36 (.iconst 0) 1 37 := ⟨tX4_fault_0_ok (36, .iconst 0, 1) (List.mem_of_getElem? (i := 20) rfl), rfl⟩
theorem pX4_fault_37 : At cX4_fault 37 (.putfield 42) 3 40 := ⟨tX4_fault_0_ok (37, .putfield 42, 3) (List.mem_of_getElem? (i := 21) rfl), rfl⟩
theorem pX4_fault_40 : At cX4_fault 40 (.aload_n 0) 1 41 := ⟨tX4_fault_0_ok (40, .aload_n 0, 1) (List.mem_of_getElem? (i := 22) rfl), rfl⟩
theorem pX4_fault_41 : At cX4_fault 41 (.iconst 0) 1 42 := ⟨tX4_fault_0_ok (41, .iconst 0, 1) (List.mem_of_getElem? (i := 23) rfl), rfl⟩
theorem pX4_fault_42 : At cX4_fault 42 (.iconst 0) 1 43 := ⟨tX4_fault_0_ok (42, .iconst 0, 1) (List.mem_of_getElem? (i := 24) rfl), rfl⟩
theorem pX4_fault_43 : At cX4_fault 43 (.invokevirtual 45) 3 46 := ⟨tX4_fault_0_ok (43, .invokevirtual 45, 3) (List.mem_of_getElem? (i := 25) rfl), rfl⟩
theorem pX4_fault_46 : Bt cX4_fault 46 (.ifCond .eq 18) 18 64 49 := ⟨tX4_fault_0_ok (46, .ifCond .eq 18, 3) (List.mem_of_getElem? (i := 26) rfl), by decide, rfl⟩
theorem pX4_fault_49 : At cX4_fault 49 (.aload_n 0) 1 50 := ⟨tX4_fault_0_ok (49, .aload_n 0, 1) (List.mem_of_getElem? (i := 27) rfl), rfl⟩
theorem pX4_fault_50 : At cX4_fault 50 (.getfield 39) 3 53 := ⟨tX4_fault_0_ok (50, .getfield 39, 3) (List.mem_of_getElem? (i := 28) rfl), rfl⟩
theorem pX4_fault_53 : At cX4_fault 53 (.aload_n 0) 1 54 := ⟨tX4_fault_0_ok (53, .aload_n 0, 1) (List.mem_of_getElem? (i := 29) rfl), rfl⟩
theorem pX4_fault_54 : At cX4_fault 54 (.getfield 31) 3 57 := ⟨tX4_fault_0_ok (54, .getfield 31, 3) (List.mem_of_getElem? (i := 30) rfl), rfl⟩
theorem pX4_fault_57 : Bt cX4_fault 57 (.if_icmp .ne 7) 7 64 60 := ⟨tX4_fault_0_ok (57, .if_icmp .ne 7, 3) (List.mem_of_getElem? (i := 31) rfl), by decide, rfl⟩
theorem pX4_fault_60 : At cX4_fault 60 (.iconst (-1)) 1 61 := ⟨tX4_fault_0_ok (60, .iconst (-1), 1) (List.mem_of_getElem? (i := 32) rfl), rfl⟩
theorem pX4_fault_61 : Bt cX4_fault 61 (.goto 7) 7 68 64 := ⟨tX4_fault_0_ok (61, .goto 7, 3) (List.mem_of_getElem? (i := 33) rfl), by decide, rfl⟩
theorem pX4_fault_64 : At cX4_fault 64 (.aload_n 0) 1 65 := ⟨tX4_fault_0_ok (64, .aload_n 0, 1) (List.mem_of_getElem? (i := 34) rfl), rfl⟩
theorem pX4_fault_65 : At cX4_fault 65 (.getfield 39) 3 68 := ⟨tX4_fault_0_ok (65, .getfield 39, 3) (List.mem_of_getElem? (i := 35) rfl), rfl⟩
theorem pX4_fault_68 : At cX4_fault 68 (.ireturn) 1 69 := ⟨tX4_fault_0_ok (68, .ireturn, 1) (List.mem_of_getElem? (i := 36) rfl), rfl⟩
def tX5_lawOf_0 : List (Nat × Instr × Nat) := [(0, .iload_n 1, 1), (1, .ifCond .ne 10, 3), (4, .aload_n 0, 1), (5, .getfield 34, 3), (8, .goto 7, 3), (11, .aload_n 0, 1), (12, .getfield 38, 3), (15, .areturn, 1)]
theorem tX5_lawOf_0_ok : ∀ q ∈ tX5_lawOf_0, decode cX5_lawOf q.1 = .ok (q.2.1, q.2.2) := by decide +kernel
theorem pX5_lawOf_0 : At cX5_lawOf 0 (.iload_n 1) 1 1 := ⟨tX5_lawOf_0_ok (0, .iload_n 1, 1) (List.mem_of_getElem? (i := 0) rfl), rfl⟩
theorem pX5_lawOf_1 : Bt cX5_lawOf 1 (.ifCond .ne 10) 10 11 4 := ⟨tX5_lawOf_0_ok (1, .ifCond .ne 10, 3) (List.mem_of_getElem? (i := 1) rfl), by decide, rfl⟩
theorem pX5_lawOf_4 : At cX5_lawOf 4 (.aload_n 0) 1 5 := ⟨tX5_lawOf_0_ok (4, .aload_n 0, 1) (List.mem_of_getElem? (i := 2) rfl), rfl⟩
theorem pX5_lawOf_5 : At cX5_lawOf 5 (.getfield 34) 3 8 := ⟨tX5_lawOf_0_ok (5, .getfield 34, 3) (List.mem_of_getElem? (i := 3) rfl), rfl⟩
theorem pX5_lawOf_8 : Bt cX5_lawOf 8 (.goto 7) 7 15 11 := ⟨tX5_lawOf_0_ok (8, .goto 7, 3) (List.mem_of_getElem? (i := 4) rfl), by decide, rfl⟩
theorem pX5_lawOf_11 : At cX5_lawOf 11 (.aload_n 0) 1 12 := ⟨tX5_lawOf_0_ok (11, .aload_n 0, 1) (List.mem_of_getElem? (i := 5) rfl), rfl⟩
theorem pX5_lawOf_12 : At cX5_lawOf 12 (.getfield 38) 3 15 := ⟨tX5_lawOf_0_ok (12, .getfield 38, 3) (List.mem_of_getElem? (i := 6) rfl), rfl⟩
theorem pX5_lawOf_15 : At cX5_lawOf 15 (.areturn) 1 16 := ⟨tX5_lawOf_0_ok (15, .areturn, 1) (List.mem_of_getElem? (i := 7) rfl), rfl⟩
def tX2_hold_0 : List (Nat × Instr × Nat) := [(0, .aload_n 0, 1), (1, .iload_n 2, 1), (2, .iconst 0, 1), (3, .bipush 50, 2), (5, .invokestatic 22, 3), (8, .putfield 26, 3), (11, .aload_n 1, 1), (12, .iconst 0, 1), (13, .aload_n 0, 1), (14, .getfield 9, 3), (17, .iconst 0, 1), (18, .aload_n 0, 1), (19, .getfield 26, 3), (22, .invokestatic 29, 3), (25, .return_, 1)]
theorem tX2_hold_0_ok : ∀ q ∈ tX2_hold_0, decode cX2_hold q.1 = .ok (q.2.1, q.2.2) := by decide +kernel
theorem pX2_hold_0 : At cX2_hold 0 (.aload_n 0) 1 1 := ⟨tX2_hold_0_ok (0, .aload_n 0, 1) (List.mem_of_getElem? (i := 0) rfl), rfl⟩
theorem pX2_hold_1 : At cX2_hold 1 (.iload_n 2) 1 2 := ⟨tX2_hold_0_ok (1, .iload_n 2, 1) (List.mem_of_getElem? (i := 1) rfl), rfl⟩
theorem pX2_hold_2 : At cX2_hold 2 (.iconst 0) 1 3 := ⟨tX2_hold_0_ok (2, .iconst 0, 1) (List.mem_of_getElem? (i := 2) rfl), rfl⟩
theorem pX2_hold_3 : At cX2_hold 3 (.bipush 50) 2 5 := ⟨tX2_hold_0_ok (3, .bipush 50, 2) (List.mem_of_getElem? (i := 3) rfl), rfl⟩
theorem pX2_hold_5 : At cX2_hold 5 (.invokestatic 22) 3 8 := ⟨tX2_hold_0_ok (5, .invokestatic 22, 3) (List.mem_of_getElem? (i := 4) rfl), rfl⟩
theorem pX2_hold_8 : At cX2_hold 8 (.putfield 26) 3 11 := ⟨tX2_hold_0_ok (8, .putfield 26, 3) (List.mem_of_getElem? (i := 5) rfl), rfl⟩
theorem pX2_hold_11 : At cX2_hold 11 (.aload_n 1) 1 12 := ⟨tX2_hold_0_ok (11, .aload_n 1, 1) (List.mem_of_getElem? (i := 6) rfl), rfl⟩
theorem pX2_hold_12 : At cX2_hold 12 (.iconst 0) 1 13 := ⟨tX2_hold_0_ok (12, .iconst 0, 1) (List.mem_of_getElem? (i := 7) rfl), rfl⟩
theorem pX2_hold_13 : At cX2_hold 13 (.aload_n 0) 1 14 := ⟨tX2_hold_0_ok (13, .aload_n 0, 1) (List.mem_of_getElem? (i := 8) rfl), rfl⟩
theorem pX2_hold_14 : At cX2_hold 14 (.getfield 9) 3 17 := ⟨tX2_hold_0_ok (14, .getfield 9, 3) (List.mem_of_getElem? (i := 9) rfl), rfl⟩
theorem pX2_hold_17 : At cX2_hold 17 (.iconst 0) 1 18 := ⟨tX2_hold_0_ok (17, .iconst 0, 1) (List.mem_of_getElem? (i := 10) rfl), rfl⟩
theorem pX2_hold_18 : At cX2_hold 18 (.aload_n 0) 1 19 := ⟨tX2_hold_0_ok (18, .aload_n 0, 1) (List.mem_of_getElem? (i := 11) rfl), rfl⟩
theorem pX2_hold_19 : At cX2_hold 19 (.getfield 26) 3 22 := ⟨tX2_hold_0_ok (19, .getfield 26, 3) (List.mem_of_getElem? (i := 12) rfl), rfl⟩
theorem pX2_hold_22 : At cX2_hold 22 (.invokestatic 29) 3 25 := ⟨tX2_hold_0_ok (22, .invokestatic 29, 3) (List.mem_of_getElem? (i := 13) rfl), rfl⟩
theorem pX2_hold_25 : At cX2_hold 25 (.return_) 1 26 := ⟨tX2_hold_0_ok (25, .return_, 1) (List.mem_of_getElem? (i := 14) rfl), rfl⟩
def tX5_forgetPulls_0 : List (Nat × Instr × Nat) := [(0, .aload_n 0, 1), (1, .getfield 41, 3), (4, .bipush 100, 2), (6, .invokestatic 69, 3), (9, .return_, 1)]
theorem tX5_forgetPulls_0_ok : ∀ q ∈ tX5_forgetPulls_0, decode cX5_forgetPulls q.1 = .ok (q.2.1, q.2.2) := by decide +kernel
theorem pX5_forgetPulls_0 : At cX5_forgetPulls 0 (.aload_n 0) 1 1 := ⟨tX5_forgetPulls_0_ok (0, .aload_n 0, 1) (List.mem_of_getElem? (i := 0) rfl), rfl⟩
theorem pX5_forgetPulls_1 : At cX5_forgetPulls 1 (.getfield 41) 3 4 := ⟨tX5_forgetPulls_0_ok (1, .getfield 41, 3) (List.mem_of_getElem? (i := 1) rfl), rfl⟩
theorem pX5_forgetPulls_4 : At cX5_forgetPulls 4 (.bipush 100) 2 6 := ⟨tX5_forgetPulls_0_ok (4, .bipush 100, 2) (List.mem_of_getElem? (i := 2) rfl), rfl⟩
theorem pX5_forgetPulls_6 : At cX5_forgetPulls 6 (.invokestatic 69) 3 9 := ⟨tX5_forgetPulls_0_ok (6, .invokestatic 69, 3) (List.mem_of_getElem? (i := 3) rfl), rfl⟩
theorem pX5_forgetPulls_9 : At cX5_forgetPulls 9 (.return_) 1 10 := ⟨tX5_forgetPulls_0_ok (9, .return_, 1) (List.mem_of_getElem? (i := 4) rfl), rfl⟩
def tX0_goOn_0 : List (Nat × Instr × Nat) := [(0, .iconst 0, 1), (1, .istore_n 2, 1), (2, .iload_n 2, 1), (3, .aload_n 0, 1), (4, .getfield 18, 3), (7, .if_icmp .ge 104, 3), (10, .aload_n 0, 1), (11, .getfield 11, 3), (14, .iload_n 2, 1), (15, .aaload, 1), (16, .astore_n 3, 1), (17, .aload_n 3, 1), (18, .getfield 32, 3), (21, .istore 4, 2), (23, .aload_n 3, 1), (24, .aload_n 1, 1), (25, .aload_n 3, 1), (26, .invokevirtual 35, 3), (29, .invokevirtual 41, 3), (32, .pop, 1), (33, .aload_n 3, 1), (34, .getfield 32, 3), (37, .iload 4, 2), (39, .if_icmp .eq 66, 3), (42, .aload_n 3, 1), (43, .getfield 32, 3), (46, .ifCond .eq 12, 3), (49, .aload_n 3, 1), (50, .getfield 32, 3), (53, .bipush 40, 2), (55, .if_icmp .ne 50, 3), (58, .aload_n 1, 1), (59, .getfield 45, 3), (62, .aload_n 3, 1), (63, .getfield 32, 3), (66, .ifCond .ne 7, 3), (69, .iconst 0, 1), (70, .goto 4, 3), (73, .iconst 1, 1), (74, .aload_n 3, 1), (75, .invokevirtual 49, 3), (78, .aload_n 0, 1), (79, .getfield 22, 3), (82, .invokevirtual 53, 3), (85, .istore 5, 2), (87, .aload_n 0, 1), (88, .aload_n 0, 1), (89, .getfield 25, 3), (92, .iload 5, 2), (94, .iadd, 1), (95, .ldc 59, 2), (97, .ldc 60, 2), (99, .invokestatic 61, 3), (102, .putfield 25, 3), (105, .iinc 2 1, 3), (108, .goto (-106), 3), (111, .aload_n 0, 1), (112, .dup, 1), (113, .getfield 22, 3), (116, .iconst 1, 1), (117, .iadd, 1), (118, .putfield 22, 3), (121, .return_, 1)]
theorem tX0_goOn_0_ok : ∀ q ∈ tX0_goOn_0, decode cX0_goOn q.1 = .ok (q.2.1, q.2.2) := by decide +kernel
theorem pX0_goOn_0 : At cX0_goOn 0 (.iconst 0) 1 1 := ⟨tX0_goOn_0_ok (0, .iconst 0, 1) (List.mem_of_getElem? (i := 0) rfl), rfl⟩
theorem pX0_goOn_1 : At cX0_goOn 1 (.istore_n 2) 1 2 := ⟨tX0_goOn_0_ok (1, .istore_n 2, 1) (List.mem_of_getElem? (i := 1) rfl), rfl⟩
theorem pX0_goOn_2 : At cX0_goOn 2 (.iload_n 2) 1 3 := ⟨tX0_goOn_0_ok (2, .iload_n 2, 1) (List.mem_of_getElem? (i := 2) rfl), rfl⟩
theorem pX0_goOn_3 : At cX0_goOn 3 (.aload_n 0) 1 4 := ⟨tX0_goOn_0_ok (3, .aload_n 0, 1) (List.mem_of_getElem? (i := 3) rfl), rfl⟩
theorem pX0_goOn_4 : At cX0_goOn 4 (.getfield 18) 3 7 := ⟨tX0_goOn_0_ok (4, .getfield 18, 3) (List.mem_of_getElem? (i := 4) rfl), rfl⟩
theorem pX0_goOn_7 : Bt cX0_goOn 7 (.if_icmp .ge 104) 104 111 10 := ⟨tX0_goOn_0_ok (7, .if_icmp .ge 104, 3) (List.mem_of_getElem? (i := 5) rfl), by decide, rfl⟩
theorem pX0_goOn_10 : At cX0_goOn 10 (.aload_n 0) 1 11 := ⟨tX0_goOn_0_ok (10, .aload_n 0, 1) (List.mem_of_getElem? (i := 6) rfl), rfl⟩
theorem pX0_goOn_11 : At cX0_goOn 11 (.getfield 11) 3 14 := ⟨tX0_goOn_0_ok (11, .getfield 11, 3) (List.mem_of_getElem? (i := 7) rfl), rfl⟩
theorem pX0_goOn_14 : At cX0_goOn 14 (.iload_n 2) 1 15 := ⟨tX0_goOn_0_ok (14, .iload_n 2, 1) (List.mem_of_getElem? (i := 8) rfl), rfl⟩
theorem pX0_goOn_15 : At cX0_goOn 15 (.aaload) 1 16 := ⟨tX0_goOn_0_ok (15, .aaload, 1) (List.mem_of_getElem? (i := 9) rfl), rfl⟩
theorem pX0_goOn_16 : At cX0_goOn 16 (.astore_n 3) 1 17 := ⟨tX0_goOn_0_ok (16, .astore_n 3, 1) (List.mem_of_getElem? (i := 10) rfl), rfl⟩
theorem pX0_goOn_17 : At cX0_goOn 17 (.aload_n 3) 1 18 := ⟨tX0_goOn_0_ok (17, .aload_n 3, 1) (List.mem_of_getElem? (i := 11) rfl), rfl⟩
theorem pX0_goOn_18 : At cX0_goOn 18 (.getfield 32) 3 21 := ⟨tX0_goOn_0_ok (18, .getfield 32, 3) (List.mem_of_getElem? (i := 12) rfl), rfl⟩
theorem pX0_goOn_21 : At cX0_goOn 21 (.istore 4) 2 23 := ⟨tX0_goOn_0_ok (21, .istore 4, 2) (List.mem_of_getElem? (i := 13) rfl), rfl⟩
theorem pX0_goOn_23 : At cX0_goOn 23 (.aload_n 3) 1 24 := ⟨tX0_goOn_0_ok (23, .aload_n 3, 1) (List.mem_of_getElem? (i := 14) rfl), rfl⟩
theorem pX0_goOn_24 : At cX0_goOn 24 (.aload_n 1) 1 25 := ⟨tX0_goOn_0_ok (24, .aload_n 1, 1) (List.mem_of_getElem? (i := 15) rfl), rfl⟩
theorem pX0_goOn_25 : At cX0_goOn 25 (.aload_n 3) 1 26 := ⟨tX0_goOn_0_ok (25, .aload_n 3, 1) (List.mem_of_getElem? (i := 16) rfl), rfl⟩
theorem pX0_goOn_26 : At cX0_goOn 26 (.invokevirtual 35) 3 29 := ⟨tX0_goOn_0_ok (26, .invokevirtual 35, 3) (List.mem_of_getElem? (i := 17) rfl), rfl⟩
theorem pX0_goOn_29 : At cX0_goOn 29 (.invokevirtual 41) 3 32 := ⟨tX0_goOn_0_ok (29, .invokevirtual 41, 3) (List.mem_of_getElem? (i := 18) rfl), rfl⟩
theorem pX0_goOn_32 : At cX0_goOn 32 (.pop) 1 33 := ⟨tX0_goOn_0_ok (32, .pop, 1) (List.mem_of_getElem? (i := 19) rfl), rfl⟩
theorem pX0_goOn_33 : At cX0_goOn 33 (.aload_n 3) 1 34 := ⟨tX0_goOn_0_ok (33, .aload_n 3, 1) (List.mem_of_getElem? (i := 20) rfl), rfl⟩
theorem pX0_goOn_34 : At cX0_goOn 34 (.getfield 32) 3 37 := ⟨tX0_goOn_0_ok (34, .getfield 32, 3) (List.mem_of_getElem? (i := 21) rfl), rfl⟩
theorem pX0_goOn_37 : At cX0_goOn 37 (.iload 4) 2 39 := ⟨tX0_goOn_0_ok (37, .iload 4, 2) (List.mem_of_getElem? (i := 22) rfl), rfl⟩
theorem pX0_goOn_39 : Bt cX0_goOn 39 (.if_icmp .eq 66) 66 105 42 := ⟨tX0_goOn_0_ok (39, .if_icmp .eq 66, 3) (List.mem_of_getElem? (i := 23) rfl), by decide, rfl⟩
theorem pX0_goOn_42 : At cX0_goOn 42 (.aload_n 3) 1 43 := ⟨tX0_goOn_0_ok (42, .aload_n 3, 1) (List.mem_of_getElem? (i := 24) rfl), rfl⟩
theorem pX0_goOn_43 : At cX0_goOn 43 (.getfield 32) 3 46 := ⟨tX0_goOn_0_ok (43, .getfield 32, 3) (List.mem_of_getElem? (i := 25) rfl), rfl⟩
theorem pX0_goOn_46 : Bt cX0_goOn 46 (.ifCond .eq 12) 12 58 49 := ⟨tX0_goOn_0_ok (46, .ifCond .eq 12, 3) (List.mem_of_getElem? (i := 26) rfl), by decide, rfl⟩
theorem pX0_goOn_49 : At cX0_goOn 49 (.aload_n 3) 1 50 := ⟨tX0_goOn_0_ok (49, .aload_n 3, 1) (List.mem_of_getElem? (i := 27) rfl), rfl⟩
theorem pX0_goOn_50 : At cX0_goOn 50 (.getfield 32) 3 53 := ⟨tX0_goOn_0_ok (50, .getfield 32, 3) (List.mem_of_getElem? (i := 28) rfl), rfl⟩
theorem pX0_goOn_53 : At cX0_goOn 53 (.bipush 40) 2 55 := ⟨tX0_goOn_0_ok (53, .bipush 40, 2) (List.mem_of_getElem? (i := 29) rfl), rfl⟩
theorem pX0_goOn_55 : Bt cX0_goOn 55 (.if_icmp .ne 50) 50 105 58 := ⟨tX0_goOn_0_ok (55, .if_icmp .ne 50, 3) (List.mem_of_getElem? (i := 30) rfl), by decide, rfl⟩
theorem pX0_goOn_58 : At cX0_goOn 58 (.aload_n 1) 1 59 := ⟨tX0_goOn_0_ok (58, .aload_n 1, 1) (List.mem_of_getElem? (i := 31) rfl), rfl⟩
theorem pX0_goOn_59 : At cX0_goOn 59 (.getfield 45) 3 62 := ⟨tX0_goOn_0_ok (59, .getfield 45, 3) (List.mem_of_getElem? (i := 32) rfl), rfl⟩
theorem pX0_goOn_62 : At cX0_goOn 62 (.aload_n 3) 1 63 := ⟨tX0_goOn_0_ok (62, .aload_n 3, 1) (List.mem_of_getElem? (i := 33) rfl), rfl⟩
theorem pX0_goOn_63 : At cX0_goOn 63 (.getfield 32) 3 66 := ⟨tX0_goOn_0_ok (63, .getfield 32, 3) (List.mem_of_getElem? (i := 34) rfl), rfl⟩
theorem pX0_goOn_66 : Bt cX0_goOn 66 (.ifCond .ne 7) 7 73 69 := ⟨tX0_goOn_0_ok (66, .ifCond .ne 7, 3) (List.mem_of_getElem? (i := 35) rfl), by decide, rfl⟩
theorem pX0_goOn_69 : At cX0_goOn 69 (.iconst 0) 1 70 := ⟨tX0_goOn_0_ok (69, .iconst 0, 1) (List.mem_of_getElem? (i := 36) rfl), rfl⟩
theorem pX0_goOn_70 : Bt cX0_goOn 70 (.goto 4) 4 74 73 := ⟨tX0_goOn_0_ok (70, .goto 4, 3) (List.mem_of_getElem? (i := 37) rfl), by decide, rfl⟩
theorem pX0_goOn_73 : At cX0_goOn 73 (.iconst 1) 1 74 := ⟨tX0_goOn_0_ok (73, .iconst 1, 1) (List.mem_of_getElem? (i := 38) rfl), rfl⟩
theorem pX0_goOn_74 : At cX0_goOn 74 (.aload_n 3) 1 75 := ⟨tX0_goOn_0_ok (74, .aload_n 3, 1) (List.mem_of_getElem? (i := 39) rfl), rfl⟩
theorem pX0_goOn_75 : At cX0_goOn 75 (.invokevirtual 49) 3 78 := ⟨tX0_goOn_0_ok (75, .invokevirtual 49, 3) (List.mem_of_getElem? (i := 40) rfl), rfl⟩
theorem pX0_goOn_78 : At cX0_goOn 78 (.aload_n 0) 1 79 := ⟨tX0_goOn_0_ok (78, .aload_n 0, 1) (List.mem_of_getElem? (i := 41) rfl), rfl⟩
theorem pX0_goOn_79 : At cX0_goOn 79 (.getfield 22) 3 82 := ⟨tX0_goOn_0_ok (79, .getfield 22, 3) (List.mem_of_getElem? (i := 42) rfl), rfl⟩
theorem pX0_goOn_82 : At cX0_goOn 82 (.invokevirtual 53) 3 85 := ⟨tX0_goOn_0_ok (82, .invokevirtual 53, 3) (List.mem_of_getElem? (i := 43) rfl), rfl⟩
theorem pX0_goOn_85 : At cX0_goOn 85 (.istore 5) 2 87 := ⟨tX0_goOn_0_ok (85, .istore 5, 2) (List.mem_of_getElem? (i := 44) rfl), rfl⟩
theorem pX0_goOn_87 : At cX0_goOn 87 (.aload_n 0) 1 88 := ⟨tX0_goOn_0_ok (87, .aload_n 0, 1) (List.mem_of_getElem? (i := 45) rfl), rfl⟩
theorem pX0_goOn_88 : At cX0_goOn 88 (.aload_n 0) 1 89 := ⟨tX0_goOn_0_ok (88, .aload_n 0, 1) (List.mem_of_getElem? (i := 46) rfl), rfl⟩
theorem pX0_goOn_89 : At cX0_goOn 89 (.getfield 25) 3 92 := ⟨tX0_goOn_0_ok (89, .getfield 25, 3) (List.mem_of_getElem? (i := 47) rfl), rfl⟩
theorem pX0_goOn_92 : At cX0_goOn 92 (.iload 5) 2 94 := ⟨tX0_goOn_0_ok (92, .iload 5, 2) (List.mem_of_getElem? (i := 48) rfl), rfl⟩
theorem pX0_goOn_94 : At cX0_goOn 94 (.iadd) 1 95 := ⟨tX0_goOn_0_ok (94, .iadd, 1) (List.mem_of_getElem? (i := 49) rfl), rfl⟩
theorem pX0_goOn_95 : At cX0_goOn 95 (.ldc 59) 2 97 := ⟨tX0_goOn_0_ok (95, .ldc 59, 2) (List.mem_of_getElem? (i := 50) rfl), rfl⟩
theorem pX0_goOn_97 : At cX0_goOn 97 (.ldc 60) 2 99 := ⟨tX0_goOn_0_ok (97, .ldc 60, 2) (List.mem_of_getElem? (i := 51) rfl), rfl⟩
theorem pX0_goOn_99 : At cX0_goOn 99 (.invokestatic 61) 3 102 := ⟨tX0_goOn_0_ok (99, .invokestatic 61, 3) (List.mem_of_getElem? (i := 52) rfl), rfl⟩
theorem pX0_goOn_102 : At cX0_goOn 102 (.putfield 25) 3 105 := ⟨tX0_goOn_0_ok (102, .putfield 25, 3) (List.mem_of_getElem? (i := 53) rfl), rfl⟩
theorem pX0_goOn_105 : At cX0_goOn 105 (.iinc 2 1) 3 108 := ⟨tX0_goOn_0_ok (105, .iinc 2 1, 3) (List.mem_of_getElem? (i := 54) rfl), rfl⟩
theorem pX0_goOn_108 : Bt cX0_goOn 108 (.goto (-106)) (-106) 2 111 := ⟨tX0_goOn_0_ok (108, .goto (-106), 3) (List.mem_of_getElem? (i := 55) rfl), by decide, rfl⟩
theorem pX0_goOn_111 : At cX0_goOn 111 (.aload_n 0) 1 112 := ⟨tX0_goOn_0_ok (111, .aload_n 0, 1) (List.mem_of_getElem? (i := 56) rfl), rfl⟩
theorem pX0_goOn_112 : At cX0_goOn 112 (.dup) 1 113 := ⟨tX0_goOn_0_ok (112, .dup, 1) (List.mem_of_getElem? (i := 57) rfl), rfl⟩
theorem pX0_goOn_113 : At cX0_goOn 113 (.getfield 22) 3 116 := ⟨tX0_goOn_0_ok (113, .getfield 22, 3) (List.mem_of_getElem? (i := 58) rfl), rfl⟩
theorem pX0_goOn_116 : At cX0_goOn 116 (.iconst 1) 1 117 := ⟨tX0_goOn_0_ok (116, .iconst 1, 1) (List.mem_of_getElem? (i := 59) rfl), rfl⟩
theorem pX0_goOn_117 : At cX0_goOn 117 (.iadd) 1 118 := ⟨tX0_goOn_0_ok (117, .iadd, 1) (List.mem_of_getElem? (i := 60) rfl), rfl⟩
theorem pX0_goOn_118 : At cX0_goOn 118 (.putfield 22) 3 121 := ⟨tX0_goOn_0_ok (118, .putfield 22, 3) (List.mem_of_getElem? (i := 61) rfl), rfl⟩
theorem pX0_goOn_121 : At cX0_goOn 121 (.return_) 1 122 := ⟨tX0_goOn_0_ok (121, .return_, 1) (List.mem_of_getElem? (i := 62) rfl), rfl⟩
def tX5_nextDraw_0 : List (Nat × Instr × Nat) := [(0, .aload_n 0, 1), (1, .aload_n 0, 1), (2, .getfield 19, 3), (5, .ldc 97, 2), (7, .imul, 1), (8, .sipush 12345, 3), (11, .iadd, 1), (12, .putfield 19, 3), (15, .aload_n 0, 1), (16, .getfield 19, 3), (19, .bipush 8, 2), (21, .iushr, 1), (22, .ireturn, 1)]
theorem tX5_nextDraw_0_ok : ∀ q ∈ tX5_nextDraw_0, decode cX5_nextDraw q.1 = .ok (q.2.1, q.2.2) := by decide +kernel
theorem pX5_nextDraw_0 : At cX5_nextDraw 0 (.aload_n 0) 1 1 := ⟨tX5_nextDraw_0_ok (0, .aload_n 0, 1) (List.mem_of_getElem? (i := 0) rfl), rfl⟩
theorem pX5_nextDraw_1 : At cX5_nextDraw 1 (.aload_n 0) 1 2 := ⟨tX5_nextDraw_0_ok (1, .aload_n 0, 1) (List.mem_of_getElem? (i := 1) rfl), rfl⟩
theorem pX5_nextDraw_2 : At cX5_nextDraw 2 (.getfield 19) 3 5 := ⟨tX5_nextDraw_0_ok (2, .getfield 19, 3) (List.mem_of_getElem? (i := 2) rfl), rfl⟩
theorem pX5_nextDraw_5 : At cX5_nextDraw 5 (.ldc 97) 2 7 := ⟨tX5_nextDraw_0_ok (5, .ldc 97, 2) (List.mem_of_getElem? (i := 3) rfl), rfl⟩
theorem pX5_nextDraw_7 : At cX5_nextDraw 7 (.imul) 1 8 := ⟨tX5_nextDraw_0_ok (7, .imul, 1) (List.mem_of_getElem? (i := 4) rfl), rfl⟩
theorem pX5_nextDraw_8 : At cX5_nextDraw 8 (.sipush 12345) 3 11 := ⟨tX5_nextDraw_0_ok (8, .sipush 12345, 3) (List.mem_of_getElem? (i := 5) rfl), rfl⟩
theorem pX5_nextDraw_11 : At cX5_nextDraw 11 (.iadd) 1 12 := ⟨tX5_nextDraw_0_ok (11, .iadd, 1) (List.mem_of_getElem? (i := 6) rfl), rfl⟩
theorem pX5_nextDraw_12 : At cX5_nextDraw 12 (.putfield 19) 3 15 := ⟨tX5_nextDraw_0_ok (12, .putfield 19, 3) (List.mem_of_getElem? (i := 7) rfl), rfl⟩
theorem pX5_nextDraw_15 : At cX5_nextDraw 15 (.aload_n 0) 1 16 := ⟨tX5_nextDraw_0_ok (15, .aload_n 0, 1) (List.mem_of_getElem? (i := 8) rfl), rfl⟩
theorem pX5_nextDraw_16 : At cX5_nextDraw 16 (.getfield 19) 3 19 := ⟨tX5_nextDraw_0_ok (16, .getfield 19, 3) (List.mem_of_getElem? (i := 9) rfl), rfl⟩
theorem pX5_nextDraw_19 : At cX5_nextDraw 19 (.bipush 8) 2 21 := ⟨tX5_nextDraw_0_ok (19, .bipush 8, 2) (List.mem_of_getElem? (i := 10) rfl), rfl⟩
theorem pX5_nextDraw_21 : At cX5_nextDraw 21 (.iushr) 1 22 := ⟨tX5_nextDraw_0_ok (21, .iushr, 1) (List.mem_of_getElem? (i := 11) rfl), rfl⟩
theorem pX5_nextDraw_22 : At cX5_nextDraw 22 (.ireturn) 1 23 := ⟨tX5_nextDraw_0_ok (22, .ireturn, 1) (List.mem_of_getElem? (i := 12) rfl), rfl⟩
def tX0_quake_0 : List (Nat × Instr × Nat) := [(0, .iconst 0, 1), (1, .istore_n 2, 1), (2, .iload_n 2, 1), (3, .aload_n 0, 1), (4, .getfield 18, 3), (7, .if_icmp .ge 26, 3), (10, .aload_n 0, 1), (11, .getfield 11, 3), (14, .iload_n 2, 1), (15, .aaload, 1), (16, .aload_n 1, 1), (17, .invokevirtual 64, 3), (20, .iconst 3, 1), (21, .irem, 1), (22, .iconst 1, 1), (23, .isub, 1), (24, .invokevirtual 67, 3), (27, .iinc 2 1, 3), (30, .goto (-28), 3), (33, .return_, 1)]
theorem tX0_quake_0_ok : ∀ q ∈ tX0_quake_0, decode cX0_quake q.1 = .ok (q.2.1, q.2.2) := by decide +kernel
theorem pX0_quake_0 : At cX0_quake 0 (.iconst 0) 1 1 := ⟨tX0_quake_0_ok (0, .iconst 0, 1) (List.mem_of_getElem? (i := 0) rfl), rfl⟩
theorem pX0_quake_1 : At cX0_quake 1 (.istore_n 2) 1 2 := ⟨tX0_quake_0_ok (1, .istore_n 2, 1) (List.mem_of_getElem? (i := 1) rfl), rfl⟩
theorem pX0_quake_2 : At cX0_quake 2 (.iload_n 2) 1 3 := ⟨tX0_quake_0_ok (2, .iload_n 2, 1) (List.mem_of_getElem? (i := 2) rfl), rfl⟩
theorem pX0_quake_3 : At cX0_quake 3 (.aload_n 0) 1 4 := ⟨tX0_quake_0_ok (3, .aload_n 0, 1) (List.mem_of_getElem? (i := 3) rfl), rfl⟩
theorem pX0_quake_4 : At cX0_quake 4 (.getfield 18) 3 7 := ⟨tX0_quake_0_ok (4, .getfield 18, 3) (List.mem_of_getElem? (i := 4) rfl), rfl⟩
theorem pX0_quake_7 : Bt cX0_quake 7 (.if_icmp .ge 26) 26 33 10 := ⟨tX0_quake_0_ok (7, .if_icmp .ge 26, 3) (List.mem_of_getElem? (i := 5) rfl), by decide, rfl⟩
theorem pX0_quake_10 : At cX0_quake 10 (.aload_n 0) 1 11 := ⟨tX0_quake_0_ok (10, .aload_n 0, 1) (List.mem_of_getElem? (i := 6) rfl), rfl⟩
theorem pX0_quake_11 : At cX0_quake 11 (.getfield 11) 3 14 := ⟨tX0_quake_0_ok (11, .getfield 11, 3) (List.mem_of_getElem? (i := 7) rfl), rfl⟩
theorem pX0_quake_14 : At cX0_quake 14 (.iload_n 2) 1 15 := ⟨tX0_quake_0_ok (14, .iload_n 2, 1) (List.mem_of_getElem? (i := 8) rfl), rfl⟩
theorem pX0_quake_15 : At cX0_quake 15 (.aaload) 1 16 := ⟨tX0_quake_0_ok (15, .aaload, 1) (List.mem_of_getElem? (i := 9) rfl), rfl⟩
theorem pX0_quake_16 : At cX0_quake 16 (.aload_n 1) 1 17 := ⟨tX0_quake_0_ok (16, .aload_n 1, 1) (List.mem_of_getElem? (i := 10) rfl), rfl⟩
theorem pX0_quake_17 : At cX0_quake 17 (.invokevirtual 64) 3 20 := ⟨tX0_quake_0_ok (17, .invokevirtual 64, 3) (List.mem_of_getElem? (i := 11) rfl), rfl⟩
theorem pX0_quake_20 : At cX0_quake 20 (.iconst 3) 1 21 := ⟨tX0_quake_0_ok (20, .iconst 3, 1) (List.mem_of_getElem? (i := 12) rfl), rfl⟩
theorem pX0_quake_21 : At cX0_quake 21 (.irem) 1 22 := ⟨tX0_quake_0_ok (21, .irem, 1) (List.mem_of_getElem? (i := 13) rfl), rfl⟩
theorem pX0_quake_22 : At cX0_quake 22 (.iconst 1) 1 23 := ⟨tX0_quake_0_ok (22, .iconst 1, 1) (List.mem_of_getElem? (i := 14) rfl), rfl⟩
theorem pX0_quake_23 : At cX0_quake 23 (.isub) 1 24 := ⟨tX0_quake_0_ok (23, .isub, 1) (List.mem_of_getElem? (i := 15) rfl), rfl⟩
theorem pX0_quake_24 : At cX0_quake 24 (.invokevirtual 67) 3 27 := ⟨tX0_quake_0_ok (24, .invokevirtual 67, 3) (List.mem_of_getElem? (i := 16) rfl), rfl⟩
theorem pX0_quake_27 : At cX0_quake 27 (.iinc 2 1) 3 30 := ⟨tX0_quake_0_ok (27, .iinc 2 1, 3) (List.mem_of_getElem? (i := 17) rfl), rfl⟩
theorem pX0_quake_30 : Bt cX0_quake 30 (.goto (-28)) (-28) 2 33 := ⟨tX0_quake_0_ok (30, .goto (-28), 3) (List.mem_of_getElem? (i := 18) rfl), by decide, rfl⟩
theorem pX0_quake_33 : At cX0_quake 33 (.return_) 1 34 := ⟨tX0_quake_0_ok (33, .return_, 1) (List.mem_of_getElem? (i := 19) rfl), rfl⟩
def tX0_copyFrom_0 : List (Nat × Instr × Nat) := [(0, .aload_n 0, 1), (1, .aload_n 1, 1), (2, .getfield 18, 3), (5, .putfield 18, 3), (8, .aload_n 0, 1), (9, .aload_n 1, 1), (10, .getfield 22, 3), (13, .putfield 22, 3), (16, .aload_n 0, 1), (17, .aload_n 1, 1), (18, .getfield 25, 3), (21, .putfield 25, 3), (24, .iconst 0, 1), (25, .istore_n 2, 1), (26, .iload_n 2, 1), (27, .aload_n 0, 1), (28, .getfield 18, 3), (31, .if_icmp .ge 24, 3), (34, .aload_n 0, 1), (35, .getfield 11, 3), (38, .iload_n 2, 1), (39, .aaload, 1), (40, .aload_n 1, 1), (41, .getfield 11, 3), (44, .iload_n 2, 1), (45, .aaload, 1), (46, .invokevirtual 28, 3), (49, .iinc 2 1, 3), (52, .goto (-26), 3), (55, .return_, 1)]
theorem tX0_copyFrom_0_ok : ∀ q ∈ tX0_copyFrom_0, decode cX0_copyFrom q.1 = .ok (q.2.1, q.2.2) := by decide +kernel
theorem pX0_copyFrom_0 : At cX0_copyFrom 0 (.aload_n 0) 1 1 := ⟨tX0_copyFrom_0_ok (0, .aload_n 0, 1) (List.mem_of_getElem? (i := 0) rfl), rfl⟩
theorem pX0_copyFrom_1 : At cX0_copyFrom 1 (.aload_n 1) 1 2 := ⟨tX0_copyFrom_0_ok (1, .aload_n 1, 1) (List.mem_of_getElem? (i := 1) rfl), rfl⟩
theorem pX0_copyFrom_2 : At cX0_copyFrom 2 (.getfield 18) 3 5 := ⟨tX0_copyFrom_0_ok (2, .getfield 18, 3) (List.mem_of_getElem? (i := 2) rfl), rfl⟩
theorem pX0_copyFrom_5 : At cX0_copyFrom 5 (.putfield 18) 3 8 := ⟨tX0_copyFrom_0_ok (5, .putfield 18, 3) (List.mem_of_getElem? (i := 3) rfl), rfl⟩
theorem pX0_copyFrom_8 : At cX0_copyFrom 8 (.aload_n 0) 1 9 := ⟨tX0_copyFrom_0_ok (8, .aload_n 0, 1) (List.mem_of_getElem? (i := 4) rfl), rfl⟩
theorem pX0_copyFrom_9 : At cX0_copyFrom 9 (.aload_n 1) 1 10 := ⟨tX0_copyFrom_0_ok (9, .aload_n 1, 1) (List.mem_of_getElem? (i := 5) rfl), rfl⟩
theorem pX0_copyFrom_10 : At cX0_copyFrom 10 (.getfield 22) 3 13 := ⟨tX0_copyFrom_0_ok (10, .getfield 22, 3) (List.mem_of_getElem? (i := 6) rfl), rfl⟩
theorem pX0_copyFrom_13 : At cX0_copyFrom 13 (.putfield 22) 3 16 := ⟨tX0_copyFrom_0_ok (13, .putfield 22, 3) (List.mem_of_getElem? (i := 7) rfl), rfl⟩
theorem pX0_copyFrom_16 : At cX0_copyFrom 16 (.aload_n 0) 1 17 := ⟨tX0_copyFrom_0_ok (16, .aload_n 0, 1) (List.mem_of_getElem? (i := 8) rfl), rfl⟩
theorem pX0_copyFrom_17 : At cX0_copyFrom 17 (.aload_n 1) 1 18 := ⟨tX0_copyFrom_0_ok (17, .aload_n 1, 1) (List.mem_of_getElem? (i := 9) rfl), rfl⟩
theorem pX0_copyFrom_18 : At cX0_copyFrom 18 (.getfield 25) 3 21 := ⟨tX0_copyFrom_0_ok (18, .getfield 25, 3) (List.mem_of_getElem? (i := 10) rfl), rfl⟩
theorem pX0_copyFrom_21 : At cX0_copyFrom 21 (.putfield 25) 3 24 := ⟨tX0_copyFrom_0_ok (21, .putfield 25, 3) (List.mem_of_getElem? (i := 11) rfl), rfl⟩
theorem pX0_copyFrom_24 : At cX0_copyFrom 24 (.iconst 0) 1 25 := ⟨tX0_copyFrom_0_ok (24, .iconst 0, 1) (List.mem_of_getElem? (i := 12) rfl), rfl⟩
theorem pX0_copyFrom_25 : At cX0_copyFrom 25 (.istore_n 2) 1 26 := ⟨tX0_copyFrom_0_ok (25, .istore_n 2, 1) (List.mem_of_getElem? (i := 13) rfl), rfl⟩
theorem pX0_copyFrom_26 : At cX0_copyFrom 26 (.iload_n 2) 1 27 := ⟨tX0_copyFrom_0_ok (26, .iload_n 2, 1) (List.mem_of_getElem? (i := 14) rfl), rfl⟩
theorem pX0_copyFrom_27 : At cX0_copyFrom 27 (.aload_n 0) 1 28 := ⟨tX0_copyFrom_0_ok (27, .aload_n 0, 1) (List.mem_of_getElem? (i := 15) rfl), rfl⟩
theorem pX0_copyFrom_28 : At cX0_copyFrom 28 (.getfield 18) 3 31 := ⟨tX0_copyFrom_0_ok (28, .getfield 18, 3) (List.mem_of_getElem? (i := 16) rfl), rfl⟩
theorem pX0_copyFrom_31 : Bt cX0_copyFrom 31 (.if_icmp .ge 24) 24 55 34 := ⟨tX0_copyFrom_0_ok (31, .if_icmp .ge 24, 3) (List.mem_of_getElem? (i := 17) rfl), by decide, rfl⟩
theorem pX0_copyFrom_34 : At cX0_copyFrom 34 (.aload_n 0) 1 35 := ⟨tX0_copyFrom_0_ok (34, .aload_n 0, 1) (List.mem_of_getElem? (i := 18) rfl), rfl⟩
theorem pX0_copyFrom_35 : At cX0_copyFrom 35 (.getfield 11) 3 38 := ⟨tX0_copyFrom_0_ok (35, .getfield 11, 3) (List.mem_of_getElem? (i := 19) rfl), rfl⟩
theorem pX0_copyFrom_38 : At cX0_copyFrom 38 (.iload_n 2) 1 39 := ⟨tX0_copyFrom_0_ok (38, .iload_n 2, 1) (List.mem_of_getElem? (i := 20) rfl), rfl⟩
theorem pX0_copyFrom_39 : At cX0_copyFrom 39 (.aaload) 1 40 := ⟨tX0_copyFrom_0_ok (39, .aaload, 1) (List.mem_of_getElem? (i := 21) rfl), rfl⟩
theorem pX0_copyFrom_40 : At cX0_copyFrom 40 (.aload_n 1) 1 41 := ⟨tX0_copyFrom_0_ok (40, .aload_n 1, 1) (List.mem_of_getElem? (i := 22) rfl), rfl⟩
theorem pX0_copyFrom_41 : At cX0_copyFrom 41 (.getfield 11) 3 44 := ⟨tX0_copyFrom_0_ok (41, .getfield 11, 3) (List.mem_of_getElem? (i := 23) rfl), rfl⟩
theorem pX0_copyFrom_44 : At cX0_copyFrom 44 (.iload_n 2) 1 45 := ⟨tX0_copyFrom_0_ok (44, .iload_n 2, 1) (List.mem_of_getElem? (i := 24) rfl), rfl⟩
theorem pX0_copyFrom_45 : At cX0_copyFrom 45 (.aaload) 1 46 := ⟨tX0_copyFrom_0_ok (45, .aaload, 1) (List.mem_of_getElem? (i := 25) rfl), rfl⟩
theorem pX0_copyFrom_46 : At cX0_copyFrom 46 (.invokevirtual 28) 3 49 := ⟨tX0_copyFrom_0_ok (46, .invokevirtual 28, 3) (List.mem_of_getElem? (i := 26) rfl), rfl⟩
theorem pX0_copyFrom_49 : At cX0_copyFrom 49 (.iinc 2 1) 3 52 := ⟨tX0_copyFrom_0_ok (49, .iinc 2 1, 3) (List.mem_of_getElem? (i := 27) rfl), rfl⟩
theorem pX0_copyFrom_52 : Bt cX0_copyFrom 52 (.goto (-26)) (-26) 26 55 := ⟨tX0_copyFrom_0_ok (52, .goto (-26), 3) (List.mem_of_getElem? (i := 28) rfl), by decide, rfl⟩
theorem pX0_copyFrom_55 : At cX0_copyFrom 55 (.return_) 1 56 := ⟨tX0_copyFrom_0_ok (55, .return_, 1) (List.mem_of_getElem? (i := 29) rfl), rfl⟩
def tX7_restsBehind_0 : List (Nat × Instr × Nat) := [(0, .aload_n 0, 1), (1, .getfield 12, 3), (4, .aload_n 1, 1), (5, .invokevirtual 32, 3), (8, .iconst 0, 1), (9, .istore_n 2, 1), (10, .iload_n 2, 1), (11, .sipush 200, 3), (14, .if_icmp .gt 18, 3), (17, .aload_n 0, 1), (18, .invokevirtual 36, 3), (21, .ifCond .ne 5, 3), (24, .iload_n 2, 1), (25, .ireturn, 1), (26, .iinc 2 1, 3), (29, .goto (-19), 3), (32, .iconst (-1), 1), (33, .ireturn, 1)]
theorem tX7_restsBehind_0_ok : ∀ q ∈ tX7_restsBehind_0, decode cX7_restsBehind q.1 = .ok (q.2.1, q.2.2) := by decide +kernel
theorem pX7_restsBehind_0 : At cX7_restsBehind 0 (.aload_n 0) 1 1 := ⟨tX7_restsBehind_0_ok (0, .aload_n 0, 1) (List.mem_of_getElem? (i := 0) rfl), rfl⟩
theorem pX7_restsBehind_1 : At cX7_restsBehind 1 (.getfield 12) 3 4 := ⟨tX7_restsBehind_0_ok (1, .getfield 12, 3) (List.mem_of_getElem? (i := 1) rfl), rfl⟩
theorem pX7_restsBehind_4 : At cX7_restsBehind 4 (.aload_n 1) 1 5 := ⟨tX7_restsBehind_0_ok (4, .aload_n 1, 1) (List.mem_of_getElem? (i := 2) rfl), rfl⟩
theorem pX7_restsBehind_5 : At cX7_restsBehind 5 (.invokevirtual 32) 3 8 := ⟨tX7_restsBehind_0_ok (5, .invokevirtual 32, 3) (List.mem_of_getElem? (i := 3) rfl), rfl⟩
theorem pX7_restsBehind_8 : At cX7_restsBehind 8 (.iconst 0) 1 9 := ⟨tX7_restsBehind_0_ok (8, .iconst 0, 1) (List.mem_of_getElem? (i := 4) rfl), rfl⟩
theorem pX7_restsBehind_9 : At cX7_restsBehind 9 (.istore_n 2) 1 10 := ⟨tX7_restsBehind_0_ok (9, .istore_n 2, 1) (List.mem_of_getElem? (i := 5) rfl), rfl⟩
theorem pX7_restsBehind_10 : At cX7_restsBehind 10 (.iload_n 2) 1 11 := ⟨tX7_restsBehind_0_ok (10, .iload_n 2, 1) (List.mem_of_getElem? (i := 6) rfl), rfl⟩
theorem pX7_restsBehind_11 : At cX7_restsBehind 11 (.sipush 200) 3 14 := ⟨tX7_restsBehind_0_ok (11, .sipush 200, 3) (List.mem_of_getElem? (i := 7) rfl), rfl⟩
theorem pX7_restsBehind_14 : Bt cX7_restsBehind 14 (.if_icmp .gt 18) 18 32 17 := ⟨tX7_restsBehind_0_ok (14, .if_icmp .gt 18, 3) (List.mem_of_getElem? (i := 8) rfl), by decide, rfl⟩
theorem pX7_restsBehind_17 : At cX7_restsBehind 17 (.aload_n 0) 1 18 := ⟨tX7_restsBehind_0_ok (17, .aload_n 0, 1) (List.mem_of_getElem? (i := 9) rfl), rfl⟩
theorem pX7_restsBehind_18 : At cX7_restsBehind 18 (.invokevirtual 36) 3 21 := ⟨tX7_restsBehind_0_ok (18, .invokevirtual 36, 3) (List.mem_of_getElem? (i := 10) rfl), rfl⟩
theorem pX7_restsBehind_21 : Bt cX7_restsBehind 21 (.ifCond .ne 5) 5 26 24 := ⟨tX7_restsBehind_0_ok (21, .ifCond .ne 5, 3) (List.mem_of_getElem? (i := 11) rfl), by decide, rfl⟩
theorem pX7_restsBehind_24 : At cX7_restsBehind 24 (.iload_n 2) 1 25 := ⟨tX7_restsBehind_0_ok (24, .iload_n 2, 1) (List.mem_of_getElem? (i := 12) rfl), rfl⟩
theorem pX7_restsBehind_25 : At cX7_restsBehind 25 (.ireturn) 1 26 := ⟨tX7_restsBehind_0_ok (25, .ireturn, 1) (List.mem_of_getElem? (i := 13) rfl), rfl⟩
theorem pX7_restsBehind_26 : At cX7_restsBehind 26 (.iinc 2 1) 3 29 := ⟨tX7_restsBehind_0_ok (26, .iinc 2 1, 3) (List.mem_of_getElem? (i := 14) rfl), rfl⟩
theorem pX7_restsBehind_29 : Bt cX7_restsBehind 29 (.goto (-19)) (-19) 10 32 := ⟨tX7_restsBehind_0_ok (29, .goto (-19), 3) (List.mem_of_getElem? (i := 15) rfl), by decide, rfl⟩
theorem pX7_restsBehind_32 : At cX7_restsBehind 32 (.iconst (-1)) 1 33 := ⟨tX7_restsBehind_0_ok (32, .iconst (-1), 1) (List.mem_of_getElem? (i := 16) rfl), rfl⟩
theorem pX7_restsBehind_33 : At cX7_restsBehind 33 (.ireturn) 1 34 := ⟨tX7_restsBehind_0_ok (33, .ireturn, 1) (List.mem_of_getElem? (i := 17) rfl), rfl⟩
def tX7_overBehind_0 : List (Nat × Instr × Nat) := [(0, .aload_n 0, 1), (1, .getfield 12, 3), (4, .aload_n 1, 1), (5, .invokevirtual 32, 3), (8, .aload_n 0, 1), (9, .getfield 12, 3), (12, .iload_n 3, 1), (13, .invokevirtual 40, 3), (16, .iconst 0, 1), (17, .istore 4, 2), (19, .iload 4, 2), (21, .bipush 100, 2), (23, .if_icmp .gt 35, 3), (26, .aload_n 0, 1), (27, .getfield 12, 3), (30, .getfield 44, 3), (33, .iload_n 2, 1), (34, .bipush 40, 2), (36, .imul, 1), (37, .if_icmp .ne 6, 3), (40, .iload 4, 2), (42, .ireturn, 1), (43, .aload_n 0, 1), (44, .invokevirtual 36, 3), (47, .ifCond .ne 5, 3), (50, .iconst (-1), 1), (51, .ireturn, 1), (52, .iinc 4 1, 3), (55, .goto (-36), 3), (58, .iconst (-1), 1), (59, .ireturn, 1)]
theorem tX7_overBehind_0_ok : ∀ q ∈ tX7_overBehind_0, decode cX7_overBehind q.1 = .ok (q.2.1, q.2.2) := by decide +kernel
theorem pX7_overBehind_0 : At cX7_overBehind 0 (.aload_n 0) 1 1 := ⟨tX7_overBehind_0_ok (0, .aload_n 0, 1) (List.mem_of_getElem? (i := 0) rfl), rfl⟩
theorem pX7_overBehind_1 : At cX7_overBehind 1 (.getfield 12) 3 4 := ⟨tX7_overBehind_0_ok (1, .getfield 12, 3) (List.mem_of_getElem? (i := 1) rfl), rfl⟩
theorem pX7_overBehind_4 : At cX7_overBehind 4 (.aload_n 1) 1 5 := ⟨tX7_overBehind_0_ok (4, .aload_n 1, 1) (List.mem_of_getElem? (i := 2) rfl), rfl⟩
theorem pX7_overBehind_5 : At cX7_overBehind 5 (.invokevirtual 32) 3 8 := ⟨tX7_overBehind_0_ok (5, .invokevirtual 32, 3) (List.mem_of_getElem? (i := 3) rfl), rfl⟩
theorem pX7_overBehind_8 : At cX7_overBehind 8 (.aload_n 0) 1 9 := ⟨tX7_overBehind_0_ok (8, .aload_n 0, 1) (List.mem_of_getElem? (i := 4) rfl), rfl⟩
theorem pX7_overBehind_9 : At cX7_overBehind 9 (.getfield 12) 3 12 := ⟨tX7_overBehind_0_ok (9, .getfield 12, 3) (List.mem_of_getElem? (i := 5) rfl), rfl⟩
theorem pX7_overBehind_12 : At cX7_overBehind 12 (.iload_n 3) 1 13 := ⟨tX7_overBehind_0_ok (12, .iload_n 3, 1) (List.mem_of_getElem? (i := 6) rfl), rfl⟩
theorem pX7_overBehind_13 : At cX7_overBehind 13 (.invokevirtual 40) 3 16 := ⟨tX7_overBehind_0_ok (13, .invokevirtual 40, 3) (List.mem_of_getElem? (i := 7) rfl), rfl⟩
theorem pX7_overBehind_16 : At cX7_overBehind 16 (.iconst 0) 1 17 := ⟨tX7_overBehind_0_ok (16, .iconst 0, 1) (List.mem_of_getElem? (i := 8) rfl), rfl⟩
theorem pX7_overBehind_17 : At cX7_overBehind 17 (.istore 4) 2 19 := ⟨tX7_overBehind_0_ok (17, .istore 4, 2) (List.mem_of_getElem? (i := 9) rfl), rfl⟩
theorem pX7_overBehind_19 : At cX7_overBehind 19 (.iload 4) 2 21 := ⟨tX7_overBehind_0_ok (19, .iload 4, 2) (List.mem_of_getElem? (i := 10) rfl), rfl⟩
theorem pX7_overBehind_21 : At cX7_overBehind 21 (.bipush 100) 2 23 := ⟨tX7_overBehind_0_ok (21, .bipush 100, 2) (List.mem_of_getElem? (i := 11) rfl), rfl⟩
theorem pX7_overBehind_23 : Bt cX7_overBehind 23 (.if_icmp .gt 35) 35 58 26 := ⟨tX7_overBehind_0_ok (23, .if_icmp .gt 35, 3) (List.mem_of_getElem? (i := 12) rfl), by decide, rfl⟩
theorem pX7_overBehind_26 : At cX7_overBehind 26 (.aload_n 0) 1 27 := ⟨tX7_overBehind_0_ok (26, .aload_n 0, 1) (List.mem_of_getElem? (i := 13) rfl), rfl⟩
theorem pX7_overBehind_27 : At cX7_overBehind 27 (.getfield 12) 3 30 := ⟨tX7_overBehind_0_ok (27, .getfield 12, 3) (List.mem_of_getElem? (i := 14) rfl), rfl⟩
theorem pX7_overBehind_30 : At cX7_overBehind 30 (.getfield 44) 3 33 := ⟨tX7_overBehind_0_ok (30, .getfield 44, 3) (List.mem_of_getElem? (i := 15) rfl), rfl⟩
theorem pX7_overBehind_33 : At cX7_overBehind 33 (.iload_n 2) 1 34 := ⟨tX7_overBehind_0_ok (33, .iload_n 2, 1) (List.mem_of_getElem? (i := 16) rfl), rfl⟩
theorem pX7_overBehind_34 : At cX7_overBehind 34 (.bipush 40) 2 36 := ⟨tX7_overBehind_0_ok (34, .bipush 40, 2) (List.mem_of_getElem? (i := 17) rfl), rfl⟩
theorem pX7_overBehind_36 : At cX7_overBehind 36 (.imul) 1 37 := ⟨tX7_overBehind_0_ok (36, .imul, 1) (List.mem_of_getElem? (i := 18) rfl), rfl⟩
theorem pX7_overBehind_37 : Bt cX7_overBehind 37 (.if_icmp .ne 6) 6 43 40 := ⟨tX7_overBehind_0_ok (37, .if_icmp .ne 6, 3) (List.mem_of_getElem? (i := 19) rfl), by decide, rfl⟩
theorem pX7_overBehind_40 : At cX7_overBehind 40 (.iload 4) 2 42 := ⟨tX7_overBehind_0_ok (40, .iload 4, 2) (List.mem_of_getElem? (i := 20) rfl), rfl⟩
theorem pX7_overBehind_42 : At cX7_overBehind 42 (.ireturn) 1 43 := ⟨tX7_overBehind_0_ok (42, .ireturn, 1) (List.mem_of_getElem? (i := 21) rfl), rfl⟩
theorem pX7_overBehind_43 : At cX7_overBehind 43 (.aload_n 0) 1 44 := ⟨tX7_overBehind_0_ok (43, .aload_n 0, 1) (List.mem_of_getElem? (i := 22) rfl), rfl⟩
theorem pX7_overBehind_44 : At cX7_overBehind 44 (.invokevirtual 36) 3 47 := ⟨tX7_overBehind_0_ok (44, .invokevirtual 36, 3) (List.mem_of_getElem? (i := 23) rfl), rfl⟩
theorem pX7_overBehind_47 : Bt cX7_overBehind 47 (.ifCond .ne 5) 5 52 50 := ⟨tX7_overBehind_0_ok (47, .ifCond .ne 5, 3) (List.mem_of_getElem? (i := 24) rfl), by decide, rfl⟩
theorem pX7_overBehind_50 : At cX7_overBehind 50 (.iconst (-1)) 1 51 := ⟨tX7_overBehind_0_ok (50, .iconst (-1), 1) (List.mem_of_getElem? (i := 25) rfl), rfl⟩
theorem pX7_overBehind_51 : At cX7_overBehind 51 (.ireturn) 1 52 := ⟨tX7_overBehind_0_ok (51, .ireturn, 1) (List.mem_of_getElem? (i := 26) rfl), rfl⟩
theorem pX7_overBehind_52 : At cX7_overBehind 52 (.iinc 4 1) 3 55 := ⟨tX7_overBehind_0_ok (52, .iinc 4 1, 3) (List.mem_of_getElem? (i := 27) rfl), rfl⟩
theorem pX7_overBehind_55 : Bt cX7_overBehind 55 (.goto (-36)) (-36) 19 58 := ⟨tX7_overBehind_0_ok (55, .goto (-36), 3) (List.mem_of_getElem? (i := 28) rfl), by decide, rfl⟩
theorem pX7_overBehind_58 : At cX7_overBehind 58 (.iconst (-1)) 1 59 := ⟨tX7_overBehind_0_ok (58, .iconst (-1), 1) (List.mem_of_getElem? (i := 29) rfl), rfl⟩
theorem pX7_overBehind_59 : At cX7_overBehind 59 (.ireturn) 1 60 := ⟨tX7_overBehind_0_ok (59, .ireturn, 1) (List.mem_of_getElem? (i := 30) rfl), rfl⟩
def tX3_keepIfBetter_0 : List (Nat × Instr × Nat) := [(0, .aload_n 0, 1), (1, .getfield 61, 3), (4, .ifCond .lt 12, 3), (7, .iload_n 1, 1), (8, .aload_n 0, 1), (9, .getfield 61, 3), (12, .if_icmp .lt 4, 3), (15, .return_, 1), (16, .aload_n 0, 1), (17, .iload_n 1, 1), (18, .putfield 61, 3), (21, .aload_n 0, 1), (22, .getfield 24, 3), (25, .iconst (-1), 1), (26, .invokestatic 81, 3), (29, .iconst 0, 1), (30, .istore_n 2, 1), (31, .iload_n 2, 1), (32, .aload_n 0, 1), (33, .getfield 27, 3), (36, .if_icmp .ge 62, 3), (39, .aload_n 0, 1), (40, .getfield 18, 3), (43, .iload_n 2, 1), (44, .iaload, 1), (45, .ifCond .lt 47, 3), (48, .aload_n 0, 1), (49, .getfield 24, 3), (52, .aload_n 0, 1), (53, .getfield 9, 3), (56, .iload_n 2, 1), (57, .iaload, 1), (58, .aload_n 0, 1), (59, .getfield 15, 3), (62, .aload_n 0, 1), (63, .getfield 18, 3), (66, .iload_n 2, 1), (67, .iaload, 1), (68, .iaload, 1), (69, .iastore, 1), (70, .aload_n 0, 1), (71, .getfield 24, 3), (74, .aload_n 0, 1), (75, .getfield 15, 3), (78, .aload_n 0, 1), (79, .getfield 18, 3), (82, .iload_n 2, 1), (83, .iaload, 1), (84, .iaload, 1), (85, .aload_n 0, 1), (86, .getfield 9, 3), (89, .iload_n 2, 1), (90, .iaload, 1), (91, .iastore, 1), (92, .iinc 2 1, 3), (95, .goto (-64), 3), (98, .return_, 1)]
theorem tX3_keepIfBetter_0_ok : ∀ q ∈ tX3_keepIfBetter_0, decode cX3_keepIfBetter q.1 = .ok (q.2.1, q.2.2) := by decide +kernel
theorem pX3_keepIfBetter_0 : At cX3_keepIfBetter 0 (.aload_n 0) 1 1 := ⟨tX3_keepIfBetter_0_ok (0, .aload_n 0, 1) (List.mem_of_getElem? (i := 0) rfl), rfl⟩
theorem pX3_keepIfBetter_1 : At cX3_keepIfBetter 1 (.getfield 61) 3 4 := ⟨tX3_keepIfBetter_0_ok (1, .getfield 61, 3) (List.mem_of_getElem? (i := 1) rfl), rfl⟩
theorem pX3_keepIfBetter_4 : Bt cX3_keepIfBetter 4 (.ifCond .lt 12) 12 16 7 := ⟨tX3_keepIfBetter_0_ok (4, .ifCond .lt 12, 3) (List.mem_of_getElem? (i := 2) rfl), by decide, rfl⟩
theorem pX3_keepIfBetter_7 : At cX3_keepIfBetter 7 (.iload_n 1) 1 8 := ⟨tX3_keepIfBetter_0_ok (7, .iload_n 1, 1) (List.mem_of_getElem? (i := 3) rfl), rfl⟩
theorem pX3_keepIfBetter_8 : At cX3_keepIfBetter 8 (.aload_n 0) 1 9 := ⟨tX3_keepIfBetter_0_ok (8, .aload_n 0, 1) (List.mem_of_getElem? (i := 4) rfl), rfl⟩
theorem pX3_keepIfBetter_9 : At cX3_keepIfBetter 9 (.getfield 61) 3 12 := ⟨tX3_keepIfBetter_0_ok (9, .getfield 61, 3) (List.mem_of_getElem? (i := 5) rfl), rfl⟩
theorem pX3_keepIfBetter_12 : Bt cX3_keepIfBetter 12 (.if_icmp .lt 4) 4 16 15 := ⟨tX3_keepIfBetter_0_ok (12, .if_icmp .lt 4, 3) (List.mem_of_getElem? (i := 6) rfl), by decide, rfl⟩
theorem pX3_keepIfBetter_15 : At cX3_keepIfBetter 15 (.return_) 1 16 := ⟨tX3_keepIfBetter_0_ok (15, .return_, 1) (List.mem_of_getElem? (i := 7) rfl), rfl⟩
theorem pX3_keepIfBetter_16 : At cX3_keepIfBetter 16 (.aload_n 0) 1 17 := ⟨tX3_keepIfBetter_0_ok (16, .aload_n 0, 1) (List.mem_of_getElem? (i := 8) rfl), rfl⟩
theorem pX3_keepIfBetter_17 : At cX3_keepIfBetter 17 (.iload_n 1) 1 18 := ⟨tX3_keepIfBetter_0_ok (17, .iload_n 1, 1) (List.mem_of_getElem? (i := 9) rfl), rfl⟩
theorem pX3_keepIfBetter_18 : At cX3_keepIfBetter 18 (.putfield 61) 3 21 := ⟨tX3_keepIfBetter_0_ok (18, .putfield 61, 3) (List.mem_of_getElem? (i := 10) rfl), rfl⟩
theorem pX3_keepIfBetter_21 : At cX3_keepIfBetter 21 (.aload_n 0) 1 22 := ⟨tX3_keepIfBetter_0_ok (21, .aload_n 0, 1) (List.mem_of_getElem? (i := 11) rfl), rfl⟩
theorem pX3_keepIfBetter_22 : At cX3_keepIfBetter 22 (.getfield 24) 3 25 := ⟨tX3_keepIfBetter_0_ok (22, .getfield 24, 3) (List.mem_of_getElem? (i := 12) rfl), rfl⟩
theorem pX3_keepIfBetter_25 : At cX3_keepIfBetter 25 (.iconst (-1)) 1 26 := ⟨tX3_keepIfBetter_0_ok (25, .iconst (-1), 1) (List.mem_of_getElem? (i := 13) rfl), rfl⟩
theorem pX3_keepIfBetter_26 : At cX3_keepIfBetter 26 (.invokestatic 81) 3 29 := ⟨tX3_keepIfBetter_0_ok (26, .invokestatic 81, 3) (List.mem_of_getElem? (i := 14) rfl), rfl⟩
theorem pX3_keepIfBetter_29 : At cX3_keepIfBetter 29 (.iconst 0) 1 30 := ⟨tX3_keepIfBetter_0_ok (29, .iconst 0, 1) (List.mem_of_getElem? (i := 15) rfl), rfl⟩
theorem pX3_keepIfBetter_30 : At cX3_keepIfBetter 30 (.istore_n 2) 1 31 := ⟨tX3_keepIfBetter_0_ok (30, .istore_n 2, 1) (List.mem_of_getElem? (i := 16) rfl), rfl⟩
theorem pX3_keepIfBetter_31 : At cX3_keepIfBetter 31 (.iload_n 2) 1 32 := ⟨tX3_keepIfBetter_0_ok (31, .iload_n 2, 1) (List.mem_of_getElem? (i := 17) rfl), rfl⟩
theorem pX3_keepIfBetter_32 : At cX3_keepIfBetter 32 (.aload_n 0) 1 33 := ⟨tX3_keepIfBetter_0_ok (32, .aload_n 0, 1) (List.mem_of_getElem? (i := 18) rfl), rfl⟩
theorem pX3_keepIfBetter_33 : At cX3_keepIfBetter 33 (.getfield 27) 3 36 := ⟨tX3_keepIfBetter_0_ok (33, .getfield 27, 3) (List.mem_of_getElem? (i := 19) rfl), rfl⟩
theorem pX3_keepIfBetter_36 : Bt cX3_keepIfBetter 36 (.if_icmp .ge 62) 62 98 39 := ⟨tX3_keepIfBetter_0_ok (36, .if_icmp .ge 62, 3) (List.mem_of_getElem? (i := 20) rfl), by decide, rfl⟩
theorem pX3_keepIfBetter_39 : At cX3_keepIfBetter 39 (.aload_n 0) 1 40 := ⟨tX3_keepIfBetter_0_ok (39, .aload_n 0, 1) (List.mem_of_getElem? (i := 21) rfl), rfl⟩
theorem pX3_keepIfBetter_40 : At cX3_keepIfBetter 40 (.getfield 18) 3 43 := ⟨tX3_keepIfBetter_0_ok (40, .getfield 18, 3) (List.mem_of_getElem? (i := 22) rfl), rfl⟩
theorem pX3_keepIfBetter_43 : At cX3_keepIfBetter 43 (.iload_n 2) 1 44 := ⟨tX3_keepIfBetter_0_ok (43, .iload_n 2, 1) (List.mem_of_getElem? (i := 23) rfl), rfl⟩
theorem pX3_keepIfBetter_44 : At cX3_keepIfBetter 44 (.iaload) 1 45 := ⟨tX3_keepIfBetter_0_ok (44, .iaload, 1) (List.mem_of_getElem? (i := 24) rfl), rfl⟩
theorem pX3_keepIfBetter_45 : Bt cX3_keepIfBetter 45 (.ifCond .lt 47) 47 92 48 := ⟨tX3_keepIfBetter_0_ok (45, .ifCond .lt 47, 3) (List.mem_of_getElem? (i := 25) rfl), by decide, rfl⟩
theorem pX3_keepIfBetter_48 : At cX3_keepIfBetter 48 (.aload_n 0) 1 49 := ⟨tX3_keepIfBetter_0_ok (48, .aload_n 0, 1) (List.mem_of_getElem? (i := 26) rfl), rfl⟩
theorem pX3_keepIfBetter_49 : At cX3_keepIfBetter 49 (.getfield 24) 3 52 := ⟨tX3_keepIfBetter_0_ok (49, .getfield 24, 3) (List.mem_of_getElem? (i := 27) rfl), rfl⟩
theorem pX3_keepIfBetter_52 : At cX3_keepIfBetter 52 (.aload_n 0) 1 53 := ⟨tX3_keepIfBetter_0_ok (52, .aload_n 0, 1) (List.mem_of_getElem? (i := 28) rfl), rfl⟩
theorem pX3_keepIfBetter_53 : At cX3_keepIfBetter 53 (.getfield 9) 3 56 := ⟨tX3_keepIfBetter_0_ok (53, .getfield 9, 3) (List.mem_of_getElem? (i := 29) rfl), rfl⟩
theorem pX3_keepIfBetter_56 : At cX3_keepIfBetter 56 (.iload_n 2) 1 57 := ⟨tX3_keepIfBetter_0_ok (56, .iload_n 2, 1) (List.mem_of_getElem? (i := 30) rfl), rfl⟩
theorem pX3_keepIfBetter_57 : At cX3_keepIfBetter 57 (.iaload) 1 58 := ⟨tX3_keepIfBetter_0_ok (57, .iaload, 1) (List.mem_of_getElem? (i := 31) rfl), rfl⟩
theorem pX3_keepIfBetter_58 : At cX3_keepIfBetter 58 (.aload_n 0) 1 59 := ⟨tX3_keepIfBetter_0_ok (58, .aload_n 0, 1) (List.mem_of_getElem? (i := 32) rfl), rfl⟩
theorem pX3_keepIfBetter_59 : At cX3_keepIfBetter 59 (.getfield 15) 3 62 := ⟨tX3_keepIfBetter_0_ok (59, .getfield 15, 3) (List.mem_of_getElem? (i := 33) rfl), rfl⟩
theorem pX3_keepIfBetter_62 : At cX3_keepIfBetter 62 (.aload_n 0) 1 63 := ⟨tX3_keepIfBetter_0_ok (62, .aload_n 0, 1) (List.mem_of_getElem? (i := 34) rfl), rfl⟩
theorem pX3_keepIfBetter_63 : At cX3_keepIfBetter 63 (.getfield 18) 3 66 := ⟨tX3_keepIfBetter_0_ok (63, .getfield 18, 3) (List.mem_of_getElem? (i := 35) rfl), rfl⟩
theorem pX3_keepIfBetter_66 : At cX3_keepIfBetter 66 (.iload_n 2) 1 67 := ⟨tX3_keepIfBetter_0_ok (66, .iload_n 2, 1) (List.mem_of_getElem? (i := 36) rfl), rfl⟩
theorem pX3_keepIfBetter_67 : At cX3_keepIfBetter 67 (.iaload) 1 68 := ⟨tX3_keepIfBetter_0_ok (67, .iaload, 1) (List.mem_of_getElem? (i := 37) rfl), rfl⟩
theorem pX3_keepIfBetter_68 : At cX3_keepIfBetter 68 (.iaload) 1 69 := ⟨tX3_keepIfBetter_0_ok (68, .iaload, 1) (List.mem_of_getElem? (i := 38) rfl), rfl⟩
theorem pX3_keepIfBetter_69 : At cX3_keepIfBetter 69 (.iastore) 1 70 := ⟨tX3_keepIfBetter_0_ok (69, .iastore, 1) (List.mem_of_getElem? (i := 39) rfl), rfl⟩
theorem pX3_keepIfBetter_70 : At cX3_keepIfBetter 70 (.aload_n 0) 1 71 := ⟨tX3_keepIfBetter_0_ok (70, .aload_n 0, 1) (List.mem_of_getElem? (i := 40) rfl), rfl⟩
theorem pX3_keepIfBetter_71 : At cX3_keepIfBetter 71 (.getfield 24) 3 74 := ⟨tX3_keepIfBetter_0_ok (71, .getfield 24, 3) (List.mem_of_getElem? (i := 41) rfl), rfl⟩
theorem pX3_keepIfBetter_74 : At cX3_keepIfBetter 74 (.aload_n 0) 1 75 := ⟨tX3_keepIfBetter_0_ok (74, .aload_n 0, 1) (List.mem_of_getElem? (i := 42) rfl), rfl⟩
theorem pX3_keepIfBetter_75 : At cX3_keepIfBetter 75 (.getfield 15) 3 78 := ⟨tX3_keepIfBetter_0_ok (75, .getfield 15, 3) (List.mem_of_getElem? (i := 43) rfl), rfl⟩
theorem pX3_keepIfBetter_78 : At cX3_keepIfBetter 78 (.aload_n 0) 1 79 := ⟨tX3_keepIfBetter_0_ok (78, .aload_n 0, 1) (List.mem_of_getElem? (i := 44) rfl), rfl⟩
theorem pX3_keepIfBetter_79 : At cX3_keepIfBetter 79 (.getfield 18) 3 82 := ⟨tX3_keepIfBetter_0_ok (79, .getfield 18, 3) (List.mem_of_getElem? (i := 45) rfl), rfl⟩
theorem pX3_keepIfBetter_82 : At cX3_keepIfBetter 82 (.iload_n 2) 1 83 := ⟨tX3_keepIfBetter_0_ok (82, .iload_n 2, 1) (List.mem_of_getElem? (i := 46) rfl), rfl⟩
theorem pX3_keepIfBetter_83 : At cX3_keepIfBetter 83 (.iaload) 1 84 := ⟨tX3_keepIfBetter_0_ok (83, .iaload, 1) (List.mem_of_getElem? (i := 47) rfl), rfl⟩
theorem pX3_keepIfBetter_84 : At cX3_keepIfBetter 84 (.iaload) 1 85 := ⟨tX3_keepIfBetter_0_ok (84, .iaload, 1) (List.mem_of_getElem? (i := 48) rfl), rfl⟩
theorem pX3_keepIfBetter_85 : At cX3_keepIfBetter 85 (.aload_n 0) 1 86 := ⟨tX3_keepIfBetter_0_ok (85, .aload_n 0, 1) (List.mem_of_getElem? (i := 49) rfl), rfl⟩
theorem pX3_keepIfBetter_86 : At cX3_keepIfBetter 86 (.getfield 9) 3 89 := ⟨tX3_keepIfBetter_0_ok (86, .getfield 9, 3) (List.mem_of_getElem? (i := 50) rfl), rfl⟩
theorem pX3_keepIfBetter_89 : At cX3_keepIfBetter 89 (.iload_n 2) 1 90 := ⟨tX3_keepIfBetter_0_ok (89, .iload_n 2, 1) (List.mem_of_getElem? (i := 51) rfl), rfl⟩
theorem pX3_keepIfBetter_90 : At cX3_keepIfBetter 90 (.iaload) 1 91 := ⟨tX3_keepIfBetter_0_ok (90, .iaload, 1) (List.mem_of_getElem? (i := 52) rfl), rfl⟩
theorem pX3_keepIfBetter_91 : At cX3_keepIfBetter 91 (.iastore) 1 92 := ⟨tX3_keepIfBetter_0_ok (91, .iastore, 1) (List.mem_of_getElem? (i := 53) rfl), rfl⟩
theorem pX3_keepIfBetter_92 : At cX3_keepIfBetter 92 (.iinc 2 1) 3 95 := ⟨tX3_keepIfBetter_0_ok (92, .iinc 2 1, 3) (List.mem_of_getElem? (i := 54) rfl), rfl⟩
theorem pX3_keepIfBetter_95 : Bt cX3_keepIfBetter 95 (.goto (-64)) (-64) 31 98 := ⟨tX3_keepIfBetter_0_ok (95, .goto (-64), 3) (List.mem_of_getElem? (i := 55) rfl), by decide, rfl⟩
theorem pX3_keepIfBetter_98 : At cX3_keepIfBetter 98 (.return_) 1 99 := ⟨tX3_keepIfBetter_0_ok (98, .return_, 1) (List.mem_of_getElem? (i := 56) rfl), rfl⟩
def tX3_pairFrom_0 : List (Nat × Instr × Nat) := [(0, .iload_n 1, 1), (1, .aload_n 0, 1), (2, .getfield 27, 3), (5, .if_icmp .lt 9, 3), (8, .aload_n 0, 1), (9, .iload_n 3, 1), (10, .invokevirtual 68, 3), (13, .return_, 1), (14, .iconst 0, 1), (15, .istore 4, 2), (17, .iload 4, 2), (19, .aload_n 0, 1), (20, .getfield 31, 3), (23, .if_icmp .ge 68, 3), (26, .iload_n 2, 1), (27, .iload 4, 2), (29, .ishr, 1), (30, .iconst 1, 1), (31, .iand, 1), (32, .ifCond .ne 53, 3), (35, .aload_n 0, 1), (36, .getfield 18, 3), (39, .iload_n 1, 1), (40, .iload 4, 2), (42, .iastore, 1), (43, .aload_n 0, 1), (44, .iload_n 1, 1), (45, .iconst 1, 1), (46, .iadd, 1), (47, .iload_n 2, 1), (48, .iconst 1, 1), (49, .iload 4, 2), (51, .ishl, 1), (52, .ior, 1), (53, .iload_n 3, 1), (54, .aload_n 0, 1), (55, .getfield 21, 3), (58, .aload_n 0, 1), (59, .getfield 9, 3), (62, .iload_n 1, 1), (63, .iaload, 1), (64, .iaload, 1), (65, .aload_n 0, 1), (66, .getfield 21, 3), (69, .aload_n 0, 1), (70, .getfield 15, 3), (73, .iload 4, 2), (75, .iaload, 1), (76, .iaload, 1), (77, .isub, 1), (78, .invokestatic 72, 3), (81, .iadd, 1), (82, .invokevirtual 64, 3), (85, .iinc 4 1, 3), (88, .goto (-71), 3), (91, .iload_n 2, 1), (92, .invokestatic 76, 3), (95, .aload_n 0, 1), (96, .getfield 27, 3), (99, .iadd, 1), (100, .iload_n 1, 1), (101, .isub, 1), (102, .iconst 1, 1), (103, .isub, 1), (104, .aload_n 0, 1), (105, .getfield 58, 3), (108, .if_icmp .lt 19, 3), (111, .aload_n 0, 1), (112, .getfield 18, 3), (115, .iload_n 1, 1), (116, .iconst (-1), 1), (117, .iastore, 1), (118, .aload_n 0, 1), (119, .iload_n 1, 1), (120, .iconst 1, 1), (121, .iadd, 1), (122, .iload_n 2, 1), (123, .iload_n 3, 1), (124, .invokevirtual 64, 3), (127, .return_, 1)]
theorem tX3_pairFrom_0_ok : ∀ q ∈ tX3_pairFrom_0, decode cX3_pairFrom q.1 = .ok (q.2.1, q.2.2) := by decide +kernel
theorem pX3_pairFrom_0 : At cX3_pairFrom 0 (.iload_n 1) 1 1 := ⟨tX3_pairFrom_0_ok (0, .iload_n 1, 1) (List.mem_of_getElem? (i := 0) rfl), rfl⟩
theorem pX3_pairFrom_1 : At cX3_pairFrom 1 (.aload_n 0) 1 2 := ⟨tX3_pairFrom_0_ok (1, .aload_n 0, 1) (List.mem_of_getElem? (i := 1) rfl), rfl⟩
theorem pX3_pairFrom_2 : At cX3_pairFrom 2 (.getfield 27) 3 5 := ⟨tX3_pairFrom_0_ok (2, .getfield 27, 3) (List.mem_of_getElem? (i := 2) rfl), rfl⟩
theorem pX3_pairFrom_5 : Bt cX3_pairFrom 5 (.if_icmp .lt 9) 9 14 8 := ⟨tX3_pairFrom_0_ok (5, .if_icmp .lt 9, 3) (List.mem_of_getElem? (i := 3) rfl), by decide, rfl⟩
theorem pX3_pairFrom_8 : At cX3_pairFrom 8 (.aload_n 0) 1 9 := ⟨tX3_pairFrom_0_ok (8, .aload_n 0, 1) (List.mem_of_getElem? (i := 4) rfl), rfl⟩
theorem pX3_pairFrom_9 : At cX3_pairFrom 9 (.iload_n 3) 1 10 := ⟨tX3_pairFrom_0_ok (9, .iload_n 3, 1) (List.mem_of_getElem? (i := 5) rfl), rfl⟩
theorem pX3_pairFrom_10 : At cX3_pairFrom 10 (.invokevirtual 68) 3 13 := ⟨tX3_pairFrom_0_ok (10, .invokevirtual 68, 3) (List.mem_of_getElem? (i := 6) rfl), rfl⟩
theorem pX3_pairFrom_13 : At cX3_pairFrom 13 (.return_) 1 14 := ⟨tX3_pairFrom_0_ok (13, .return_, 1) (List.mem_of_getElem? (i := 7) rfl), rfl⟩
theorem pX3_pairFrom_14 : At cX3_pairFrom 14 (.iconst 0) 1 15 := ⟨tX3_pairFrom_0_ok (14, .iconst 0, 1) (List.mem_of_getElem? (i := 8) rfl), rfl⟩
theorem pX3_pairFrom_15 : At cX3_pairFrom 15 (.istore 4) 2 17 := ⟨tX3_pairFrom_0_ok (15, .istore 4, 2) (List.mem_of_getElem? (i := 9) rfl), rfl⟩
theorem pX3_pairFrom_17 : At cX3_pairFrom 17 (.iload 4) 2 19 := ⟨tX3_pairFrom_0_ok (17, .iload 4, 2) (List.mem_of_getElem? (i := 10) rfl), rfl⟩
theorem pX3_pairFrom_19 : At cX3_pairFrom 19 (.aload_n 0) 1 20 := ⟨tX3_pairFrom_0_ok (19, .aload_n 0, 1) (List.mem_of_getElem? (i := 11) rfl), rfl⟩
theorem pX3_pairFrom_20 : At cX3_pairFrom 20 (.getfield 31) 3 23 := ⟨tX3_pairFrom_0_ok (20, .getfield 31, 3) (List.mem_of_getElem? (i := 12) rfl), rfl⟩
theorem pX3_pairFrom_23 : Bt cX3_pairFrom 23 (.if_icmp .ge 68) 68 91 26 := ⟨tX3_pairFrom_0_ok (23, .if_icmp .ge 68, 3) (List.mem_of_getElem? (i := 13) rfl), by decide, rfl⟩
theorem pX3_pairFrom_26 : At cX3_pairFrom 26 (.iload_n 2) 1 27 := ⟨tX3_pairFrom_0_ok (26, .iload_n 2, 1) (List.mem_of_getElem? (i := 14) rfl), rfl⟩
theorem pX3_pairFrom_27 : At cX3_pairFrom 27 (.iload 4) 2 29 := ⟨tX3_pairFrom_0_ok (27, .iload 4, 2) (List.mem_of_getElem? (i := 15) rfl), rfl⟩
theorem pX3_pairFrom_29 : At cX3_pairFrom 29 (.ishr) 1 30 := ⟨tX3_pairFrom_0_ok (29, .ishr, 1) (List.mem_of_getElem? (i := 16) rfl), rfl⟩
theorem pX3_pairFrom_30 : At cX3_pairFrom 30 (.iconst 1) 1 31 := ⟨tX3_pairFrom_0_ok (30, .iconst 1, 1) (List.mem_of_getElem? (i := 17) rfl), rfl⟩
theorem pX3_pairFrom_31 : At cX3_pairFrom 31 (.iand) 1 32 := ⟨tX3_pairFrom_0_ok (31, .iand, 1) (List.mem_of_getElem? (i := 18) rfl), rfl⟩
theorem pX3_pairFrom_32 : Bt cX3_pairFrom 32 (.ifCond .ne 53) 53 85 35 := ⟨tX3_pairFrom_0_ok (32, .ifCond .ne 53, 3) (List.mem_of_getElem? (i := 19) rfl), by decide, rfl⟩
theorem pX3_pairFrom_35 : At cX3_pairFrom 35 (.aload_n 0) 1 36 := ⟨tX3_pairFrom_0_ok (35, .aload_n 0, 1) (List.mem_of_getElem? (i := 20) rfl), rfl⟩
theorem pX3_pairFrom_36 : At cX3_pairFrom 36 (.getfield 18) 3 39 := ⟨tX3_pairFrom_0_ok (36, .getfield 18, 3) (List.mem_of_getElem? (i := 21) rfl), rfl⟩
theorem pX3_pairFrom_39 : At cX3_pairFrom 39 (.iload_n 1) 1 40 := ⟨tX3_pairFrom_0_ok (39, .iload_n 1, 1) (List.mem_of_getElem? (i := 22) rfl), rfl⟩
theorem pX3_pairFrom_40 : At cX3_pairFrom 40 (.iload 4) 2 42 := ⟨tX3_pairFrom_0_ok (40, .iload 4, 2) (List.mem_of_getElem? (i := 23) rfl), rfl⟩
theorem pX3_pairFrom_42 : At cX3_pairFrom 42 (.iastore) 1 43 := ⟨tX3_pairFrom_0_ok (42, .iastore, 1) (List.mem_of_getElem? (i := 24) rfl), rfl⟩
theorem pX3_pairFrom_43 : At cX3_pairFrom 43 (.aload_n 0) 1 44 := ⟨tX3_pairFrom_0_ok (43, .aload_n 0, 1) (List.mem_of_getElem? (i := 25) rfl), rfl⟩
theorem pX3_pairFrom_44 : At cX3_pairFrom 44 (.iload_n 1) 1 45 := ⟨tX3_pairFrom_0_ok (44, .iload_n 1, 1) (List.mem_of_getElem? (i := 26) rfl), rfl⟩
theorem pX3_pairFrom_45 : At cX3_pairFrom 45 (.iconst 1) 1 46 := ⟨tX3_pairFrom_0_ok (45, .iconst 1, 1) (List.mem_of_getElem? (i := 27) rfl), rfl⟩
theorem pX3_pairFrom_46 : At cX3_pairFrom 46 (.iadd) 1 47 := ⟨tX3_pairFrom_0_ok (46, .iadd, 1) (List.mem_of_getElem? (i := 28) rfl), rfl⟩
theorem pX3_pairFrom_47 : At cX3_pairFrom 47 (.iload_n 2) 1 48 := ⟨tX3_pairFrom_0_ok (47, .iload_n 2, 1) (List.mem_of_getElem? (i := 29) rfl), rfl⟩
theorem pX3_pairFrom_48 : At cX3_pairFrom 48 (.iconst 1) 1 49 := ⟨tX3_pairFrom_0_ok (48, .iconst 1, 1) (List.mem_of_getElem? (i := 30) rfl), rfl⟩
theorem pX3_pairFrom_49 : At cX3_pairFrom 49 (.iload 4) 2 51 := ⟨tX3_pairFrom_0_ok (49, .iload 4, 2) (List.mem_of_getElem? (i := 31) rfl), rfl⟩
theorem pX3_pairFrom_51 : At cX3_pairFrom 51 (.ishl) 1 52 := ⟨tX3_pairFrom_0_ok (51, .ishl, 1) (List.mem_of_getElem? (i := 32) rfl), rfl⟩
theorem pX3_pairFrom_52 : At cX3_pairFrom 52 (.ior) 1 53 := ⟨tX3_pairFrom_0_ok (52, .ior, 1) (List.mem_of_getElem? (i := 33) rfl), rfl⟩
theorem pX3_pairFrom_53 : At cX3_pairFrom 53 (.iload_n 3) 1 54 := ⟨tX3_pairFrom_0_ok (53, .iload_n 3, 1) (List.mem_of_getElem? (i := 34) rfl), rfl⟩
theorem pX3_pairFrom_54 : At cX3_pairFrom 54 (.aload_n 0) 1 55 := ⟨tX3_pairFrom_0_ok (54, .aload_n 0, 1) (List.mem_of_getElem? (i := 35) rfl), rfl⟩
theorem pX3_pairFrom_55 : At cX3_pairFrom 55 (.getfield 21) 3 58 := ⟨tX3_pairFrom_0_ok (55, .getfield 21, 3) (List.mem_of_getElem? (i := 36) rfl), rfl⟩
theorem pX3_pairFrom_58 : At cX3_pairFrom 58 (.aload_n 0) 1 59 := ⟨tX3_pairFrom_0_ok (58, .aload_n 0, 1) (List.mem_of_getElem? (i := 37) rfl), rfl⟩
theorem pX3_pairFrom_59 : At cX3_pairFrom 59 (.getfield 9) 3 62 := ⟨tX3_pairFrom_0_ok (59, .getfield 9, 3) (List.mem_of_getElem? (i := 38) rfl), rfl⟩
theorem pX3_pairFrom_62 : At cX3_pairFrom 62 (.iload_n 1) 1 63 := ⟨tX3_pairFrom_0_ok (62, .iload_n 1, 1) (List.mem_of_getElem? (i := 39) rfl), rfl⟩
theorem pX3_pairFrom_63 : At cX3_pairFrom 63 (.iaload) 1 64 := ⟨tX3_pairFrom_0_ok (63, .iaload, 1) (List.mem_of_getElem? (i := 40) rfl), rfl⟩
theorem pX3_pairFrom_64 : At cX3_pairFrom 64 (.iaload) 1 65 := ⟨tX3_pairFrom_0_ok (64, .iaload, 1) (List.mem_of_getElem? (i := 41) rfl), rfl⟩
theorem pX3_pairFrom_65 : At cX3_pairFrom 65 (.aload_n 0) 1 66 := ⟨tX3_pairFrom_0_ok (65, .aload_n 0, 1) (List.mem_of_getElem? (i := 42) rfl), rfl⟩
theorem pX3_pairFrom_66 : At cX3_pairFrom 66 (.getfield 21) 3 69 := ⟨tX3_pairFrom_0_ok (66, .getfield 21, 3) (List.mem_of_getElem? (i := 43) rfl), rfl⟩
theorem pX3_pairFrom_69 : At cX3_pairFrom 69 (.aload_n 0) 1 70 := ⟨tX3_pairFrom_0_ok (69, .aload_n 0, 1) (List.mem_of_getElem? (i := 44) rfl), rfl⟩
theorem pX3_pairFrom_70 : At cX3_pairFrom 70 (.getfield 15) 3 73 := ⟨tX3_pairFrom_0_ok (70, .getfield 15, 3) (List.mem_of_getElem? (i := 45) rfl), rfl⟩
theorem pX3_pairFrom_73 : At cX3_pairFrom 73 (.iload 4) 2 75 := ⟨tX3_pairFrom_0_ok (73, .iload 4, 2) (List.mem_of_getElem? (i := 46) rfl), rfl⟩
theorem pX3_pairFrom_75 : At cX3_pairFrom 75 (.iaload) 1 76 := ⟨tX3_pairFrom_0_ok (75, .iaload, 1) (List.mem_of_getElem? (i := 47) rfl), rfl⟩
theorem pX3_pairFrom_76 : At cX3_pairFrom 76 (.iaload) 1 77 := ⟨tX3_pairFrom_0_ok (76, .iaload, 1) (List.mem_of_getElem? (i := 48) rfl), rfl⟩
theorem pX3_pairFrom_77 : At cX3_pairFrom 77 (.isub) 1 78 := ⟨tX3_pairFrom_0_ok (77, .isub, 1) (List.mem_of_getElem? (i := 49) rfl), rfl⟩
theorem pX3_pairFrom_78 : At cX3_pairFrom 78 (.invokestatic 72) 3 81 := ⟨tX3_pairFrom_0_ok (78, .invokestatic 72, 3) (List.mem_of_getElem? (i := 50) rfl), rfl⟩
theorem pX3_pairFrom_81 : At cX3_pairFrom 81 (.iadd) 1 82 := ⟨tX3_pairFrom_0_ok (81, .iadd, 1) (List.mem_of_getElem? (i := 51) rfl), rfl⟩
theorem pX3_pairFrom_82 : At cX3_pairFrom 82 (.invokevirtual 64) 3 85 := ⟨tX3_pairFrom_0_ok (82, .invokevirtual 64, 3) (List.mem_of_getElem? (i := 52) rfl), rfl⟩
theorem pX3_pairFrom_85 : At cX3_pairFrom 85 (.iinc 4 1) 3 88 := ⟨tX3_pairFrom_0_ok (85, .iinc 4 1, 3) (List.mem_of_getElem? (i := 53) rfl), rfl⟩
theorem pX3_pairFrom_88 : Bt cX3_pairFrom 88 (.goto (-71)) (-71) 17 91 := ⟨tX3_pairFrom_0_ok (88, .goto (-71), 3) (List.mem_of_getElem? (i := 54) rfl), by decide, rfl⟩
theorem pX3_pairFrom_91 : At cX3_pairFrom 91 (.iload_n 2) 1 92 := ⟨tX3_pairFrom_0_ok (91, .iload_n 2, 1) (List.mem_of_getElem? (i := 55) rfl), rfl⟩
theorem pX3_pairFrom_92 : At cX3_pairFrom 92 (.invokestatic 76) 3 95 := ⟨tX3_pairFrom_0_ok (92, .invokestatic 76, 3) (List.mem_of_getElem? (i := 56) rfl), rfl⟩
theorem pX3_pairFrom_95 : At cX3_pairFrom 95 (.aload_n 0) 1 96 := ⟨tX3_pairFrom_0_ok (95, .aload_n 0, 1) (List.mem_of_getElem? (i := 57) rfl), rfl⟩
theorem pX3_pairFrom_96 : At cX3_pairFrom 96 (.getfield 27) 3 99 := ⟨tX3_pairFrom_0_ok (96, .getfield 27, 3) (List.mem_of_getElem? (i := 58) rfl), rfl⟩
theorem pX3_pairFrom_99 : At cX3_pairFrom 99 (.iadd) 1 100 := ⟨tX3_pairFrom_0_ok (99, .iadd, 1) (List.mem_of_getElem? (i := 59) rfl), rfl⟩
theorem pX3_pairFrom_100 : At cX3_pairFrom 100 (.iload_n 1) 1 101 := ⟨tX3_pairFrom_0_ok (100, .iload_n 1, 1) (List.mem_of_getElem? (i := 60) rfl), rfl⟩
theorem pX3_pairFrom_101 : At cX3_pairFrom 101 (.isub) 1 102 := ⟨tX3_pairFrom_0_ok (101, .isub, 1) (List.mem_of_getElem? (i := 61) rfl), rfl⟩
theorem pX3_pairFrom_102 : At cX3_pairFrom 102 (.iconst 1) 1 103 := ⟨tX3_pairFrom_0_ok (102, .iconst 1, 1) (List.mem_of_getElem? (i := 62) rfl), rfl⟩
theorem pX3_pairFrom_103 : At cX3_pairFrom 103 (.isub) 1 104 := ⟨tX3_pairFrom_0_ok (103, .isub, 1) (List.mem_of_getElem? (i := 63) rfl), rfl⟩
theorem pX3_pairFrom_104 : At cX3_pairFrom 104 (.aload_n 0) 1 105 := ⟨tX3_pairFrom_0_ok (104, .aload_n 0, 1) (List.mem_of_getElem? (i := 64) rfl), rfl⟩
theorem pX3_pairFrom_105 : At cX3_pairFrom 105 (.getfield 58) 3 108 := ⟨tX3_pairFrom_0_ok (105, .getfield 58, 3) (List.mem_of_getElem? (i := 65) rfl), rfl⟩
theorem pX3_pairFrom_108 : Bt cX3_pairFrom 108 (.if_icmp .lt 19) 19 127 111 := ⟨tX3_pairFrom_0_ok (108, .if_icmp .lt 19, 3) (List.mem_of_getElem? (i := 66) rfl), by decide, rfl⟩
theorem pX3_pairFrom_111 : At cX3_pairFrom 111 (.aload_n 0) 1 112 := ⟨tX3_pairFrom_0_ok (111, .aload_n 0, 1) (List.mem_of_getElem? (i := 67) rfl), rfl⟩
theorem pX3_pairFrom_112 : At cX3_pairFrom 112 (.getfield 18) 3 115 := ⟨tX3_pairFrom_0_ok (112, .getfield 18, 3) (List.mem_of_getElem? (i := 68) rfl), rfl⟩
theorem pX3_pairFrom_115 : At cX3_pairFrom 115 (.iload_n 1) 1 116 := ⟨tX3_pairFrom_0_ok (115, .iload_n 1, 1) (List.mem_of_getElem? (i := 69) rfl), rfl⟩
theorem pX3_pairFrom_116 : At cX3_pairFrom 116 (.iconst (-1)) 1 117 := ⟨tX3_pairFrom_0_ok (116, .iconst (-1), 1) (List.mem_of_getElem? (i := 70) rfl), rfl⟩
theorem pX3_pairFrom_117 : At cX3_pairFrom 117 (.iastore) 1 118 := ⟨tX3_pairFrom_0_ok (117, .iastore, 1) (List.mem_of_getElem? (i := 71) rfl), rfl⟩
theorem pX3_pairFrom_118 : At cX3_pairFrom 118 (.aload_n 0) 1 119 := ⟨tX3_pairFrom_0_ok (118, .aload_n 0, 1) (List.mem_of_getElem? (i := 72) rfl), rfl⟩
theorem pX3_pairFrom_119 : At cX3_pairFrom 119 (.iload_n 1) 1 120 := ⟨tX3_pairFrom_0_ok (119, .iload_n 1, 1) (List.mem_of_getElem? (i := 73) rfl), rfl⟩
theorem pX3_pairFrom_120 : At cX3_pairFrom 120 (.iconst 1) 1 121 := ⟨tX3_pairFrom_0_ok (120, .iconst 1, 1) (List.mem_of_getElem? (i := 74) rfl), rfl⟩
theorem pX3_pairFrom_121 : At cX3_pairFrom 121 (.iadd) 1 122 := ⟨tX3_pairFrom_0_ok (121, .iadd, 1) (List.mem_of_getElem? (i := 75) rfl), rfl⟩
theorem pX3_pairFrom_122 : At cX3_pairFrom 122 (.iload_n 2) 1 123 := ⟨tX3_pairFrom_0_ok (122, .iload_n 2, 1) (List.mem_of_getElem? (i := 76) rfl), rfl⟩
theorem pX3_pairFrom_123 : At cX3_pairFrom 123 (.iload_n 3) 1 124 := ⟨tX3_pairFrom_0_ok (123, .iload_n 3, 1) (List.mem_of_getElem? (i := 77) rfl), rfl⟩
theorem pX3_pairFrom_124 : At cX3_pairFrom 124 (.invokevirtual 64) 3 127 := ⟨tX3_pairFrom_0_ok (124, .invokevirtual 64, 3) (List.mem_of_getElem? (i := 78) rfl), rfl⟩
theorem pX3_pairFrom_127 : At cX3_pairFrom 127 (.return_) 1 128 := ⟨tX3_pairFrom_0_ok (127, .return_, 1) (List.mem_of_getElem? (i := 79) rfl), rfl⟩
def tX3_balance_0 : List (Nat × Instr × Nat) := [(0, .aload_n 0, 1), (1, .iconst 0, 1), (2, .putfield 27, 3), (5, .aload_n 0, 1), (6, .iconst 0, 1), (7, .putfield 31, 3), (10, .iconst 0, 1), (11, .istore_n 2, 1), (12, .iload_n 2, 1), (13, .aload_n 1, 1), (14, .getfield 34, 3), (17, .if_icmp .ge 93, 3), (20, .aload_n 0, 1), (21, .getfield 21, 3), (24, .iload_n 2, 1), (25, .aload_n 1, 1), (26, .getfield 39, 3), (29, .iload_n 2, 1), (30, .aaload, 1), (31, .invokevirtual 43, 3), (34, .iastore, 1), (35, .aload_n 1, 1), (36, .getfield 39, 3), (39, .iload_n 2, 1), (40, .aaload, 1), (41, .getfield 49, 3), (44, .ifCond .ne 26, 3), (47, .aload_n 0, 1), (48, .getfield 9, 3), (51, .aload_n 0, 1), (52, .getfield 27, 3), (55, .iload_n 2, 1), (56, .iastore, 1), (57, .aload_n 0, 1), (58, .dup, 1), (59, .getfield 27, 3), (62, .iconst 1, 1), (63, .iadd, 1), (64, .putfield 27, 3), (67, .goto 37, 3), (70, .aload_n 1, 1), (71, .getfield 39, 3), (74, .iload_n 2, 1), (75, .aaload, 1), (76, .getfield 49, 3), (79, .bipush 40, 2), (81, .if_icmp .ne 23, 3), (84, .aload_n 0, 1), (85, .getfield 15, 3), (88, .aload_n 0, 1), (89, .getfield 31, 3), (92, .iload_n 2, 1), (93, .iastore, 1), (94, .aload_n 0, 1), (95, .dup, 1), (96, .getfield 31, 3), (99, .iconst 1, 1), (100, .iadd, 1), (101, .putfield 31, 3), (104, .iinc 2 1, 3), (107, .goto (-95), 3), (110, .aload_n 0, 1), (111, .aload_n 0, 1), (112, .getfield 27, 3), (115, .aload_n 0, 1), (116, .getfield 31, 3), (119, .invokestatic 52, 3), (122, .putfield 58, 3), (125, .aload_n 0, 1), (126, .iconst (-1), 1), (127, .putfield 61, 3), (130, .aload_n 0, 1), (131, .iconst 0, 1), (132, .iconst 0, 1), (133, .iconst 0, 1), (134, .invokevirtual 64, 3), (137, .return_, 1)]
theorem tX3_balance_0_ok : ∀ q ∈ tX3_balance_0, decode cX3_balance q.1 = .ok (q.2.1, q.2.2) := by decide +kernel
theorem pX3_balance_0 : At cX3_balance 0 (.aload_n 0) 1 1 := ⟨tX3_balance_0_ok (0, .aload_n 0, 1) (List.mem_of_getElem? (i := 0) rfl), rfl⟩
theorem pX3_balance_1 : At cX3_balance 1 (.iconst 0) 1 2 := ⟨tX3_balance_0_ok (1, .iconst 0, 1) (List.mem_of_getElem? (i := 1) rfl), rfl⟩
theorem pX3_balance_2 : At cX3_balance 2 (.putfield 27) 3 5 := ⟨tX3_balance_0_ok (2, .putfield 27, 3) (List.mem_of_getElem? (i := 2) rfl), rfl⟩
theorem pX3_balance_5 : At cX3_balance 5 (.aload_n 0) 1 6 := ⟨tX3_balance_0_ok (5, .aload_n 0, 1) (List.mem_of_getElem? (i := 3) rfl), rfl⟩
theorem pX3_balance_6 : At cX3_balance 6 (.iconst 0) 1 7 := ⟨tX3_balance_0_ok (6, .iconst 0, 1) (List.mem_of_getElem? (i := 4) rfl), rfl⟩
theorem pX3_balance_7 : At cX3_balance 7 (.putfield 31) 3 10 := ⟨tX3_balance_0_ok (7, .putfield 31, 3) (List.mem_of_getElem? (i := 5) rfl), rfl⟩
theorem pX3_balance_10 : At cX3_balance 10 (.iconst 0) 1 11 := ⟨tX3_balance_0_ok (10, .iconst 0, 1) (List.mem_of_getElem? (i := 6) rfl), rfl⟩
theorem pX3_balance_11 : At cX3_balance 11 (.istore_n 2) 1 12 := ⟨tX3_balance_0_ok (11, .istore_n 2, 1) (List.mem_of_getElem? (i := 7) rfl), rfl⟩
theorem pX3_balance_12 : At cX3_balance 12 (.iload_n 2) 1 13 := ⟨tX3_balance_0_ok (12, .iload_n 2, 1) (List.mem_of_getElem? (i := 8) rfl), rfl⟩
theorem pX3_balance_13 : At cX3_balance 13 (.aload_n 1) 1 14 := ⟨tX3_balance_0_ok (13, .aload_n 1, 1) (List.mem_of_getElem? (i := 9) rfl), rfl⟩
theorem pX3_balance_14 : At cX3_balance 14 (.getfield 34) 3 17 := ⟨tX3_balance_0_ok (14, .getfield 34, 3) (List.mem_of_getElem? (i := 10) rfl), rfl⟩
theorem pX3_balance_17 : Bt cX3_balance 17 (.if_icmp .ge 93) 93 110 20 := ⟨tX3_balance_0_ok (17, .if_icmp .ge 93, 3) (List.mem_of_getElem? (i := 11) rfl), by decide, rfl⟩
theorem pX3_balance_20 : At cX3_balance 20 (.aload_n 0) 1 21 := ⟨tX3_balance_0_ok (20, .aload_n 0, 1) (List.mem_of_getElem? (i := 12) rfl), rfl⟩
theorem pX3_balance_21 : At cX3_balance 21 (.getfield 21) 3 24 := ⟨tX3_balance_0_ok (21, .getfield 21, 3) (List.mem_of_getElem? (i := 13) rfl), rfl⟩
theorem pX3_balance_24 : At cX3_balance 24 (.iload_n 2) 1 25 := ⟨tX3_balance_0_ok (24, .iload_n 2, 1) (List.mem_of_getElem? (i := 14) rfl), rfl⟩
theorem pX3_balance_25 : At cX3_balance 25 (.aload_n 1) 1 26 := ⟨tX3_balance_0_ok (25, .aload_n 1, 1) (List.mem_of_getElem? (i := 15) rfl), rfl⟩
theorem pX3_balance_26 : At cX3_balance 26 (.getfield 39) 3 29 := ⟨tX3_balance_0_ok (26, .getfield 39, 3) (List.mem_of_getElem? (i := 16) rfl), rfl⟩
theorem pX3_balance_29 : At cX3_balance 29 (.iload_n 2) 1 30 := ⟨tX3_balance_0_ok (29, .iload_n 2, 1) (List.mem_of_getElem? (i := 17) rfl), rfl⟩
theorem pX3_balance_30 : At cX3_balance 30 (.aaload) 1 31 := ⟨tX3_balance_0_ok (30, .aaload, 1) (List.mem_of_getElem? (i := 18) rfl), rfl⟩
theorem pX3_balance_31 : At cX3_balance 31 (.invokevirtual 43) 3 34 := ⟨tX3_balance_0_ok (31, .invokevirtual 43, 3) (List.mem_of_getElem? (i := 19) rfl), rfl⟩
theorem pX3_balance_34 : At cX3_balance 34 (.iastore) 1 35 := ⟨tX3_balance_0_ok (34, .iastore, 1) (List.mem_of_getElem? (i := 20) rfl), rfl⟩
theorem pX3_balance_35 : At cX3_balance 35 (.aload_n 1) 1 36 := ⟨tX3_balance_0_ok (35, .aload_n 1, 1) (List.mem_of_getElem? (i := 21) rfl), rfl⟩
theorem pX3_balance_36 : At cX3_balance 36 (.getfield 39) 3 39 := ⟨tX3_balance_0_ok (36, .getfield 39, 3) (List.mem_of_getElem? (i := 22) rfl), rfl⟩
theorem pX3_balance_39 : At cX3_balance 39 (.iload_n 2) 1 40 := ⟨tX3_balance_0_ok (39, .iload_n 2, 1) (List.mem_of_getElem? (i := 23) rfl), rfl⟩
theorem pX3_balance_40 : At cX3_balance 40 (.aaload) 1 41 := ⟨tX3_balance_0_ok (40, .aaload, 1) (List.mem_of_getElem? (i := 24) rfl), rfl⟩
theorem pX3_balance_41 : At cX3_balance 41 (.getfield 49) 3 44 := ⟨tX3_balance_0_ok (41, .getfield 49, 3) (List.mem_of_getElem? (i := 25) rfl), rfl⟩
theorem pX3_balance_44 : Bt cX3_balance 44 (.ifCond .ne 26) 26 70 47 := ⟨tX3_balance_0_ok (44, .ifCond .ne 26, 3) (List.mem_of_getElem? (i := 26) rfl), by decide, rfl⟩
theorem pX3_balance_47 : At cX3_balance 47 (.aload_n 0) 1 48 := ⟨tX3_balance_0_ok (47, .aload_n 0, 1) (List.mem_of_getElem? (i := 27) rfl), rfl⟩
theorem pX3_balance_48 : At cX3_balance 48 (.getfield 9) 3 51 := ⟨tX3_balance_0_ok (48, .getfield 9, 3) (List.mem_of_getElem? (i := 28) rfl), rfl⟩
theorem pX3_balance_51 : At cX3_balance 51 (.aload_n 0) 1 52 := ⟨tX3_balance_0_ok (51, .aload_n 0, 1) (List.mem_of_getElem? (i := 29) rfl), rfl⟩
theorem pX3_balance_52 : At cX3_balance 52 (.getfield 27) 3 55 := ⟨tX3_balance_0_ok (52, .getfield 27, 3) (List.mem_of_getElem? (i := 30) rfl), rfl⟩
theorem pX3_balance_55 : At cX3_balance 55 (.iload_n 2) 1 56 := ⟨tX3_balance_0_ok (55, .iload_n 2, 1) (List.mem_of_getElem? (i := 31) rfl), rfl⟩
theorem pX3_balance_56 : At cX3_balance 56 (.iastore) 1 57 := ⟨tX3_balance_0_ok (56, .iastore, 1) (List.mem_of_getElem? (i := 32) rfl), rfl⟩
theorem pX3_balance_57 : At cX3_balance 57 (.aload_n 0) 1 58 := ⟨tX3_balance_0_ok (57, .aload_n 0, 1) (List.mem_of_getElem? (i := 33) rfl), rfl⟩
theorem pX3_balance_58 : At cX3_balance 58 (.dup) 1 59 := ⟨tX3_balance_0_ok (58, .dup, 1) (List.mem_of_getElem? (i := 34) rfl), rfl⟩
theorem pX3_balance_59 : At cX3_balance 59 (.getfield 27) 3 62 := ⟨tX3_balance_0_ok (59, .getfield 27, 3) (List.mem_of_getElem? (i := 35) rfl), rfl⟩
theorem pX3_balance_62 : At cX3_balance 62 (.iconst 1) 1 63 := ⟨tX3_balance_0_ok (62, .iconst 1, 1) (List.mem_of_getElem? (i := 36) rfl), rfl⟩
theorem pX3_balance_63 : At cX3_balance 63 (.iadd) 1 64 := ⟨tX3_balance_0_ok (63, .iadd, 1) (List.mem_of_getElem? (i := 37) rfl), rfl⟩
theorem pX3_balance_64 : At cX3_balance 64 (.putfield 27) 3 67 := ⟨tX3_balance_0_ok (64, .putfield 27, 3) (List.mem_of_getElem? (i := 38) rfl), rfl⟩
theorem pX3_balance_67 : Bt cX3_balance 67 (.goto 37) 37 104 70 := ⟨tX3_balance_0_ok (67, .goto 37, 3) (List.mem_of_getElem? (i := 39) rfl), by decide, rfl⟩
theorem pX3_balance_70 : At cX3_balance 70 (.aload_n 1) 1 71 := ⟨tX3_balance_0_ok (70, .aload_n 1, 1) (List.mem_of_getElem? (i := 40) rfl), rfl⟩
theorem pX3_balance_71 : At cX3_balance 71 (.getfield 39) 3 74 := ⟨tX3_balance_0_ok (71, .getfield 39, 3) (List.mem_of_getElem? (i := 41) rfl), rfl⟩
theorem pX3_balance_74 : At cX3_balance 74 (.iload_n 2) 1 75 := ⟨tX3_balance_0_ok (74, .iload_n 2, 1) (List.mem_of_getElem? (i := 42) rfl), rfl⟩
theorem pX3_balance_75 : At cX3_balance 75 (.aaload) 1 76 := ⟨tX3_balance_0_ok (75, .aaload, 1) (List.mem_of_getElem? (i := 43) rfl), rfl⟩
theorem pX3_balance_76 : At cX3_balance 76 (.getfield 49) 3 79 := ⟨tX3_balance_0_ok (76, .getfield 49, 3) (List.mem_of_getElem? (i := 44) rfl), rfl⟩
theorem pX3_balance_79 : At cX3_balance 79 (.bipush 40) 2 81 := ⟨tX3_balance_0_ok (79, .bipush 40, 2) (List.mem_of_getElem? (i := 45) rfl), rfl⟩
theorem pX3_balance_81 : Bt cX3_balance 81 (.if_icmp .ne 23) 23 104 84 := ⟨tX3_balance_0_ok (81, .if_icmp .ne 23, 3) (List.mem_of_getElem? (i := 46) rfl), by decide, rfl⟩
theorem pX3_balance_84 : At cX3_balance 84 (.aload_n 0) 1 85 := ⟨tX3_balance_0_ok (84, .aload_n 0, 1) (List.mem_of_getElem? (i := 47) rfl), rfl⟩
theorem pX3_balance_85 : At cX3_balance 85 (.getfield 15) 3 88 := ⟨tX3_balance_0_ok (85, .getfield 15, 3) (List.mem_of_getElem? (i := 48) rfl), rfl⟩
theorem pX3_balance_88 : At cX3_balance 88 (.aload_n 0) 1 89 := ⟨tX3_balance_0_ok (88, .aload_n 0, 1) (List.mem_of_getElem? (i := 49) rfl), rfl⟩
theorem pX3_balance_89 : At cX3_balance 89 (.getfield 31) 3 92 := ⟨tX3_balance_0_ok (89, .getfield 31, 3) (List.mem_of_getElem? (i := 50) rfl), rfl⟩
theorem pX3_balance_92 : At cX3_balance 92 (.iload_n 2) 1 93 := ⟨tX3_balance_0_ok (92, .iload_n 2, 1) (List.mem_of_getElem? (i := 51) rfl), rfl⟩
theorem pX3_balance_93 : At cX3_balance 93 (.iastore) 1 94 := ⟨tX3_balance_0_ok (93, .iastore, 1) (List.mem_of_getElem? (i := 52) rfl), rfl⟩
theorem pX3_balance_94 : At cX3_balance 94 (.aload_n 0) 1 95 := ⟨tX3_balance_0_ok (94, .aload_n 0, 1) (List.mem_of_getElem? (i := 53) rfl), rfl⟩
theorem pX3_balance_95 : At cX3_balance 95 (.dup) 1 96 := ⟨tX3_balance_0_ok (95, .dup, 1) (List.mem_of_getElem? (i := 54) rfl), rfl⟩
theorem pX3_balance_96 : At cX3_balance 96 (.getfield 31) 3 99 := ⟨tX3_balance_0_ok (96, .getfield 31, 3) (List.mem_of_getElem? (i := 55) rfl), rfl⟩
theorem pX3_balance_99 : At cX3_balance 99 (.iconst 1) 1 100 := ⟨tX3_balance_0_ok (99, .iconst 1, 1) (List.mem_of_getElem? (i := 56) rfl), rfl⟩
theorem pX3_balance_100 : At cX3_balance 100 (.iadd) 1 101 := ⟨tX3_balance_0_ok (100, .iadd, 1) (List.mem_of_getElem? (i := 57) rfl), rfl⟩
theorem pX3_balance_101 : At cX3_balance 101 (.putfield 31) 3 104 := ⟨tX3_balance_0_ok (101, .putfield 31, 3) (List.mem_of_getElem? (i := 58) rfl), rfl⟩
theorem pX3_balance_104 : At cX3_balance 104 (.iinc 2 1) 3 107 := ⟨tX3_balance_0_ok (104, .iinc 2 1, 3) (List.mem_of_getElem? (i := 59) rfl), rfl⟩
theorem pX3_balance_107 : Bt cX3_balance 107 (.goto (-95)) (-95) 12 110 := ⟨tX3_balance_0_ok (107, .goto (-95), 3) (List.mem_of_getElem? (i := 60) rfl), by decide, rfl⟩
theorem pX3_balance_110 : At cX3_balance 110 (.aload_n 0) 1 111 := ⟨tX3_balance_0_ok (110, .aload_n 0, 1) (List.mem_of_getElem? (i := 61) rfl), rfl⟩
theorem pX3_balance_111 : At cX3_balance 111 (.aload_n 0) 1 112 := ⟨tX3_balance_0_ok (111, .aload_n 0, 1) (List.mem_of_getElem? (i := 62) rfl), rfl⟩
theorem pX3_balance_112 : At cX3_balance 112 (.getfield 27) 3 115 := ⟨tX3_balance_0_ok (112, .getfield 27, 3) (List.mem_of_getElem? (i := 63) rfl), rfl⟩
theorem pX3_balance_115 : At cX3_balance 115 (.aload_n 0) 1 116 := ⟨tX3_balance_0_ok (115, .aload_n 0, 1) (List.mem_of_getElem? (i := 64) rfl), rfl⟩
theorem pX3_balance_116 : At cX3_balance 116 (.getfield 31) 3 119 := ⟨tX3_balance_0_ok (116, .getfield 31, 3) (List.mem_of_getElem? (i := 65) rfl), rfl⟩
theorem pX3_balance_119 : At cX3_balance 119 (.invokestatic 52) 3 122 := ⟨tX3_balance_0_ok (119, .invokestatic 52, 3) (List.mem_of_getElem? (i := 66) rfl), rfl⟩
theorem pX3_balance_122 : At cX3_balance 122 (.putfield 58) 3 125 := ⟨tX3_balance_0_ok (122, .putfield 58, 3) (List.mem_of_getElem? (i := 67) rfl), rfl⟩
theorem pX3_balance_125 : At cX3_balance 125 (.aload_n 0) 1 126 := ⟨tX3_balance_0_ok (125, .aload_n 0, 1) (List.mem_of_getElem? (i := 68) rfl), rfl⟩
theorem pX3_balance_126 : At cX3_balance 126 (.iconst (-1)) 1 127 := ⟨tX3_balance_0_ok (126, .iconst (-1), 1) (List.mem_of_getElem? (i := 69) rfl), rfl⟩
theorem pX3_balance_127 : At cX3_balance 127 (.putfield 61) 3 130 := ⟨tX3_balance_0_ok (127, .putfield 61, 3) (List.mem_of_getElem? (i := 70) rfl), rfl⟩
theorem pX3_balance_130 : At cX3_balance 130 (.aload_n 0) 1 131 := ⟨tX3_balance_0_ok (130, .aload_n 0, 1) (List.mem_of_getElem? (i := 71) rfl), rfl⟩
theorem pX3_balance_131 : At cX3_balance 131 (.iconst 0) 1 132 := ⟨tX3_balance_0_ok (131, .iconst 0, 1) (List.mem_of_getElem? (i := 72) rfl), rfl⟩
theorem pX3_balance_132 : At cX3_balance 132 (.iconst 0) 1 133 := ⟨tX3_balance_0_ok (132, .iconst 0, 1) (List.mem_of_getElem? (i := 73) rfl), rfl⟩
theorem pX3_balance_133 : At cX3_balance 133 (.iconst 0) 1 134 := ⟨tX3_balance_0_ok (133, .iconst 0, 1) (List.mem_of_getElem? (i := 74) rfl), rfl⟩
theorem pX3_balance_134 : At cX3_balance 134 (.invokevirtual 64) 3 137 := ⟨tX3_balance_0_ok (134, .invokevirtual 64, 3) (List.mem_of_getElem? (i := 75) rfl), rfl⟩
theorem pX3_balance_137 : At cX3_balance 137 (.return_) 1 138 := ⟨tX3_balance_0_ok (137, .return_, 1) (List.mem_of_getElem? (i := 76) rfl), rfl⟩
def tX6_isMissing_0 : List (Nat × Instr × Nat) := [(0, .aload_n 0, 1), (1, .getfield 15, 3), (4, .ifCond .ne 7, 3), (7, .iconst 1, 1), (8, .goto 4, 3), (11, .iconst 0, 1), (12, .ireturn, 1)]
theorem tX6_isMissing_0_ok : ∀ q ∈ tX6_isMissing_0, decode cX6_isMissing q.1 = .ok (q.2.1, q.2.2) := by decide +kernel
theorem pX6_isMissing_0 : At cX6_isMissing 0 (.aload_n 0) 1 1 := ⟨tX6_isMissing_0_ok (0, .aload_n 0, 1) (List.mem_of_getElem? (i := 0) rfl), rfl⟩
theorem pX6_isMissing_1 : At cX6_isMissing 1 (.getfield 15) 3 4 := ⟨tX6_isMissing_0_ok (1, .getfield 15, 3) (List.mem_of_getElem? (i := 1) rfl), rfl⟩
theorem pX6_isMissing_4 : Bt cX6_isMissing 4 (.ifCond .ne 7) 7 11 7 := ⟨tX6_isMissing_0_ok (4, .ifCond .ne 7, 3) (List.mem_of_getElem? (i := 2) rfl), by decide, rfl⟩
theorem pX6_isMissing_7 : At cX6_isMissing 7 (.iconst 1) 1 8 := ⟨tX6_isMissing_0_ok (7, .iconst 1, 1) (List.mem_of_getElem? (i := 3) rfl), rfl⟩
theorem pX6_isMissing_8 : Bt cX6_isMissing 8 (.goto 4) 4 12 11 := ⟨tX6_isMissing_0_ok (8, .goto 4, 3) (List.mem_of_getElem? (i := 4) rfl), by decide, rfl⟩
theorem pX6_isMissing_11 : At cX6_isMissing 11 (.iconst 0) 1 12 := ⟨tX6_isMissing_0_ok (11, .iconst 0, 1) (List.mem_of_getElem? (i := 5) rfl), rfl⟩
theorem pX6_isMissing_12 : At cX6_isMissing 12 (.ireturn) 1 13 := ⟨tX6_isMissing_0_ok (12, .ireturn, 1) (List.mem_of_getElem? (i := 6) rfl), rfl⟩
def tX7_goesSo_0 : List (Nat × Instr × Nat) := [(0, .iconst 0, 1), (1, .istore_n 2, 1), (2, .iload_n 2, 1), (3, .aload_n 1, 1), (4, .getfield 58, 3), (7, .if_icmp .ge 32, 3), (10, .aload_n 0, 1), (11, .invokevirtual 36, 3), (14, .pop, 1), (15, .aload_n 0, 1), (16, .getfield 12, 3), (19, .getfield 44, 3), (22, .aload_n 1, 1), (23, .getfield 63, 3), (26, .iload_n 2, 1), (27, .iaload, 1), (28, .if_icmp .eq 5, 3), (31, .iconst 0, 1), (32, .ireturn, 1), (33, .iinc 2 1, 3), (36, .goto (-34), 3), (39, .iconst 1, 1), (40, .ireturn, 1)]
theorem tX7_goesSo_0_ok : ∀ q ∈ tX7_goesSo_0, decode cX7_goesSo q.1 = .ok (q.2.1, q.2.2) := by decide +kernel
theorem pX7_goesSo_0 : At cX7_goesSo 0 (.iconst 0) 1 1 := ⟨tX7_goesSo_0_ok (0, .iconst 0, 1) (List.mem_of_getElem? (i := 0) rfl), rfl⟩
theorem pX7_goesSo_1 : At cX7_goesSo 1 (.istore_n 2) 1 2 := ⟨tX7_goesSo_0_ok (1, .istore_n 2, 1) (List.mem_of_getElem? (i := 1) rfl), rfl⟩
theorem pX7_goesSo_2 : At cX7_goesSo 2 (.iload_n 2) 1 3 := ⟨tX7_goesSo_0_ok (2, .iload_n 2, 1) (List.mem_of_getElem? (i := 2) rfl), rfl⟩
theorem pX7_goesSo_3 : At cX7_goesSo 3 (.aload_n 1) 1 4 := ⟨tX7_goesSo_0_ok (3, .aload_n 1, 1) (List.mem_of_getElem? (i := 3) rfl), rfl⟩
theorem pX7_goesSo_4 : At cX7_goesSo 4 (.getfield 58) 3 7 := ⟨tX7_goesSo_0_ok (4, .getfield 58, 3) (List.mem_of_getElem? (i := 4) rfl), rfl⟩
theorem pX7_goesSo_7 : Bt cX7_goesSo 7 (.if_icmp .ge 32) 32 39 10 := ⟨tX7_goesSo_0_ok (7, .if_icmp .ge 32, 3) (List.mem_of_getElem? (i := 5) rfl), by decide, rfl⟩
theorem pX7_goesSo_10 : At cX7_goesSo 10 (.aload_n 0) 1 11 := ⟨tX7_goesSo_0_ok (10, .aload_n 0, 1) (List.mem_of_getElem? (i := 6) rfl), rfl⟩
theorem pX7_goesSo_11 : At cX7_goesSo 11 (.invokevirtual 36) 3 14 := ⟨tX7_goesSo_0_ok (11, .invokevirtual 36, 3) (List.mem_of_getElem? (i := 7) rfl), rfl⟩
theorem pX7_goesSo_14 : At cX7_goesSo 14 (.pop) 1 15 := ⟨tX7_goesSo_0_ok (14, .pop, 1) (List.mem_of_getElem? (i := 8) rfl), rfl⟩
theorem pX7_goesSo_15 : At cX7_goesSo 15 (.aload_n 0) 1 16 := ⟨tX7_goesSo_0_ok (15, .aload_n 0, 1) (List.mem_of_getElem? (i := 9) rfl), rfl⟩
theorem pX7_goesSo_16 : At cX7_goesSo 16 (.getfield 12) 3 19 := ⟨tX7_goesSo_0_ok (16, .getfield 12, 3) (List.mem_of_getElem? (i := 10) rfl), rfl⟩
theorem pX7_goesSo_19 : At cX7_goesSo 19 (.getfield 44) 3 22 := ⟨tX7_goesSo_0_ok (19, .getfield 44, 3) (List.mem_of_getElem? (i := 11) rfl), rfl⟩
theorem pX7_goesSo_22 : At cX7_goesSo 22 (.aload_n 1) 1 23 := ⟨tX7_goesSo_0_ok (22, .aload_n 1, 1) (List.mem_of_getElem? (i := 12) rfl), rfl⟩
theorem pX7_goesSo_23 : At cX7_goesSo 23 (.getfield 63) 3 26 := ⟨tX7_goesSo_0_ok (23, .getfield 63, 3) (List.mem_of_getElem? (i := 13) rfl), rfl⟩
theorem pX7_goesSo_26 : At cX7_goesSo 26 (.iload_n 2) 1 27 := ⟨tX7_goesSo_0_ok (26, .iload_n 2, 1) (List.mem_of_getElem? (i := 14) rfl), rfl⟩
theorem pX7_goesSo_27 : At cX7_goesSo 27 (.iaload) 1 28 := ⟨tX7_goesSo_0_ok (27, .iaload, 1) (List.mem_of_getElem? (i := 15) rfl), rfl⟩
theorem pX7_goesSo_28 : Bt cX7_goesSo 28 (.if_icmp .eq 5) 5 33 31 := ⟨tX7_goesSo_0_ok (28, .if_icmp .eq 5, 3) (List.mem_of_getElem? (i := 16) rfl), by decide, rfl⟩
theorem pX7_goesSo_31 : At cX7_goesSo 31 (.iconst 0) 1 32 := ⟨tX7_goesSo_0_ok (31, .iconst 0, 1) (List.mem_of_getElem? (i := 17) rfl), rfl⟩
theorem pX7_goesSo_32 : At cX7_goesSo 32 (.ireturn) 1 33 := ⟨tX7_goesSo_0_ok (32, .ireturn, 1) (List.mem_of_getElem? (i := 18) rfl), rfl⟩
theorem pX7_goesSo_33 : At cX7_goesSo 33 (.iinc 2 1) 3 36 := ⟨tX7_goesSo_0_ok (33, .iinc 2 1, 3) (List.mem_of_getElem? (i := 19) rfl), rfl⟩
theorem pX7_goesSo_36 : Bt cX7_goesSo 36 (.goto (-34)) (-34) 2 39 := ⟨tX7_goesSo_0_ok (36, .goto (-34), 3) (List.mem_of_getElem? (i := 20) rfl), by decide, rfl⟩
theorem pX7_goesSo_39 : At cX7_goesSo 39 (.iconst 1) 1 40 := ⟨tX7_goesSo_0_ok (39, .iconst 1, 1) (List.mem_of_getElem? (i := 21) rfl), rfl⟩
theorem pX7_goesSo_40 : At cX7_goesSo 40 (.ireturn) 1 41 := ⟨tX7_goesSo_0_ok (40, .ireturn, 1) (List.mem_of_getElem? (i := 22) rfl), rfl⟩
def tX7_rollsSo_0 : List (Nat × Instr × Nat) := [(0, .aload_n 0, 1), (1, .getfield 12, 3), (4, .aload_n 1, 1), (5, .invokevirtual 32, 3), (8, .aload_n 0, 1), (9, .getfield 12, 3), (12, .iload_n 2, 1), (13, .putfield 48, 3), (16, .aload_n 0, 1), (17, .aload_n 3, 1), (18, .invokevirtual 51, 3), (21, .ireturn, 1)]
theorem tX7_rollsSo_0_ok : ∀ q ∈ tX7_rollsSo_0, decode cX7_rollsSo q.1 = .ok (q.2.1, q.2.2) := by decide +kernel
theorem pX7_rollsSo_0 : At cX7_rollsSo 0 (.aload_n 0) 1 1 := ⟨tX7_rollsSo_0_ok (0, .aload_n 0, 1) (List.mem_of_getElem? (i := 0) rfl), rfl⟩
theorem pX7_rollsSo_1 : At cX7_rollsSo 1 (.getfield 12) 3 4 := ⟨tX7_rollsSo_0_ok (1, .getfield 12, 3) (List.mem_of_getElem? (i := 1) rfl), rfl⟩
theorem pX7_rollsSo_4 : At cX7_rollsSo 4 (.aload_n 1) 1 5 := ⟨tX7_rollsSo_0_ok (4, .aload_n 1, 1) (List.mem_of_getElem? (i := 2) rfl), rfl⟩
theorem pX7_rollsSo_5 : At cX7_rollsSo 5 (.invokevirtual 32) 3 8 := ⟨tX7_rollsSo_0_ok (5, .invokevirtual 32, 3) (List.mem_of_getElem? (i := 3) rfl), rfl⟩
theorem pX7_rollsSo_8 : At cX7_rollsSo 8 (.aload_n 0) 1 9 := ⟨tX7_rollsSo_0_ok (8, .aload_n 0, 1) (List.mem_of_getElem? (i := 4) rfl), rfl⟩
theorem pX7_rollsSo_9 : At cX7_rollsSo 9 (.getfield 12) 3 12 := ⟨tX7_rollsSo_0_ok (9, .getfield 12, 3) (List.mem_of_getElem? (i := 5) rfl), rfl⟩
theorem pX7_rollsSo_12 : At cX7_rollsSo 12 (.iload_n 2) 1 13 := ⟨tX7_rollsSo_0_ok (12, .iload_n 2, 1) (List.mem_of_getElem? (i := 6) rfl), rfl⟩
theorem pX7_rollsSo_13 : At cX7_rollsSo 13 (.putfield 48) 3 16 := ⟨tX7_rollsSo_0_ok (13, .putfield 48, 3) (List.mem_of_getElem? (i := 7) rfl), rfl⟩
theorem pX7_rollsSo_16 : At cX7_rollsSo 16 (.aload_n 0) 1 17 := ⟨tX7_rollsSo_0_ok (16, .aload_n 0, 1) (List.mem_of_getElem? (i := 8) rfl), rfl⟩
theorem pX7_rollsSo_17 : At cX7_rollsSo 17 (.aload_n 3) 1 18 := ⟨tX7_rollsSo_0_ok (17, .aload_n 3, 1) (List.mem_of_getElem? (i := 9) rfl), rfl⟩
theorem pX7_rollsSo_18 : At cX7_rollsSo 18 (.invokevirtual 51) 3 21 := ⟨tX7_rollsSo_0_ok (18, .invokevirtual 51, 3) (List.mem_of_getElem? (i := 10) rfl), rfl⟩
theorem pX7_rollsSo_21 : At cX7_rollsSo 21 (.ireturn) 1 22 := ⟨tX7_rollsSo_0_ok (21, .ireturn, 1) (List.mem_of_getElem? (i := 11) rfl), rfl⟩
def tX7_goesSoAs_0 : List (Nat × Instr × Nat) := [(0, .aload_n 0, 1), (1, .getfield 12, 3), (4, .aload_n 1, 1), (5, .invokevirtual 32, 3), (8, .aload_n 0, 1), (9, .getfield 12, 3), (12, .iload_n 2, 1), (13, .putfield 55, 3), (16, .aload_n 0, 1), (17, .aload_n 3, 1), (18, .invokevirtual 51, 3), (21, .ireturn, 1)]
theorem tX7_goesSoAs_0_ok : ∀ q ∈ tX7_goesSoAs_0, decode cX7_goesSoAs q.1 = .ok (q.2.1, q.2.2) := by decide +kernel
theorem pX7_goesSoAs_0 : At cX7_goesSoAs 0 (.aload_n 0) 1 1 := ⟨tX7_goesSoAs_0_ok (0, .aload_n 0, 1) (List.mem_of_getElem? (i := 0) rfl), rfl⟩
theorem pX7_goesSoAs_1 : At cX7_goesSoAs 1 (.getfield 12) 3 4 := ⟨tX7_goesSoAs_0_ok (1, .getfield 12, 3) (List.mem_of_getElem? (i := 1) rfl), rfl⟩
theorem pX7_goesSoAs_4 : At cX7_goesSoAs 4 (.aload_n 1) 1 5 := ⟨tX7_goesSoAs_0_ok (4, .aload_n 1, 1) (List.mem_of_getElem? (i := 2) rfl), rfl⟩
theorem pX7_goesSoAs_5 : At cX7_goesSoAs 5 (.invokevirtual 32) 3 8 := ⟨tX7_goesSoAs_0_ok (5, .invokevirtual 32, 3) (List.mem_of_getElem? (i := 3) rfl), rfl⟩
theorem pX7_goesSoAs_8 : At cX7_goesSoAs 8 (.aload_n 0) 1 9 := ⟨tX7_goesSoAs_0_ok (8, .aload_n 0, 1) (List.mem_of_getElem? (i := 4) rfl), rfl⟩
theorem pX7_goesSoAs_9 : At cX7_goesSoAs 9 (.getfield 12) 3 12 := ⟨tX7_goesSoAs_0_ok (9, .getfield 12, 3) (List.mem_of_getElem? (i := 5) rfl), rfl⟩
theorem pX7_goesSoAs_12 : At cX7_goesSoAs 12 (.iload_n 2) 1 13 := ⟨tX7_goesSoAs_0_ok (12, .iload_n 2, 1) (List.mem_of_getElem? (i := 6) rfl), rfl⟩
theorem pX7_goesSoAs_13 : At cX7_goesSoAs 13 (.putfield 55) 3 16 := ⟨tX7_goesSoAs_0_ok (13, .putfield 55, 3) (List.mem_of_getElem? (i := 7) rfl), rfl⟩
theorem pX7_goesSoAs_16 : At cX7_goesSoAs 16 (.aload_n 0) 1 17 := ⟨tX7_goesSoAs_0_ok (16, .aload_n 0, 1) (List.mem_of_getElem? (i := 8) rfl), rfl⟩
theorem pX7_goesSoAs_17 : At cX7_goesSoAs 17 (.aload_n 3) 1 18 := ⟨tX7_goesSoAs_0_ok (17, .aload_n 3, 1) (List.mem_of_getElem? (i := 9) rfl), rfl⟩
theorem pX7_goesSoAs_18 : At cX7_goesSoAs 18 (.invokevirtual 51) 3 21 := ⟨tX7_goesSoAs_0_ok (18, .invokevirtual 51, 3) (List.mem_of_getElem? (i := 10) rfl), rfl⟩
theorem pX7_goesSoAs_21 : At cX7_goesSoAs 21 (.ireturn) 1 22 := ⟨tX7_goesSoAs_0_ok (21, .ireturn, 1) (List.mem_of_getElem? (i := 11) rfl), rfl⟩
def tX7_goThroughQuakes_0 : List (Nat × Instr × Nat) := [(0, .iload_n 1, 1), (1, .istore_n 3, 1), (2, .iconst 0, 1), (3, .istore 4, 2), (5, .iload 4, 2), (7, .bipush 50, 2), (9, .if_icmp .ge 47, 3), (12, .iload 4, 2), (14, .iload_n 2, 1), (15, .if_icmp .ge 19, 3), (18, .aload_n 0, 1), (19, .getfield 12, 3), (22, .iload_n 3, 1), (23, .iconst 3, 1), (24, .irem, 1), (25, .iconst 1, 1), (26, .isub, 1), (27, .invokevirtual 40, 3), (30, .iload_n 3, 1), (31, .iconst 3, 1), (32, .idiv, 1), (33, .istore_n 3, 1), (34, .aload_n 0, 1), (35, .invokevirtual 36, 3), (38, .ifCond .ne 12, 3), (41, .iload 4, 2), (43, .iload_n 2, 1), (44, .if_icmp .lt 6, 3), (47, .goto 9, 3), (50, .iinc 4 1, 3), (53, .goto (-48), 3), (56, .return_, 1)]
theorem tX7_goThroughQuakes_0_ok : ∀ q ∈ tX7_goThroughQuakes_0, decode cX7_goThroughQuakes q.1 = .ok (q.2.1, q.2.2) := by decide +kernel
theorem pX7_goThroughQuakes_0 : At cX7_goThroughQuakes 0 (.iload_n 1) 1 1 := ⟨tX7_goThroughQuakes_0_ok (0, .iload_n 1, 1) (List.mem_of_getElem? (i := 0) rfl), rfl⟩
theorem pX7_goThroughQuakes_1 : At cX7_goThroughQuakes 1 (.istore_n 3) 1 2 := ⟨tX7_goThroughQuakes_0_ok (1, .istore_n 3, 1) (List.mem_of_getElem? (i := 1) rfl), rfl⟩
theorem pX7_goThroughQuakes_2 : At cX7_goThroughQuakes 2 (.iconst 0) 1 3 := ⟨tX7_goThroughQuakes_0_ok (2, .iconst 0, 1) (List.mem_of_getElem? (i := 2) rfl), rfl⟩
theorem pX7_goThroughQuakes_3 : At cX7_goThroughQuakes 3 (.istore 4) 2 5 := ⟨tX7_goThroughQuakes_0_ok (3, .istore 4, 2) (List.mem_of_getElem? (i := 3) rfl), rfl⟩
theorem pX7_goThroughQuakes_5 : At cX7_goThroughQuakes 5 (.iload 4) 2 7 := ⟨tX7_goThroughQuakes_0_ok (5, .iload 4, 2) (List.mem_of_getElem? (i := 4) rfl), rfl⟩
theorem pX7_goThroughQuakes_7 : At cX7_goThroughQuakes 7 (.bipush 50) 2 9 := ⟨tX7_goThroughQuakes_0_ok (7, .bipush 50, 2) (List.mem_of_getElem? (i := 5) rfl), rfl⟩
theorem pX7_goThroughQuakes_9 : Bt cX7_goThroughQuakes 9 (.if_icmp .ge 47) 47 56 12 := ⟨tX7_goThroughQuakes_0_ok (9, .if_icmp .ge 47, 3) (List.mem_of_getElem? (i := 6) rfl), by decide, rfl⟩
theorem pX7_goThroughQuakes_12 : At cX7_goThroughQuakes 12 (.iload 4) 2 14 := ⟨tX7_goThroughQuakes_0_ok (12, .iload 4, 2) (List.mem_of_getElem? (i := 7) rfl), rfl⟩
theorem pX7_goThroughQuakes_14 : At cX7_goThroughQuakes 14 (.iload_n 2) 1 15 := ⟨tX7_goThroughQuakes_0_ok (14, .iload_n 2, 1) (List.mem_of_getElem? (i := 8) rfl), rfl⟩
theorem pX7_goThroughQuakes_15 : Bt cX7_goThroughQuakes 15 (.if_icmp .ge 19) 19 34 18 := ⟨tX7_goThroughQuakes_0_ok (15, .if_icmp .ge 19, 3) (List.mem_of_getElem? (i := 9) rfl), by decide, rfl⟩
theorem pX7_goThroughQuakes_18 : At cX7_goThroughQuakes 18 (.aload_n 0) 1 19 := ⟨tX7_goThroughQuakes_0_ok (18, .aload_n 0, 1) (List.mem_of_getElem? (i := 10) rfl), rfl⟩
theorem pX7_goThroughQuakes_19 : At cX7_goThroughQuakes 19 (.getfield 12) 3 22 := ⟨tX7_goThroughQuakes_0_ok (19, .getfield 12, 3) (List.mem_of_getElem? (i := 11) rfl), rfl⟩
theorem pX7_goThroughQuakes_22 : At cX7_goThroughQuakes 22 (.iload_n 3) 1 23 := ⟨tX7_goThroughQuakes_0_ok (22, .iload_n 3, 1) (List.mem_of_getElem? (i := 12) rfl), rfl⟩
theorem pX7_goThroughQuakes_23 : At cX7_goThroughQuakes 23 (.iconst 3) 1 24 := ⟨tX7_goThroughQuakes_0_ok (23, .iconst 3, 1) (List.mem_of_getElem? (i := 13) rfl), rfl⟩
theorem pX7_goThroughQuakes_24 : At cX7_goThroughQuakes 24 (.irem) 1 25 := ⟨tX7_goThroughQuakes_0_ok (24, .irem, 1) (List.mem_of_getElem? (i := 14) rfl), rfl⟩
theorem pX7_goThroughQuakes_25 : At cX7_goThroughQuakes 25 (.iconst 1) 1 26 := ⟨tX7_goThroughQuakes_0_ok (25, .iconst 1, 1) (List.mem_of_getElem? (i := 15) rfl), rfl⟩
theorem pX7_goThroughQuakes_26 : At cX7_goThroughQuakes 26 (.isub) 1 27 := ⟨tX7_goThroughQuakes_0_ok (26, .isub, 1) (List.mem_of_getElem? (i := 16) rfl), rfl⟩
theorem pX7_goThroughQuakes_27 : At cX7_goThroughQuakes 27 (.invokevirtual 40) 3 30 := ⟨tX7_goThroughQuakes_0_ok (27, .invokevirtual 40, 3) (List.mem_of_getElem? (i := 17) rfl), rfl⟩
theorem pX7_goThroughQuakes_30 : At cX7_goThroughQuakes 30 (.iload_n 3) 1 31 := ⟨tX7_goThroughQuakes_0_ok (30, .iload_n 3, 1) (List.mem_of_getElem? (i := 18) rfl), rfl⟩
theorem pX7_goThroughQuakes_31 : At cX7_goThroughQuakes 31 (.iconst 3) 1 32 := ⟨tX7_goThroughQuakes_0_ok (31, .iconst 3, 1) (List.mem_of_getElem? (i := 19) rfl), rfl⟩
theorem pX7_goThroughQuakes_32 : At cX7_goThroughQuakes 32 (.idiv) 1 33 := ⟨tX7_goThroughQuakes_0_ok (32, .idiv, 1) (List.mem_of_getElem? (i := 20) rfl), rfl⟩
theorem pX7_goThroughQuakes_33 : At cX7_goThroughQuakes 33 (.istore_n 3) 1 34 := ⟨tX7_goThroughQuakes_0_ok (33, .istore_n 3, 1) (List.mem_of_getElem? (i := 21) rfl), rfl⟩
theorem pX7_goThroughQuakes_34 : At cX7_goThroughQuakes 34 (.aload_n 0) 1 35 := ⟨tX7_goThroughQuakes_0_ok (34, .aload_n 0, 1) (List.mem_of_getElem? (i := 22) rfl), rfl⟩
theorem pX7_goThroughQuakes_35 : At cX7_goThroughQuakes 35 (.invokevirtual 36) 3 38 := ⟨tX7_goThroughQuakes_0_ok (35, .invokevirtual 36, 3) (List.mem_of_getElem? (i := 23) rfl), rfl⟩
theorem pX7_goThroughQuakes_38 : Bt cX7_goThroughQuakes 38 (.ifCond .ne 12) 12 50 41 := ⟨tX7_goThroughQuakes_0_ok (38, .ifCond .ne 12, 3) (List.mem_of_getElem? (i := 24) rfl), by decide, rfl⟩
theorem pX7_goThroughQuakes_41 : At cX7_goThroughQuakes 41 (.iload 4) 2 43 := ⟨tX7_goThroughQuakes_0_ok (41, .iload 4, 2) (List.mem_of_getElem? (i := 25) rfl), rfl⟩
theorem pX7_goThroughQuakes_43 : At cX7_goThroughQuakes 43 (.iload_n 2) 1 44 := ⟨tX7_goThroughQuakes_0_ok (43, .iload_n 2, 1) (List.mem_of_getElem? (i := 26) rfl), rfl⟩
theorem pX7_goThroughQuakes_44 : Bt cX7_goThroughQuakes 44 (.if_icmp .lt 6) 6 50 47 := ⟨tX7_goThroughQuakes_0_ok (44, .if_icmp .lt 6, 3) (List.mem_of_getElem? (i := 27) rfl), by decide, rfl⟩
theorem pX7_goThroughQuakes_47 : Bt cX7_goThroughQuakes 47 (.goto 9) 9 56 50 := ⟨tX7_goThroughQuakes_0_ok (47, .goto 9, 3) (List.mem_of_getElem? (i := 28) rfl), by decide, rfl⟩
theorem pX7_goThroughQuakes_50 : At cX7_goThroughQuakes 50 (.iinc 4 1) 3 53 := ⟨tX7_goThroughQuakes_0_ok (50, .iinc 4 1, 3) (List.mem_of_getElem? (i := 29) rfl), rfl⟩
theorem pX7_goThroughQuakes_53 : Bt cX7_goThroughQuakes 53 (.goto (-48)) (-48) 5 56 := ⟨tX7_goThroughQuakes_0_ok (53, .goto (-48), 3) (List.mem_of_getElem? (i := 30) rfl), by decide, rfl⟩
theorem pX7_goThroughQuakes_56 : At cX7_goThroughQuakes 56 (.return_) 1 57 := ⟨tX7_goThroughQuakes_0_ok (56, .return_, 1) (List.mem_of_getElem? (i := 31) rfl), rfl⟩
def tX7_landings_0 : List (Nat × Instr × Nat) := [(0, .iconst 0, 1), (1, .istore 5, 2), (3, .iconst 0, 1), (4, .istore 6, 2), (6, .iload 6, 2), (8, .iload 4, 2), (10, .if_icmp .ge 48, 3), (13, .aload_n 0, 1), (14, .getfield 12, 3), (17, .aload_n 1, 1), (18, .invokevirtual 32, 3), (21, .aload_n 0, 1), (22, .iload 6, 2), (24, .iload_n 3, 1), (25, .invokevirtual 67, 3), (28, .iload 5, 2), (30, .aload_n 0, 1), (31, .getfield 12, 3), (34, .getfield 44, 3), (37, .iload_n 2, 1), (38, .bipush 40, 2), (40, .imul, 1), (41, .if_icmp .ne 7, 3), (44, .iconst 1, 1), (45, .goto 4, 3), (48, .iconst 0, 1), (49, .iadd, 1), (50, .istore 5, 2), (52, .iinc 6 1, 3), (55, .goto (-49), 3), (58, .iload 5, 2), (60, .ireturn, 1)]
theorem tX7_landings_0_ok : ∀ q ∈ tX7_landings_0, decode cX7_landings q.1 = .ok (q.2.1, q.2.2) := by decide +kernel
theorem pX7_landings_0 : At cX7_landings 0 (.iconst 0) 1 1 := ⟨tX7_landings_0_ok (0, .iconst 0, 1) (List.mem_of_getElem? (i := 0) rfl), rfl⟩
theorem pX7_landings_1 : At cX7_landings 1 (.istore 5) 2 3 := ⟨tX7_landings_0_ok (1, .istore 5, 2) (List.mem_of_getElem? (i := 1) rfl), rfl⟩
theorem pX7_landings_3 : At cX7_landings 3 (.iconst 0) 1 4 := ⟨tX7_landings_0_ok (3, .iconst 0, 1) (List.mem_of_getElem? (i := 2) rfl), rfl⟩
theorem pX7_landings_4 : At cX7_landings 4 (.istore 6) 2 6 := ⟨tX7_landings_0_ok (4, .istore 6, 2) (List.mem_of_getElem? (i := 3) rfl), rfl⟩
theorem pX7_landings_6 : At cX7_landings 6 (.iload 6) 2 8 := ⟨tX7_landings_0_ok (6, .iload 6, 2) (List.mem_of_getElem? (i := 4) rfl), rfl⟩
theorem pX7_landings_8 : At cX7_landings 8 (.iload 4) 2 10 := ⟨tX7_landings_0_ok (8, .iload 4, 2) (List.mem_of_getElem? (i := 5) rfl), rfl⟩
theorem pX7_landings_10 : Bt cX7_landings 10 (.if_icmp .ge 48) 48 58 13 := ⟨tX7_landings_0_ok (10, .if_icmp .ge 48, 3) (List.mem_of_getElem? (i := 6) rfl), by decide, rfl⟩
theorem pX7_landings_13 : At cX7_landings 13 (.aload_n 0) 1 14 := ⟨tX7_landings_0_ok (13, .aload_n 0, 1) (List.mem_of_getElem? (i := 7) rfl), rfl⟩
theorem pX7_landings_14 : At cX7_landings 14 (.getfield 12) 3 17 := ⟨tX7_landings_0_ok (14, .getfield 12, 3) (List.mem_of_getElem? (i := 8) rfl), rfl⟩
theorem pX7_landings_17 : At cX7_landings 17 (.aload_n 1) 1 18 := ⟨tX7_landings_0_ok (17, .aload_n 1, 1) (List.mem_of_getElem? (i := 9) rfl), rfl⟩
theorem pX7_landings_18 : At cX7_landings 18 (.invokevirtual 32) 3 21 := ⟨tX7_landings_0_ok (18, .invokevirtual 32, 3) (List.mem_of_getElem? (i := 10) rfl), rfl⟩
theorem pX7_landings_21 : At cX7_landings 21 (.aload_n 0) 1 22 := ⟨tX7_landings_0_ok (21, .aload_n 0, 1) (List.mem_of_getElem? (i := 11) rfl), rfl⟩
theorem pX7_landings_22 : At cX7_landings 22 (.iload 6) 2 24 := ⟨tX7_landings_0_ok (22, .iload 6, 2) (List.mem_of_getElem? (i := 12) rfl), rfl⟩
theorem pX7_landings_24 : At cX7_landings 24 (.iload_n 3) 1 25 := ⟨tX7_landings_0_ok (24, .iload_n 3, 1) (List.mem_of_getElem? (i := 13) rfl), rfl⟩
theorem pX7_landings_25 : At cX7_landings 25 (.invokevirtual 67) 3 28 := ⟨tX7_landings_0_ok (25, .invokevirtual 67, 3) (List.mem_of_getElem? (i := 14) rfl), rfl⟩
theorem pX7_landings_28 : At cX7_landings 28 (.iload 5) 2 30 := ⟨tX7_landings_0_ok (28, .iload 5, 2) (List.mem_of_getElem? (i := 15) rfl), rfl⟩
theorem pX7_landings_30 : At cX7_landings 30 (.aload_n 0) 1 31 := ⟨tX7_landings_0_ok (30, .aload_n 0, 1) (List.mem_of_getElem? (i := 16) rfl), rfl⟩
theorem pX7_landings_31 : At cX7_landings 31 (.getfield 12) 3 34 := ⟨tX7_landings_0_ok (31, .getfield 12, 3) (List.mem_of_getElem? (i := 17) rfl), rfl⟩
theorem pX7_landings_34 : At cX7_landings 34 (.getfield 44) 3 37 := ⟨tX7_landings_0_ok (34, .getfield 44, 3) (List.mem_of_getElem? (i := 18) rfl), rfl⟩
theorem pX7_landings_37 : At cX7_landings 37 (.iload_n 2) 1 38 := ⟨tX7_landings_0_ok (37, .iload_n 2, 1) (List.mem_of_getElem? (i := 19) rfl), rfl⟩
theorem pX7_landings_38 : At cX7_landings 38 (.bipush 40) 2 40 := ⟨tX7_landings_0_ok (38, .bipush 40, 2) (List.mem_of_getElem? (i := 20) rfl), rfl⟩
theorem pX7_landings_40 : At cX7_landings 40 (.imul) 1 41 := ⟨tX7_landings_0_ok (40, .imul, 1) (List.mem_of_getElem? (i := 21) rfl), rfl⟩
theorem pX7_landings_41 : Bt cX7_landings 41 (.if_icmp .ne 7) 7 48 44 := ⟨tX7_landings_0_ok (41, .if_icmp .ne 7, 3) (List.mem_of_getElem? (i := 22) rfl), by decide, rfl⟩
theorem pX7_landings_44 : At cX7_landings 44 (.iconst 1) 1 45 := ⟨tX7_landings_0_ok (44, .iconst 1, 1) (List.mem_of_getElem? (i := 23) rfl), rfl⟩
theorem pX7_landings_45 : Bt cX7_landings 45 (.goto 4) 4 49 48 := ⟨tX7_landings_0_ok (45, .goto 4, 3) (List.mem_of_getElem? (i := 24) rfl), by decide, rfl⟩
theorem pX7_landings_48 : At cX7_landings 48 (.iconst 0) 1 49 := ⟨tX7_landings_0_ok (48, .iconst 0, 1) (List.mem_of_getElem? (i := 25) rfl), rfl⟩
theorem pX7_landings_49 : At cX7_landings 49 (.iadd) 1 50 := ⟨tX7_landings_0_ok (49, .iadd, 1) (List.mem_of_getElem? (i := 26) rfl), rfl⟩
theorem pX7_landings_50 : At cX7_landings 50 (.istore 5) 2 52 := ⟨tX7_landings_0_ok (50, .istore 5, 2) (List.mem_of_getElem? (i := 27) rfl), rfl⟩
theorem pX7_landings_52 : At cX7_landings 52 (.iinc 6 1) 3 55 := ⟨tX7_landings_0_ok (52, .iinc 6 1, 3) (List.mem_of_getElem? (i := 28) rfl), rfl⟩
theorem pX7_landings_55 : Bt cX7_landings 55 (.goto (-49)) (-49) 6 58 := ⟨tX7_landings_0_ok (55, .goto (-49), 3) (List.mem_of_getElem? (i := 29) rfl), by decide, rfl⟩
theorem pX7_landings_58 : At cX7_landings 58 (.iload 5) 2 60 := ⟨tX7_landings_0_ok (58, .iload 5, 2) (List.mem_of_getElem? (i := 30) rfl), rfl⟩
theorem pX7_landings_60 : At cX7_landings 60 (.ireturn) 1 61 := ⟨tX7_landings_0_ok (60, .ireturn, 1) (List.mem_of_getElem? (i := 31) rfl), rfl⟩
def tX8_bodyOf_0 : List (Nat × Instr × Nat) := [(0, .iload_n 0, 1), (1, .istore_n 2, 1), (2, .iconst 0, 1), (3, .istore_n 3, 1), (4, .iload_n 3, 1), (5, .bipush 7, 2), (7, .if_icmp .ge 35, 3), (10, .getstatic 48, 3), (13, .iload_n 2, 1), (14, .iaload, 1), (15, .ifCond .lt 27, 3), (18, .getstatic 51, 3), (21, .iconst 4, 1), (22, .iload_n 2, 1), (23, .imul, 1), (24, .iload_n 1, 1), (25, .iadd, 1), (26, .iaload, 1), (27, .ifCond .ne 15, 3), (30, .getstatic 48, 3), (33, .iload_n 2, 1), (34, .iaload, 1), (35, .istore_n 2, 1), (36, .iinc 3 1, 3), (39, .goto (-35), 3), (42, .getstatic 51, 3), (45, .iconst 4, 1), (46, .iload_n 2, 1), (47, .imul, 1), (48, .iload_n 1, 1), (49, .iadd, 1), (50, .iaload, 1), (51, .ireturn, 1)]
theorem tX8_bodyOf_0_ok : ∀ q ∈ tX8_bodyOf_0, decode cX8_bodyOf q.1 = .ok (q.2.1, q.2.2) := by decide +kernel
theorem pX8_bodyOf_0 : At cX8_bodyOf 0 (.iload_n 0) 1 1 := ⟨tX8_bodyOf_0_ok (0, .iload_n 0, 1) (List.mem_of_getElem? (i := 0) rfl), rfl⟩
theorem pX8_bodyOf_1 : At cX8_bodyOf 1 (.istore_n 2) 1 2 := ⟨tX8_bodyOf_0_ok (1, .istore_n 2, 1) (List.mem_of_getElem? (i := 1) rfl), rfl⟩
theorem pX8_bodyOf_2 : At cX8_bodyOf 2 (.iconst 0) 1 3 := ⟨tX8_bodyOf_0_ok (2, .iconst 0, 1) (List.mem_of_getElem? (i := 2) rfl), rfl⟩
theorem pX8_bodyOf_3 : At cX8_bodyOf 3 (.istore_n 3) 1 4 := ⟨tX8_bodyOf_0_ok (3, .istore_n 3, 1) (List.mem_of_getElem? (i := 3) rfl), rfl⟩
theorem pX8_bodyOf_4 : At cX8_bodyOf 4 (.iload_n 3) 1 5 := ⟨tX8_bodyOf_0_ok (4, .iload_n 3, 1) (List.mem_of_getElem? (i := 4) rfl), rfl⟩
theorem pX8_bodyOf_5 : At cX8_bodyOf 5 (.bipush 7) 2 7 := ⟨tX8_bodyOf_0_ok (5, .bipush 7, 2) (List.mem_of_getElem? (i := 5) rfl), rfl⟩
theorem pX8_bodyOf_7 : Bt cX8_bodyOf 7 (.if_icmp .ge 35) 35 42 10 := ⟨tX8_bodyOf_0_ok (7, .if_icmp .ge 35, 3) (List.mem_of_getElem? (i := 6) rfl), by decide, rfl⟩
theorem pX8_bodyOf_10 : At cX8_bodyOf 10 (.getstatic 48) 3 13 := ⟨tX8_bodyOf_0_ok (10, .getstatic 48, 3) (List.mem_of_getElem? (i := 7) rfl), rfl⟩
theorem pX8_bodyOf_13 : At cX8_bodyOf 13 (.iload_n 2) 1 14 := ⟨tX8_bodyOf_0_ok (13, .iload_n 2, 1) (List.mem_of_getElem? (i := 8) rfl), rfl⟩
theorem pX8_bodyOf_14 : At cX8_bodyOf 14 (.iaload) 1 15 := ⟨tX8_bodyOf_0_ok (14, .iaload, 1) (List.mem_of_getElem? (i := 9) rfl), rfl⟩
theorem pX8_bodyOf_15 : Bt cX8_bodyOf 15 (.ifCond .lt 27) 27 42 18 := ⟨tX8_bodyOf_0_ok (15, .ifCond .lt 27, 3) (List.mem_of_getElem? (i := 10) rfl), by decide, rfl⟩
theorem pX8_bodyOf_18 : At cX8_bodyOf 18 (.getstatic 51) 3 21 := ⟨tX8_bodyOf_0_ok (18, .getstatic 51, 3) (List.mem_of_getElem? (i := 11) rfl), rfl⟩
theorem pX8_bodyOf_21 : At cX8_bodyOf 21 (.iconst 4) 1 22 := ⟨tX8_bodyOf_0_ok (21, .iconst 4, 1) (List.mem_of_getElem? (i := 12) rfl), rfl⟩
theorem pX8_bodyOf_22 : At cX8_bodyOf 22 (.iload_n 2) 1 23 := ⟨tX8_bodyOf_0_ok (22, .iload_n 2, 1) (List.mem_of_getElem? (i := 13) rfl), rfl⟩
theorem pX8_bodyOf_23 : At cX8_bodyOf 23 (.imul) 1 24 := ⟨tX8_bodyOf_0_ok (23, .imul, 1) (List.mem_of_getElem? (i := 14) rfl), rfl⟩
theorem pX8_bodyOf_24 : At cX8_bodyOf 24 (.iload_n 1) 1 25 := ⟨tX8_bodyOf_0_ok (24, .iload_n 1, 1) (List.mem_of_getElem? (i := 15) rfl), rfl⟩
theorem pX8_bodyOf_25 : At cX8_bodyOf 25 (.iadd) 1 26 := ⟨tX8_bodyOf_0_ok (25, .iadd, 1) (List.mem_of_getElem? (i := 16) rfl), rfl⟩
theorem pX8_bodyOf_26 : At cX8_bodyOf 26 (.iaload) 1 27 := ⟨tX8_bodyOf_0_ok (26, .iaload, 1) (List.mem_of_getElem? (i := 17) rfl), rfl⟩
theorem pX8_bodyOf_27 : Bt cX8_bodyOf 27 (.ifCond .ne 15) 15 42 30 := ⟨tX8_bodyOf_0_ok (27, .ifCond .ne 15, 3) (List.mem_of_getElem? (i := 18) rfl), by decide, rfl⟩
theorem pX8_bodyOf_30 : At cX8_bodyOf 30 (.getstatic 48) 3 33 := ⟨tX8_bodyOf_0_ok (30, .getstatic 48, 3) (List.mem_of_getElem? (i := 19) rfl), rfl⟩
theorem pX8_bodyOf_33 : At cX8_bodyOf 33 (.iload_n 2) 1 34 := ⟨tX8_bodyOf_0_ok (33, .iload_n 2, 1) (List.mem_of_getElem? (i := 20) rfl), rfl⟩
theorem pX8_bodyOf_34 : At cX8_bodyOf 34 (.iaload) 1 35 := ⟨tX8_bodyOf_0_ok (34, .iaload, 1) (List.mem_of_getElem? (i := 21) rfl), rfl⟩
theorem pX8_bodyOf_35 : At cX8_bodyOf 35 (.istore_n 2) 1 36 := ⟨tX8_bodyOf_0_ok (35, .istore_n 2, 1) (List.mem_of_getElem? (i := 22) rfl), rfl⟩
theorem pX8_bodyOf_36 : At cX8_bodyOf 36 (.iinc 3 1) 3 39 := ⟨tX8_bodyOf_0_ok (36, .iinc 3 1, 3) (List.mem_of_getElem? (i := 23) rfl), rfl⟩
theorem pX8_bodyOf_39 : Bt cX8_bodyOf 39 (.goto (-35)) (-35) 4 42 := ⟨tX8_bodyOf_0_ok (39, .goto (-35), 3) (List.mem_of_getElem? (i := 24) rfl), by decide, rfl⟩
theorem pX8_bodyOf_42 : At cX8_bodyOf 42 (.getstatic 51) 3 45 := ⟨tX8_bodyOf_0_ok (42, .getstatic 51, 3) (List.mem_of_getElem? (i := 25) rfl), rfl⟩
theorem pX8_bodyOf_45 : At cX8_bodyOf 45 (.iconst 4) 1 46 := ⟨tX8_bodyOf_0_ok (45, .iconst 4, 1) (List.mem_of_getElem? (i := 26) rfl), rfl⟩
theorem pX8_bodyOf_46 : At cX8_bodyOf 46 (.iload_n 2) 1 47 := ⟨tX8_bodyOf_0_ok (46, .iload_n 2, 1) (List.mem_of_getElem? (i := 27) rfl), rfl⟩
theorem pX8_bodyOf_47 : At cX8_bodyOf 47 (.imul) 1 48 := ⟨tX8_bodyOf_0_ok (47, .imul, 1) (List.mem_of_getElem? (i := 28) rfl), rfl⟩
theorem pX8_bodyOf_48 : At cX8_bodyOf 48 (.iload_n 1) 1 49 := ⟨tX8_bodyOf_0_ok (48, .iload_n 1, 1) (List.mem_of_getElem? (i := 29) rfl), rfl⟩
theorem pX8_bodyOf_49 : At cX8_bodyOf 49 (.iadd) 1 50 := ⟨tX8_bodyOf_0_ok (49, .iadd, 1) (List.mem_of_getElem? (i := 30) rfl), rfl⟩
theorem pX8_bodyOf_50 : At cX8_bodyOf 50 (.iaload) 1 51 := ⟨tX8_bodyOf_0_ok (50, .iaload, 1) (List.mem_of_getElem? (i := 31) rfl), rfl⟩
theorem pX8_bodyOf_51 : At cX8_bodyOf 51 (.ireturn) 1 52 := ⟨tX8_bodyOf_0_ok (51, .ireturn, 1) (List.mem_of_getElem? (i := 32) rfl), rfl⟩
def tX8_note_0 : List (Nat × Instr × Nat) := [(0, .aload_n 0, 1), (1, .getfield 29, 3), (4, .bipush 40, 2), (6, .if_icmp .ge 23, 3), (9, .aload_n 0, 1), (10, .getfield 11, 3), (13, .aload_n 0, 1), (14, .getfield 29, 3), (17, .iload_n 1, 1), (18, .iastore, 1), (19, .aload_n 0, 1), (20, .dup, 1), (21, .getfield 29, 3), (24, .iconst 1, 1), (25, .iadd, 1), (26, .putfield 29, 3), (29, .return_, 1)]
theorem tX8_note_0_ok : ∀ q ∈ tX8_note_0, decode cX8_note q.1 = .ok (q.2.1, q.2.2) := by decide +kernel
theorem pX8_note_0 : At cX8_note 0 (.aload_n 0) 1 1 := ⟨tX8_note_0_ok (0, .aload_n 0, 1) (List.mem_of_getElem? (i := 0) rfl), rfl⟩
theorem pX8_note_1 : At cX8_note 1 (.getfield 29) 3 4 := ⟨tX8_note_0_ok (1, .getfield 29, 3) (List.mem_of_getElem? (i := 1) rfl), rfl⟩
theorem pX8_note_4 : At cX8_note 4 (.bipush 40) 2 6 := ⟨tX8_note_0_ok (4, .bipush 40, 2) (List.mem_of_getElem? (i := 2) rfl), rfl⟩
theorem pX8_note_6 : Bt cX8_note 6 (.if_icmp .ge 23) 23 29 9 := ⟨tX8_note_0_ok (6, .if_icmp .ge 23, 3) (List.mem_of_getElem? (i := 3) rfl), by decide, rfl⟩
theorem pX8_note_9 : At cX8_note 9 (.aload_n 0) 1 10 := ⟨tX8_note_0_ok (9, .aload_n 0, 1) (List.mem_of_getElem? (i := 4) rfl), rfl⟩
theorem pX8_note_10 : At cX8_note 10 (.getfield 11) 3 13 := ⟨tX8_note_0_ok (10, .getfield 11, 3) (List.mem_of_getElem? (i := 5) rfl), rfl⟩
theorem pX8_note_13 : At cX8_note 13 (.aload_n 0) 1 14 := ⟨tX8_note_0_ok (13, .aload_n 0, 1) (List.mem_of_getElem? (i := 6) rfl), rfl⟩
theorem pX8_note_14 : At cX8_note 14 (.getfield 29) 3 17 := ⟨tX8_note_0_ok (14, .getfield 29, 3) (List.mem_of_getElem? (i := 7) rfl), rfl⟩
theorem pX8_note_17 : At cX8_note 17 (.iload_n 1) 1 18 := ⟨tX8_note_0_ok (17, .iload_n 1, 1) (List.mem_of_getElem? (i := 8) rfl), rfl⟩
theorem pX8_note_18 : At cX8_note 18 (.iastore) 1 19 := ⟨tX8_note_0_ok (18, .iastore, 1) (List.mem_of_getElem? (i := 9) rfl), rfl⟩
theorem pX8_note_19 : At cX8_note 19 (.aload_n 0) 1 20 := ⟨tX8_note_0_ok (19, .aload_n 0, 1) (List.mem_of_getElem? (i := 10) rfl), rfl⟩
theorem pX8_note_20 : At cX8_note 20 (.dup) 1 21 := ⟨tX8_note_0_ok (20, .dup, 1) (List.mem_of_getElem? (i := 11) rfl), rfl⟩
theorem pX8_note_21 : At cX8_note 21 (.getfield 29) 3 24 := ⟨tX8_note_0_ok (21, .getfield 29, 3) (List.mem_of_getElem? (i := 12) rfl), rfl⟩
theorem pX8_note_24 : At cX8_note 24 (.iconst 1) 1 25 := ⟨tX8_note_0_ok (24, .iconst 1, 1) (List.mem_of_getElem? (i := 13) rfl), rfl⟩
theorem pX8_note_25 : At cX8_note 25 (.iadd) 1 26 := ⟨tX8_note_0_ok (25, .iadd, 1) (List.mem_of_getElem? (i := 14) rfl), rfl⟩
theorem pX8_note_26 : At cX8_note 26 (.putfield 29) 3 29 := ⟨tX8_note_0_ok (26, .putfield 29, 3) (List.mem_of_getElem? (i := 15) rfl), rfl⟩
theorem pX8_note_29 : At cX8_note 29 (.return_) 1 30 := ⟨tX8_note_0_ok (29, .return_, 1) (List.mem_of_getElem? (i := 16) rfl), rfl⟩
def tX8_own_0 : List (Nat × Instr × Nat) := [(0, .aload_n 0, 1), (1, .aload_n 0, 1), (2, .getfield 21, 3), (5, .iload_n 1, 1), (6, .iload_n 2, 1), (7, .iload_n 3, 1), (8, .invokevirtual 36, 3), (11, .ireturn, 1)]
theorem tX8_own_0_ok : ∀ q ∈ tX8_own_0, decode cX8_own q.1 = .ok (q.2.1, q.2.2) := by decide +kernel
theorem pX8_own_0 : At cX8_own 0 (.aload_n 0) 1 1 := ⟨tX8_own_0_ok (0, .aload_n 0, 1) (List.mem_of_getElem? (i := 0) rfl), rfl⟩
theorem pX8_own_1 : At cX8_own 1 (.aload_n 0) 1 2 := ⟨tX8_own_0_ok (1, .aload_n 0, 1) (List.mem_of_getElem? (i := 1) rfl), rfl⟩
theorem pX8_own_2 : At cX8_own 2 (.getfield 21) 3 5 := ⟨tX8_own_0_ok (2, .getfield 21, 3) (List.mem_of_getElem? (i := 2) rfl), rfl⟩
theorem pX8_own_5 : At cX8_own 5 (.iload_n 1) 1 6 := ⟨tX8_own_0_ok (5, .iload_n 1, 1) (List.mem_of_getElem? (i := 3) rfl), rfl⟩
theorem pX8_own_6 : At cX8_own 6 (.iload_n 2) 1 7 := ⟨tX8_own_0_ok (6, .iload_n 2, 1) (List.mem_of_getElem? (i := 4) rfl), rfl⟩
theorem pX8_own_7 : At cX8_own 7 (.iload_n 3) 1 8 := ⟨tX8_own_0_ok (7, .iload_n 3, 1) (List.mem_of_getElem? (i := 5) rfl), rfl⟩
theorem pX8_own_8 : At cX8_own 8 (.invokevirtual 36) 3 11 := ⟨tX8_own_0_ok (8, .invokevirtual 36, 3) (List.mem_of_getElem? (i := 6) rfl), rfl⟩
theorem pX8_own_11 : At cX8_own 11 (.ireturn) 1 12 := ⟨tX8_own_0_ok (11, .ireturn, 1) (List.mem_of_getElem? (i := 7) rfl), rfl⟩
def tX8_from_0 : List (Nat × Instr × Nat) := [(0, .iload 4, 2), (2, .bipush 40, 2), (4, .if_icmp .le 5, 3), (7, .iconst 0, 1), (8, .ireturn, 1), (9, .iload_n 1, 1), (10, .iload_n 2, 1), (11, .invokestatic 40, 3), (14, .istore 5, 2), (16, .aload_n 0, 1), (17, .iload 5, 2), (19, .invokevirtual 44, 3), (22, .iload 4, 2), (24, .iconst 1, 1), (25, .iadd, 1), (26, .istore 6, 2), (28, .iload 5, 2), (30, .lookupswitch 228 #[(10, 90), (11, 97), (12, 108), (13, 115), (20, 133), (30, 152), (40, 163), (50, 175), (51, 190), (60, 209)], 90), (120, .iload_n 3, 1), (121, .aload_n 0, 1), (122, .getfield 22, 3), (125, .iadd, 1), (126, .ireturn, 1), (127, .aload_n 0, 1), (128, .iconst 0, 1), (129, .iload_n 3, 1), (130, .iload 6, 2), (132, .invokevirtual 32, 3), (135, .iconst 2, 1), (136, .imul, 1), (137, .ireturn, 1), (138, .iload_n 3, 1), (139, .aload_n 0, 1), (140, .getfield 28, 3), (143, .isub, 1), (144, .ireturn, 1), (145, .aload_n 0, 1), (146, .iconst 1, 1), (147, .iload_n 3, 1), (148, .iload 6, 2), (150, .invokevirtual 32, 3), (153, .aload_n 0, 1), (154, .iconst 2, 1), (155, .iload_n 3, 1), (156, .iload 6, 2), (158, .invokevirtual 32, 3), (161, .ixor, 1), (162, .ireturn, 1), (163, .aload_n 0, 1), (164, .iconst 0, 1), (165, .iconst 1, 1), (166, .iload_n 3, 1), (167, .iload 6, 2), (169, .invokevirtual 36, 3), (172, .aload_n 0, 1), (173, .iconst 2, 1), (174, .iconst 1, 1), (175, .iload 6, 2), (177, .invokevirtual 32, 3), (180, .isub, 1), (181, .ireturn, 1), (182, .aload_n 0, 1), (183, .iconst 0, 1), (184, .iconst 2, 1), (185, .iload_n 3, 1), (186, .iload 6, 2), (188, .invokevirtual 36, 3), (191, .ineg, 1), (192, .ireturn, 1), (193, .aload_n 0, 1), (194, .iconst 0, 1), (195, .iconst 0, 1), (196, .iload_n 3, 1), (197, .iload 6, 2), (199, .invokevirtual 36, 3), (202, .iconst 3, 1), (203, .imul, 1), (204, .ireturn, 1), (205, .aload_n 0, 1), (206, .iconst 2, 1), (207, .iconst 2, 1), (208, .iload_n 3, 1), (209, .iload 6, 2), (211, .invokevirtual 36, 3), (214, .aload_n 0, 1), (215, .getfield 22, 3), (218, .ixor, 1), (219, .ireturn, 1), (220, .aload_n 0, 1), (221, .iconst 1, 1), (222, .iload_n 3, 1), (223, .iload 6, 2), (225, .invokevirtual 32, 3), (228, .aload_n 0, 1), (229, .iconst 2, 1), (230, .iconst 3, 1), (231, .iload_n 3, 1), (232, .iload 6, 2), (234, .invokevirtual 36, 3), (237, .isub, 1)]
theorem tX8_from_0_ok : ∀ q ∈ tX8_from_0, decode cX8_from q.1 = .ok (q.2.1, q.2.2) := by decide +kernel
def tX8_from_1 : List (Nat × Instr × Nat) := [(238, .ireturn, 1), (239, .aload_n 0, 1), (240, .iconst 3, 1), (241, .iconst 3, 1), (242, .iload_n 3, 1), (243, .iload 6, 2), (245, .invokevirtual 36, 3), (248, .aload_n 0, 1), (249, .iconst 0, 1), (250, .iconst 2, 1), (251, .iload 6, 2), (253, .invokevirtual 32, 3), (256, .isub, 1), (257, .ireturn, 1), (258, .aload_n 0, 1), (259, .iconst 1, 1), (260, .iconst 1, 1), (261, .iload_n 3, 1), (262, .iconst 1, 1), (263, .iadd, 1), (264, .iload 6, 2), (266, .invokevirtual 36, 3), (269, .ireturn, 1)]
theorem tX8_from_1_ok : ∀ q ∈ tX8_from_1, decode cX8_from q.1 = .ok (q.2.1, q.2.2) := by decide +kernel
theorem pX8_from_0 : At cX8_from 0 (.iload 4) 2 2 := ⟨tX8_from_0_ok (0, .iload 4, 2) (List.mem_of_getElem? (i := 0) rfl), rfl⟩
theorem pX8_from_2 : At cX8_from 2 (.bipush 40) 2 4 := ⟨tX8_from_0_ok (2, .bipush 40, 2) (List.mem_of_getElem? (i := 1) rfl), rfl⟩
theorem pX8_from_4 : Bt cX8_from 4 (.if_icmp .le 5) 5 9 7 := ⟨tX8_from_0_ok (4, .if_icmp .le 5, 3) (List.mem_of_getElem? (i := 2) rfl), by decide, rfl⟩
theorem pX8_from_7 : At cX8_from 7 (.iconst 0) 1 8 := ⟨tX8_from_0_ok (7, .iconst 0, 1) (List.mem_of_getElem? (i := 3) rfl), rfl⟩
theorem pX8_from_8 : At cX8_from 8 (.ireturn) 1 9 := ⟨tX8_from_0_ok (8, .ireturn, 1) (List.mem_of_getElem? (i := 4) rfl), rfl⟩
theorem pX8_from_9 : At cX8_from 9 (.iload_n 1) 1 10 := ⟨tX8_from_0_ok (9, .iload_n 1, 1) (List.mem_of_getElem? (i := 5) rfl), rfl⟩
theorem pX8_from_10 : At cX8_from 10 (.iload_n 2) 1 11 := ⟨tX8_from_0_ok (10, .iload_n 2, 1) (List.mem_of_getElem? (i := 6) rfl), rfl⟩
theorem pX8_from_11 : At cX8_from 11 (.invokestatic 40) 3 14 := ⟨tX8_from_0_ok (11, .invokestatic 40, 3) (List.mem_of_getElem? (i := 7) rfl), rfl⟩
theorem pX8_from_14 : At cX8_from 14 (.istore 5) 2 16 := ⟨tX8_from_0_ok (14, .istore 5, 2) (List.mem_of_getElem? (i := 8) rfl), rfl⟩
theorem pX8_from_16 : At cX8_from 16 (.aload_n 0) 1 17 := ⟨tX8_from_0_ok (16, .aload_n 0, 1) (List.mem_of_getElem? (i := 9) rfl), rfl⟩
theorem pX8_from_17 : At cX8_from 17 (.iload 5) 2 19 := ⟨tX8_from_0_ok (17, .iload 5, 2) (List.mem_of_getElem? (i := 10) rfl), rfl⟩
theorem pX8_from_19 : At cX8_from 19 (.invokevirtual 44) 3 22 := ⟨tX8_from_0_ok (19, .invokevirtual 44, 3) (List.mem_of_getElem? (i := 11) rfl), rfl⟩
theorem pX8_from_22 : At cX8_from 22 (.iload 4) 2 24 := ⟨tX8_from_0_ok (22, .iload 4, 2) (List.mem_of_getElem? (i := 12) rfl), rfl⟩
theorem pX8_from_24 : At cX8_from 24 (.iconst 1) 1 25 := ⟨tX8_from_0_ok (24, .iconst 1, 1) (List.mem_of_getElem? (i := 13) rfl), rfl⟩
theorem pX8_from_25 : At cX8_from 25 (.iadd) 1 26 := ⟨tX8_from_0_ok (25, .iadd, 1) (List.mem_of_getElem? (i := 14) rfl), rfl⟩
theorem pX8_from_26 : At cX8_from 26 (.istore 6) 2 28 := ⟨tX8_from_0_ok (26, .istore 6, 2) (List.mem_of_getElem? (i := 15) rfl), rfl⟩
theorem pX8_from_28 : At cX8_from 28 (.iload 5) 2 30 := ⟨tX8_from_0_ok (28, .iload 5, 2) (List.mem_of_getElem? (i := 16) rfl), rfl⟩
theorem pX8_from_30 : decode cX8_from 30 = .ok (.lookupswitch 228 #[(10, 90), (11, 97), (12, 108), (13, 115), (20, 133), (30, 152), (40, 163), (50, 175), (51, 190), (60, 209)], 90) := tX8_from_0_ok (30, .lookupswitch 228 #[(10, 90), (11, 97), (12, 108), (13, 115), (20, 133), (30, 152), (40, 163), (50, 175), (51, 190), (60, 209)], 90) (List.mem_of_getElem? (i := 17) rfl)
theorem pX8_from_120 : At cX8_from 120 (.iload_n 3) 1 121 := ⟨tX8_from_0_ok (120, .iload_n 3, 1) (List.mem_of_getElem? (i := 18) rfl), rfl⟩
theorem pX8_from_121 : At cX8_from 121 (.aload_n 0) 1 122 := ⟨tX8_from_0_ok (121, .aload_n 0, 1) (List.mem_of_getElem? (i := 19) rfl), rfl⟩
theorem pX8_from_122 : At cX8_from 122 (.getfield 22) 3 125 := ⟨tX8_from_0_ok (122, .getfield 22, 3) (List.mem_of_getElem? (i := 20) rfl), rfl⟩
theorem pX8_from_125 : At cX8_from 125 (.iadd) 1 126 := ⟨tX8_from_0_ok (125, .iadd, 1) (List.mem_of_getElem? (i := 21) rfl), rfl⟩
theorem pX8_from_126 : At cX8_from 126 (.ireturn) 1 127 := ⟨tX8_from_0_ok (126, .ireturn, 1) (List.mem_of_getElem? (i := 22) rfl), rfl⟩
theorem pX8_from_127 : At cX8_from 127 (.aload_n 0) 1 128 := ⟨tX8_from_0_ok (127, .aload_n 0, 1) (List.mem_of_getElem? (i := 23) rfl), rfl⟩
theorem pX8_from_128 : At cX8_from 128 (.iconst 0) 1 129 := ⟨tX8_from_0_ok (128, .iconst 0, 1) (List.mem_of_getElem? (i := 24) rfl), rfl⟩
theorem pX8_from_129 : At cX8_from 129 (.iload_n 3) 1 130 := ⟨tX8_from_0_ok (129, .iload_n 3, 1) (List.mem_of_getElem? (i := 25) rfl), rfl⟩
theorem pX8_from_130 : At cX8_from 130 (.iload 6) 2 132 := ⟨tX8_from_0_ok (130, .iload 6, 2) (List.mem_of_getElem? (i := 26) rfl), rfl⟩
theorem pX8_from_132 : At cX8_from 132 (.invokevirtual 32) 3 135 := ⟨tX8_from_0_ok (132, .invokevirtual 32, 3) (List.mem_of_getElem? (i := 27) rfl), rfl⟩
theorem pX8_from_135 : At cX8_from 135 (.iconst 2) 1 136 := ⟨tX8_from_0_ok (135, .iconst 2, 1) (List.mem_of_getElem? (i := 28) rfl), rfl⟩
theorem pX8_from_136 : At cX8_from 136 (.imul) 1 137 := ⟨tX8_from_0_ok (136, .imul, 1) (List.mem_of_getElem? (i := 29) rfl), rfl⟩
theorem pX8_from_137 : At cX8_from 137 (.ireturn) 1 138 := ⟨tX8_from_0_ok (137, .ireturn, 1) (List.mem_of_getElem? (i := 30) rfl), rfl⟩
theorem pX8_from_138 : At cX8_from 138 (.iload_n 3) 1 139 := ⟨tX8_from_0_ok (138, .iload_n 3, 1) (List.mem_of_getElem? (i := 31) rfl), rfl⟩
theorem pX8_from_139 : At cX8_from 139 (.aload_n 0) 1 140 := ⟨tX8_from_0_ok (139, .aload_n 0, 1) (List.mem_of_getElem? (i := 32) rfl), rfl⟩
theorem pX8_from_140 : At cX8_from 140 (.getfield 28) 3 143 := ⟨tX8_from_0_ok (140, .getfield 28, 3) (List.mem_of_getElem? (i := 33) rfl), rfl⟩
theorem pX8_from_143 : At cX8_from 143 (.isub) 1 144 := ⟨tX8_from_0_ok (143, .isub, 1) (List.mem_of_getElem? (i := 34) rfl), rfl⟩
theorem pX8_from_144 : At cX8_from 144 (.ireturn) 1 145 := ⟨tX8_from_0_ok (144, .ireturn, 1) (List.mem_of_getElem? (i := 35) rfl), rfl⟩
theorem pX8_from_145 : At cX8_from 145 (.aload_n 0) 1 146 := ⟨tX8_from_0_ok (145, .aload_n 0, 1) (List.mem_of_getElem? (i := 36) rfl), rfl⟩
theorem pX8_from_146 : At cX8_from 146 (.iconst 1) 1 147 := ⟨tX8_from_0_ok (146, .iconst 1, 1) (List.mem_of_getElem? (i := 37) rfl), rfl⟩
theorem pX8_from_147 : At cX8_from 147 (.iload_n 3) 1 148 := ⟨tX8_from_0_ok (147, .iload_n 3, 1) (List.mem_of_getElem? (i := 38) rfl), rfl⟩
theorem pX8_from_148 : At cX8_from 148 (.iload 6) 2 150 := ⟨tX8_from_0_ok (148, .iload 6, 2) (List.mem_of_getElem? (i := 39) rfl), rfl⟩
theorem pX8_from_150 : At cX8_from 150 (.invokevirtual 32) 3 153 := ⟨tX8_from_0_ok (150, .invokevirtual 32, 3) (List.mem_of_getElem? (i := 40) rfl), rfl⟩
theorem pX8_from_153 : At cX8_from 153 (.aload_n 0) 1 154 := ⟨tX8_from_0_ok (153, .aload_n 0, 1) (List.mem_of_getElem? (i := 41) rfl), rfl⟩
theorem pX8_from_154 : At cX8_from 154 (.iconst 2) 1 155 := ⟨tX8_from_0_ok (154, .iconst 2, 1) (List.mem_of_getElem? (i := 42) rfl), rfl⟩
theorem pX8_from_155 : At cX8_from 155 (.iload_n 3) 1 156 := ⟨tX8_from_0_ok (155, .iload_n 3, 1) (List.mem_of_getElem? (i := 43) rfl), rfl⟩
theorem pX8_from_156 : At cX8_from 156 (.iload 6) 2 158 := ⟨tX8_from_0_ok (156, .iload 6, 2) (List.mem_of_getElem? (i := 44) rfl), rfl⟩
theorem pX8_from_158 : At cX8_from 158 (.invokevirtual 32) 3 161 := ⟨tX8_from_0_ok (158, .invokevirtual 32, 3) (List.mem_of_getElem? (i := 45) rfl), rfl⟩
theorem pX8_from_161 : At cX8_from 161 (.ixor) 1 162 := ⟨tX8_from_0_ok (161, .ixor, 1) (List.mem_of_getElem? (i := 46) rfl), rfl⟩
theorem pX8_from_162 : At cX8_from 162 (.ireturn) 1 163 := ⟨tX8_from_0_ok (162, .ireturn, 1) (List.mem_of_getElem? (i := 47) rfl), rfl⟩
theorem pX8_from_163 : At cX8_from 163 (.aload_n 0) 1 164 := ⟨tX8_from_0_ok (163, .aload_n 0, 1) (List.mem_of_getElem? (i := 48) rfl), rfl⟩
theorem pX8_from_164 : At cX8_from 164 (.iconst 0) 1 165 := ⟨tX8_from_0_ok (164, .iconst 0, 1) (List.mem_of_getElem? (i := 49) rfl), rfl⟩
theorem pX8_from_165 : At cX8_from 165 (.iconst 1) 1 166 := ⟨tX8_from_0_ok (165, .iconst 1, 1) (List.mem_of_getElem? (i := 50) rfl), rfl⟩
theorem pX8_from_166 : At cX8_from 166 (.iload_n 3) 1 167 := ⟨tX8_from_0_ok (166, .iload_n 3, 1) (List.mem_of_getElem? (i := 51) rfl), rfl⟩
theorem pX8_from_167 : At cX8_from 167 (.iload 6) 2 169 := ⟨tX8_from_0_ok (167, .iload 6, 2) (List.mem_of_getElem? (i := 52) rfl), rfl⟩
theorem pX8_from_169 : At cX8_from 169 (.invokevirtual 36) 3 172 := ⟨tX8_from_0_ok (169, .invokevirtual 36, 3) (List.mem_of_getElem? (i := 53) rfl), rfl⟩
theorem pX8_from_172 : At cX8_from 172 (.aload_n 0) 1 173 := ⟨tX8_from_0_ok (172, .aload_n 0, 1) (List.mem_of_getElem? (i := 54) rfl), rfl⟩
theorem pX8_from_173 : At cX8_from 173 (.iconst 2) 1 174 := ⟨tX8_from_0_ok (173, .iconst 2, 1) (List.mem_of_getElem? (i := 55) rfl), rfl⟩
theorem pX8_from_174 : At cX8_from 174 (.iconst 1) 1 175 := ⟨tX8_from_0_ok (174, .iconst 1, 1) (List.mem_of_getElem? (i := 56) rfl), rfl⟩
theorem pX8_from_175 : At cX8_from 175 (.iload 6) 2 177 := ⟨tX8_from_0_ok (175, .iload 6, 2) (List.mem_of_getElem? (i := 57) rfl), rfl⟩
theorem pX8_from_177 : At cX8_from 177 (.invokevirtual 32) 3 180 := ⟨tX8_from_0_ok (177, .invokevirtual 32, 3) (List.mem_of_getElem? (i := 58) rfl), rfl⟩
theorem pX8_from_180 : At cX8_from 180 (.isub) 1 181 := ⟨tX8_from_0_ok (180, .isub, 1) (List.mem_of_getElem? (i := 59) rfl), rfl⟩
theorem pX8_from_181 : At cX8_from 181 (.ireturn) 1 182 := ⟨tX8_from_0_ok (181, .ireturn, 1) (List.mem_of_getElem? (i := 60) rfl), rfl⟩
theorem pX8_from_182 : At cX8_from 182 (.aload_n 0) 1 183 := ⟨tX8_from_0_ok (182, .aload_n 0, 1) (List.mem_of_getElem? (i := 61) rfl), rfl⟩
theorem pX8_from_183 : At cX8_from 183 (.iconst 0) 1 184 := ⟨tX8_from_0_ok (183, .iconst 0, 1) (List.mem_of_getElem? (i := 62) rfl), rfl⟩
theorem pX8_from_184 : At cX8_from 184 (.iconst 2) 1 185 := ⟨tX8_from_0_ok (184, .iconst 2, 1) (List.mem_of_getElem? (i := 63) rfl), rfl⟩
theorem pX8_from_185 : At cX8_from 185 (.iload_n 3) 1 186 := ⟨tX8_from_0_ok (185, .iload_n 3, 1) (List.mem_of_getElem? (i := 64) rfl), rfl⟩
theorem pX8_from_186 : At cX8_from 186 (.iload 6) 2 188 := ⟨tX8_from_0_ok (186, .iload 6, 2) (List.mem_of_getElem? (i := 65) rfl), rfl⟩
theorem pX8_from_188 : At cX8_from 188 (.invokevirtual 36) 3 191 := ⟨tX8_from_0_ok (188, .invokevirtual 36, 3) (List.mem_of_getElem? (i := 66) rfl), rfl⟩
theorem pX8_from_191 : At cX8_from 191 (.ineg) 1 192 := ⟨tX8_from_0_ok (191, .ineg, 1) (List.mem_of_getElem? (i := 67) rfl), rfl⟩
theorem pX8_from_192 : At cX8_from 192 (.ireturn) 1 193 := ⟨tX8_from_0_ok (192, .ireturn, 1) (List.mem_of_getElem? (i := 68) rfl), rfl⟩
theorem pX8_from_193 : At cX8_from 193 (.aload_n 0) 1 194 := ⟨tX8_from_0_ok (193, .aload_n 0, 1) (List.mem_of_getElem? (i := 69) rfl), rfl⟩
theorem pX8_from_194 : At cX8_from 194 (.iconst 0) 1 195 := ⟨tX8_from_0_ok (194, .iconst 0, 1) (List.mem_of_getElem? (i := 70) rfl), rfl⟩
theorem pX8_from_195 : At cX8_from 195 (.iconst 0) 1 196 := ⟨tX8_from_0_ok (195, .iconst 0, 1) (List.mem_of_getElem? (i := 71) rfl), rfl⟩
theorem pX8_from_196 : At cX8_from 196 (.iload_n 3) 1 197 := ⟨tX8_from_0_ok (196, .iload_n 3, 1) (List.mem_of_getElem? (i := 72) rfl), rfl⟩
theorem pX8_from_197 : At cX8_from 197 (.iload 6) 2 199 := ⟨tX8_from_0_ok (197, .iload 6, 2) (List.mem_of_getElem? (i := 73) rfl), rfl⟩
theorem pX8_from_199 : At cX8_from 199 (.invokevirtual 36) 3 202 := ⟨tX8_from_0_ok (199, .invokevirtual 36, 3) (List.mem_of_getElem? (i := 74) rfl), rfl⟩
theorem pX8_from_202 : At cX8_from 202 (.iconst 3) 1 203 := ⟨tX8_from_0_ok (202, .iconst 3, 1) (List.mem_of_getElem? (i := 75) rfl), rfl⟩
theorem pX8_from_203 : At cX8_from 203 (.imul) 1 204 := ⟨tX8_from_0_ok (203, .imul, 1) (List.mem_of_getElem? (i := 76) rfl), rfl⟩
theorem pX8_from_204 : At cX8_from 204 (.ireturn) 1 205 := ⟨tX8_from_0_ok (204, .ireturn, 1) (List.mem_of_getElem? (i := 77) rfl), rfl⟩
theorem pX8_from_205 : At cX8_from 205 (.aload_n 0) 1 206 := ⟨tX8_from_0_ok (205, .aload_n 0, 1) (List.mem_of_getElem? (i := 78) rfl), rfl⟩
theorem pX8_from_206 : At cX8_from 206 (.iconst 2) 1 207 := ⟨tX8_from_0_ok (206, .iconst 2, 1) (List.mem_of_getElem? (i := 79) rfl), rfl⟩
theorem pX8_from_207 : At cX8_from 207 (.iconst 2) 1 208 := ⟨tX8_from_0_ok (207, .iconst 2, 1) (List.mem_of_getElem? (i := 80) rfl), rfl⟩
theorem pX8_from_208 : At cX8_from 208 (.iload_n 3) 1 209 := ⟨tX8_from_0_ok (208, .iload_n 3, 1) (List.mem_of_getElem? (i := 81) rfl), rfl⟩
theorem pX8_from_209 : At cX8_from 209 (.iload 6) 2 211 := ⟨tX8_from_0_ok (209, .iload 6, 2) (List.mem_of_getElem? (i := 82) rfl), rfl⟩
theorem pX8_from_211 : At cX8_from 211 (.invokevirtual 36) 3 214 := ⟨tX8_from_0_ok (211, .invokevirtual 36, 3) (List.mem_of_getElem? (i := 83) rfl), rfl⟩
theorem pX8_from_214 : At cX8_from 214 (.aload_n 0) 1 215 := ⟨tX8_from_0_ok (214, .aload_n 0, 1) (List.mem_of_getElem? (i := 84) rfl), rfl⟩
theorem pX8_from_215 : At cX8_from 215 (.getfield 22) 3 218 := ⟨tX8_from_0_ok (215, .getfield 22, 3) (List.mem_of_getElem? (i := 85) rfl), rfl⟩
theorem pX8_from_218 : At cX8_from 218 (.ixor) 1 219 := ⟨tX8_from_0_ok (218, .ixor, 1) (List.mem_of_getElem? (i := 86) rfl), rfl⟩
theorem pX8_from_219 : At cX8_from 219 (.ireturn) 1 220 := ⟨tX8_from_0_ok (219, .ireturn, 1) (List.mem_of_getElem? (i := 87) rfl), rfl⟩
theorem pX8_from_220 : At cX8_from 220 (.aload_n 0) 1 221 := ⟨tX8_from_0_ok (220, .aload_n 0, 1) (List.mem_of_getElem? (i := 88) rfl), rfl⟩
theorem pX8_from_221 : At cX8_from 221 (.iconst 1) 1 222 := ⟨tX8_from_0_ok (221, .iconst 1, 1) (List.mem_of_getElem? (i := 89) rfl), rfl⟩
theorem pX8_from_222 : At cX8_from 222 (.iload_n 3) 1 223 := ⟨tX8_from_0_ok (222, .iload_n 3, 1) (List.mem_of_getElem? (i := 90) rfl), rfl⟩
theorem pX8_from_223 : At cX8_from 223 (.iload 6) 2 225 := ⟨tX8_from_0_ok (223, .iload 6, 2) (List.mem_of_getElem? (i := 91) rfl), rfl⟩
theorem pX8_from_225 : At cX8_from 225 (.invokevirtual 32) 3 228 := ⟨tX8_from_0_ok (225, .invokevirtual 32, 3) (List.mem_of_getElem? (i := 92) rfl), rfl⟩
theorem pX8_from_228 : At cX8_from 228 (.aload_n 0) 1 229 := ⟨tX8_from_0_ok (228, .aload_n 0, 1) (List.mem_of_getElem? (i := 93) rfl), rfl⟩
theorem pX8_from_229 : At cX8_from 229 (.iconst 2) 1 230 := ⟨tX8_from_0_ok (229, .iconst 2, 1) (List.mem_of_getElem? (i := 94) rfl), rfl⟩
theorem pX8_from_230 : At cX8_from 230 (.iconst 3) 1 231 := ⟨tX8_from_0_ok (230, .iconst 3, 1) (List.mem_of_getElem? (i := 95) rfl), rfl⟩
theorem pX8_from_231 : At cX8_from 231 (.iload_n 3) 1 232 := ⟨tX8_from_0_ok (231, .iload_n 3, 1) (List.mem_of_getElem? (i := 96) rfl), rfl⟩
theorem pX8_from_232 : At cX8_from 232 (.iload 6) 2 234 := ⟨tX8_from_0_ok (232, .iload 6, 2) (List.mem_of_getElem? (i := 97) rfl), rfl⟩
theorem pX8_from_234 : At cX8_from 234 (.invokevirtual 36) 3 237 := ⟨tX8_from_0_ok (234, .invokevirtual 36, 3) (List.mem_of_getElem? (i := 98) rfl), rfl⟩
theorem pX8_from_237 : At cX8_from 237 (.isub) 1 238 := ⟨tX8_from_0_ok (237, .isub, 1) (List.mem_of_getElem? (i := 99) rfl), rfl⟩
theorem pX8_from_238 : At cX8_from 238 (.ireturn) 1 239 := ⟨tX8_from_1_ok (238, .ireturn, 1) (List.mem_of_getElem? (i := 0) rfl), rfl⟩
theorem pX8_from_239 : At cX8_from 239 (.aload_n 0) 1 240 := ⟨tX8_from_1_ok (239, .aload_n 0, 1) (List.mem_of_getElem? (i := 1) rfl), rfl⟩
theorem pX8_from_240 : At cX8_from 240 (.iconst 3) 1 241 := ⟨tX8_from_1_ok (240, .iconst 3, 1) (List.mem_of_getElem? (i := 2) rfl), rfl⟩
theorem pX8_from_241 : At cX8_from 241 (.iconst 3) 1 242 := ⟨tX8_from_1_ok (241, .iconst 3, 1) (List.mem_of_getElem? (i := 3) rfl), rfl⟩
theorem pX8_from_242 : At cX8_from 242 (.iload_n 3) 1 243 := ⟨tX8_from_1_ok (242, .iload_n 3, 1) (List.mem_of_getElem? (i := 4) rfl), rfl⟩
theorem pX8_from_243 : At cX8_from 243 (.iload 6) 2 245 := ⟨tX8_from_1_ok (243, .iload 6, 2) (List.mem_of_getElem? (i := 5) rfl), rfl⟩
theorem pX8_from_245 : At cX8_from 245 (.invokevirtual 36) 3 248 := ⟨tX8_from_1_ok (245, .invokevirtual 36, 3) (List.mem_of_getElem? (i := 6) rfl), rfl⟩
theorem pX8_from_248 : At cX8_from 248 (.aload_n 0) 1 249 := ⟨tX8_from_1_ok (248, .aload_n 0, 1) (List.mem_of_getElem? (i := 7) rfl), rfl⟩
theorem pX8_from_249 : At cX8_from 249 (.iconst 0) 1 250 := ⟨tX8_from_1_ok (249, .iconst 0, 1) (List.mem_of_getElem? (i := 8) rfl), rfl⟩
theorem pX8_from_250 : At cX8_from 250 (.iconst 2) 1 251 := ⟨tX8_from_1_ok (250, .iconst 2, 1) (List.mem_of_getElem? (i := 9) rfl), rfl⟩
theorem pX8_from_251 : At cX8_from 251 (.iload 6) 2 253 := ⟨tX8_from_1_ok (251, .iload 6, 2) (List.mem_of_getElem? (i := 10) rfl), rfl⟩
theorem pX8_from_253 : At cX8_from 253 (.invokevirtual 32) 3 256 := ⟨tX8_from_1_ok (253, .invokevirtual 32, 3) (List.mem_of_getElem? (i := 11) rfl), rfl⟩
theorem pX8_from_256 : At cX8_from 256 (.isub) 1 257 := ⟨tX8_from_1_ok (256, .isub, 1) (List.mem_of_getElem? (i := 12) rfl), rfl⟩
theorem pX8_from_257 : At cX8_from 257 (.ireturn) 1 258 := ⟨tX8_from_1_ok (257, .ireturn, 1) (List.mem_of_getElem? (i := 13) rfl), rfl⟩
theorem pX8_from_258 : At cX8_from 258 (.aload_n 0) 1 259 := ⟨tX8_from_1_ok (258, .aload_n 0, 1) (List.mem_of_getElem? (i := 14) rfl), rfl⟩
theorem pX8_from_259 : At cX8_from 259 (.iconst 1) 1 260 := ⟨tX8_from_1_ok (259, .iconst 1, 1) (List.mem_of_getElem? (i := 15) rfl), rfl⟩
theorem pX8_from_260 : At cX8_from 260 (.iconst 1) 1 261 := ⟨tX8_from_1_ok (260, .iconst 1, 1) (List.mem_of_getElem? (i := 16) rfl), rfl⟩
theorem pX8_from_261 : At cX8_from 261 (.iload_n 3) 1 262 := ⟨tX8_from_1_ok (261, .iload_n 3, 1) (List.mem_of_getElem? (i := 17) rfl), rfl⟩
theorem pX8_from_262 : At cX8_from 262 (.iconst 1) 1 263 := ⟨tX8_from_1_ok (262, .iconst 1, 1) (List.mem_of_getElem? (i := 18) rfl), rfl⟩
theorem pX8_from_263 : At cX8_from 263 (.iadd) 1 264 := ⟨tX8_from_1_ok (263, .iadd, 1) (List.mem_of_getElem? (i := 19) rfl), rfl⟩
theorem pX8_from_264 : At cX8_from 264 (.iload 6) 2 266 := ⟨tX8_from_1_ok (264, .iload 6, 2) (List.mem_of_getElem? (i := 20) rfl), rfl⟩
theorem pX8_from_266 : At cX8_from 266 (.invokevirtual 36) 3 269 := ⟨tX8_from_1_ok (266, .invokevirtual 36, 3) (List.mem_of_getElem? (i := 21) rfl), rfl⟩
theorem pX8_from_269 : At cX8_from 269 (.ireturn) 1 270 := ⟨tX8_from_1_ok (269, .ireturn, 1) (List.mem_of_getElem? (i := 22) rfl), rfl⟩
def tX8_speak_0 : List (Nat × Instr × Nat) := [(0, .aload_n 0, 1), (1, .aload_n 1, 1), (2, .getfield 15, 3), (5, .putfield 21, 3), (8, .aload_n 0, 1), (9, .iload_n 2, 1), (10, .putfield 22, 3), (13, .aload_n 0, 1), (14, .aload_n 1, 1), (15, .getfield 25, 3), (18, .putfield 28, 3), (21, .aload_n 0, 1), (22, .iconst 0, 1), (23, .putfield 29, 3), (26, .aload_n 0, 1), (27, .iload_n 3, 1), (28, .iload 4, 2), (30, .iconst 0, 1), (31, .invokevirtual 32, 3), (34, .ireturn, 1)]
theorem tX8_speak_0_ok : ∀ q ∈ tX8_speak_0, decode cX8_speak q.1 = .ok (q.2.1, q.2.2) := by decide +kernel
theorem pX8_speak_0 : At cX8_speak 0 (.aload_n 0) 1 1 := ⟨tX8_speak_0_ok (0, .aload_n 0, 1) (List.mem_of_getElem? (i := 0) rfl), rfl⟩
theorem pX8_speak_1 : At cX8_speak 1 (.aload_n 1) 1 2 := ⟨tX8_speak_0_ok (1, .aload_n 1, 1) (List.mem_of_getElem? (i := 1) rfl), rfl⟩
theorem pX8_speak_2 : At cX8_speak 2 (.getfield 15) 3 5 := ⟨tX8_speak_0_ok (2, .getfield 15, 3) (List.mem_of_getElem? (i := 2) rfl), rfl⟩
theorem pX8_speak_5 : At cX8_speak 5 (.putfield 21) 3 8 := ⟨tX8_speak_0_ok (5, .putfield 21, 3) (List.mem_of_getElem? (i := 3) rfl), rfl⟩
theorem pX8_speak_8 : At cX8_speak 8 (.aload_n 0) 1 9 := ⟨tX8_speak_0_ok (8, .aload_n 0, 1) (List.mem_of_getElem? (i := 4) rfl), rfl⟩
theorem pX8_speak_9 : At cX8_speak 9 (.iload_n 2) 1 10 := ⟨tX8_speak_0_ok (9, .iload_n 2, 1) (List.mem_of_getElem? (i := 5) rfl), rfl⟩
theorem pX8_speak_10 : At cX8_speak 10 (.putfield 22) 3 13 := ⟨tX8_speak_0_ok (10, .putfield 22, 3) (List.mem_of_getElem? (i := 6) rfl), rfl⟩
theorem pX8_speak_13 : At cX8_speak 13 (.aload_n 0) 1 14 := ⟨tX8_speak_0_ok (13, .aload_n 0, 1) (List.mem_of_getElem? (i := 7) rfl), rfl⟩
theorem pX8_speak_14 : At cX8_speak 14 (.aload_n 1) 1 15 := ⟨tX8_speak_0_ok (14, .aload_n 1, 1) (List.mem_of_getElem? (i := 8) rfl), rfl⟩
theorem pX8_speak_15 : At cX8_speak 15 (.getfield 25) 3 18 := ⟨tX8_speak_0_ok (15, .getfield 25, 3) (List.mem_of_getElem? (i := 9) rfl), rfl⟩
theorem pX8_speak_18 : At cX8_speak 18 (.putfield 28) 3 21 := ⟨tX8_speak_0_ok (18, .putfield 28, 3) (List.mem_of_getElem? (i := 10) rfl), rfl⟩
theorem pX8_speak_21 : At cX8_speak 21 (.aload_n 0) 1 22 := ⟨tX8_speak_0_ok (21, .aload_n 0, 1) (List.mem_of_getElem? (i := 11) rfl), rfl⟩
theorem pX8_speak_22 : At cX8_speak 22 (.iconst 0) 1 23 := ⟨tX8_speak_0_ok (22, .iconst 0, 1) (List.mem_of_getElem? (i := 12) rfl), rfl⟩
theorem pX8_speak_23 : At cX8_speak 23 (.putfield 29) 3 26 := ⟨tX8_speak_0_ok (23, .putfield 29, 3) (List.mem_of_getElem? (i := 13) rfl), rfl⟩
theorem pX8_speak_26 : At cX8_speak 26 (.aload_n 0) 1 27 := ⟨tX8_speak_0_ok (26, .aload_n 0, 1) (List.mem_of_getElem? (i := 14) rfl), rfl⟩
theorem pX8_speak_27 : At cX8_speak 27 (.iload_n 3) 1 28 := ⟨tX8_speak_0_ok (27, .iload_n 3, 1) (List.mem_of_getElem? (i := 15) rfl), rfl⟩
theorem pX8_speak_28 : At cX8_speak 28 (.iload 4) 2 30 := ⟨tX8_speak_0_ok (28, .iload 4, 2) (List.mem_of_getElem? (i := 16) rfl), rfl⟩
theorem pX8_speak_30 : At cX8_speak 30 (.iconst 0) 1 31 := ⟨tX8_speak_0_ok (30, .iconst 0, 1) (List.mem_of_getElem? (i := 17) rfl), rfl⟩
theorem pX8_speak_31 : At cX8_speak 31 (.invokevirtual 32) 3 34 := ⟨tX8_speak_0_ok (31, .invokevirtual 32, 3) (List.mem_of_getElem? (i := 18) rfl), rfl⟩
theorem pX8_speak_34 : At cX8_speak 34 (.ireturn) 1 35 := ⟨tX8_speak_0_ok (34, .ireturn, 1) (List.mem_of_getElem? (i := 19) rfl), rfl⟩
def tX6_clear_0 : List (Nat × Instr × Nat) := [(0, .aload_n 0, 1), (1, .iload_n 1, 1), (2, .putfield 15, 3), (5, .aload_n 0, 1), (6, .iload_n 2, 1), (7, .putfield 19, 3), (10, .aload_n 0, 1), (11, .getfield 9, 3), (14, .iconst 0, 1), (15, .invokestatic 22, 3), (18, .return_, 1)]
theorem tX6_clear_0_ok : ∀ q ∈ tX6_clear_0, decode cX6_clear q.1 = .ok (q.2.1, q.2.2) := by decide +kernel
theorem pX6_clear_0 : At cX6_clear 0 (.aload_n 0) 1 1 := ⟨tX6_clear_0_ok (0, .aload_n 0, 1) (List.mem_of_getElem? (i := 0) rfl), rfl⟩
theorem pX6_clear_1 : At cX6_clear 1 (.iload_n 1) 1 2 := ⟨tX6_clear_0_ok (1, .iload_n 1, 1) (List.mem_of_getElem? (i := 1) rfl), rfl⟩
theorem pX6_clear_2 : At cX6_clear 2 (.putfield 15) 3 5 := ⟨tX6_clear_0_ok (2, .putfield 15, 3) (List.mem_of_getElem? (i := 2) rfl), rfl⟩
theorem pX6_clear_5 : At cX6_clear 5 (.aload_n 0) 1 6 := ⟨tX6_clear_0_ok (5, .aload_n 0, 1) (List.mem_of_getElem? (i := 3) rfl), rfl⟩
theorem pX6_clear_6 : At cX6_clear 6 (.iload_n 2) 1 7 := ⟨tX6_clear_0_ok (6, .iload_n 2, 1) (List.mem_of_getElem? (i := 4) rfl), rfl⟩
theorem pX6_clear_7 : At cX6_clear 7 (.putfield 19) 3 10 := ⟨tX6_clear_0_ok (7, .putfield 19, 3) (List.mem_of_getElem? (i := 5) rfl), rfl⟩
theorem pX6_clear_10 : At cX6_clear 10 (.aload_n 0) 1 11 := ⟨tX6_clear_0_ok (10, .aload_n 0, 1) (List.mem_of_getElem? (i := 6) rfl), rfl⟩
theorem pX6_clear_11 : At cX6_clear 11 (.getfield 9) 3 14 := ⟨tX6_clear_0_ok (11, .getfield 9, 3) (List.mem_of_getElem? (i := 7) rfl), rfl⟩
theorem pX6_clear_14 : At cX6_clear 14 (.iconst 0) 1 15 := ⟨tX6_clear_0_ok (14, .iconst 0, 1) (List.mem_of_getElem? (i := 8) rfl), rfl⟩
theorem pX6_clear_15 : At cX6_clear 15 (.invokestatic 22) 3 18 := ⟨tX6_clear_0_ok (15, .invokestatic 22, 3) (List.mem_of_getElem? (i := 9) rfl), rfl⟩
theorem pX6_clear_18 : At cX6_clear 18 (.return_) 1 19 := ⟨tX6_clear_0_ok (18, .return_, 1) (List.mem_of_getElem? (i := 10) rfl), rfl⟩
def tX6_lowestBits_0 : List (Nat × Instr × Nat) := [(0, .aload_n 0, 1), (1, .getfield 15, 3), (4, .bipush 32, 2), (6, .if_icmp .ne 5, 3), (9, .iload_n 1, 1), (10, .ireturn, 1), (11, .aload_n 0, 1), (12, .getfield 15, 3), (15, .bipush 8, 2), (17, .if_icmp .ne 8, 3), (20, .iload_n 1, 1), (21, .i2b, 1), (22, .goto 5, 3), (25, .iload_n 1, 1), (26, .i2s, 1), (27, .ireturn, 1)]
theorem tX6_lowestBits_0_ok : ∀ q ∈ tX6_lowestBits_0, decode cX6_lowestBits q.1 = .ok (q.2.1, q.2.2) := by decide +kernel
theorem pX6_lowestBits_0 : At cX6_lowestBits 0 (.aload_n 0) 1 1 := ⟨tX6_lowestBits_0_ok (0, .aload_n 0, 1) (List.mem_of_getElem? (i := 0) rfl), rfl⟩
theorem pX6_lowestBits_1 : At cX6_lowestBits 1 (.getfield 15) 3 4 := ⟨tX6_lowestBits_0_ok (1, .getfield 15, 3) (List.mem_of_getElem? (i := 1) rfl), rfl⟩
theorem pX6_lowestBits_4 : At cX6_lowestBits 4 (.bipush 32) 2 6 := ⟨tX6_lowestBits_0_ok (4, .bipush 32, 2) (List.mem_of_getElem? (i := 2) rfl), rfl⟩
theorem pX6_lowestBits_6 : Bt cX6_lowestBits 6 (.if_icmp .ne 5) 5 11 9 := ⟨tX6_lowestBits_0_ok (6, .if_icmp .ne 5, 3) (List.mem_of_getElem? (i := 3) rfl), by decide, rfl⟩
theorem pX6_lowestBits_9 : At cX6_lowestBits 9 (.iload_n 1) 1 10 := ⟨tX6_lowestBits_0_ok (9, .iload_n 1, 1) (List.mem_of_getElem? (i := 4) rfl), rfl⟩
theorem pX6_lowestBits_10 : At cX6_lowestBits 10 (.ireturn) 1 11 := ⟨tX6_lowestBits_0_ok (10, .ireturn, 1) (List.mem_of_getElem? (i := 5) rfl), rfl⟩
theorem pX6_lowestBits_11 : At cX6_lowestBits 11 (.aload_n 0) 1 12 := ⟨tX6_lowestBits_0_ok (11, .aload_n 0, 1) (List.mem_of_getElem? (i := 6) rfl), rfl⟩
theorem pX6_lowestBits_12 : At cX6_lowestBits 12 (.getfield 15) 3 15 := ⟨tX6_lowestBits_0_ok (12, .getfield 15, 3) (List.mem_of_getElem? (i := 7) rfl), rfl⟩
theorem pX6_lowestBits_15 : At cX6_lowestBits 15 (.bipush 8) 2 17 := ⟨tX6_lowestBits_0_ok (15, .bipush 8, 2) (List.mem_of_getElem? (i := 8) rfl), rfl⟩
theorem pX6_lowestBits_17 : Bt cX6_lowestBits 17 (.if_icmp .ne 8) 8 25 20 := ⟨tX6_lowestBits_0_ok (17, .if_icmp .ne 8, 3) (List.mem_of_getElem? (i := 9) rfl), by decide, rfl⟩
theorem pX6_lowestBits_20 : At cX6_lowestBits 20 (.iload_n 1) 1 21 := ⟨tX6_lowestBits_0_ok (20, .iload_n 1, 1) (List.mem_of_getElem? (i := 10) rfl), rfl⟩
theorem pX6_lowestBits_21 : At cX6_lowestBits 21 (.i2b) 1 22 := ⟨tX6_lowestBits_0_ok (21, .i2b, 1) (List.mem_of_getElem? (i := 11) rfl), rfl⟩
theorem pX6_lowestBits_22 : Bt cX6_lowestBits 22 (.goto 5) 5 27 25 := ⟨tX6_lowestBits_0_ok (22, .goto 5, 3) (List.mem_of_getElem? (i := 12) rfl), by decide, rfl⟩
theorem pX6_lowestBits_25 : At cX6_lowestBits 25 (.iload_n 1) 1 26 := ⟨tX6_lowestBits_0_ok (25, .iload_n 1, 1) (List.mem_of_getElem? (i := 13) rfl), rfl⟩
theorem pX6_lowestBits_26 : At cX6_lowestBits 26 (.i2s) 1 27 := ⟨tX6_lowestBits_0_ok (26, .i2s, 1) (List.mem_of_getElem? (i := 14) rfl), rfl⟩
theorem pX6_lowestBits_27 : At cX6_lowestBits 27 (.ireturn) 1 28 := ⟨tX6_lowestBits_0_ok (27, .ireturn, 1) (List.mem_of_getElem? (i := 15) rfl), rfl⟩
def tX6_hasFrom_0 : List (Nat × Instr × Nat) := [(0, .iload_n 1, 1), (1, .ifCond .lt 29, 3), (4, .iload_n 2, 1), (5, .ifCond .lt 25, 3), (8, .iload_n 1, 1), (9, .aload_n 0, 1), (10, .getfield 19, 3), (13, .if_icmp .gt 17, 3), (16, .iload_n 2, 1), (17, .aload_n 0, 1), (18, .getfield 19, 3), (21, .iload_n 1, 1), (22, .isub, 1), (23, .if_icmp .gt 7, 3), (26, .iconst 1, 1), (27, .goto 4, 3), (30, .iconst 0, 1), (31, .ireturn, 1)]
theorem tX6_hasFrom_0_ok : ∀ q ∈ tX6_hasFrom_0, decode cX6_hasFrom q.1 = .ok (q.2.1, q.2.2) := by decide +kernel
theorem pX6_hasFrom_0 : At cX6_hasFrom 0 (.iload_n 1) 1 1 := ⟨tX6_hasFrom_0_ok (0, .iload_n 1, 1) (List.mem_of_getElem? (i := 0) rfl), rfl⟩
theorem pX6_hasFrom_1 : Bt cX6_hasFrom 1 (.ifCond .lt 29) 29 30 4 := ⟨tX6_hasFrom_0_ok (1, .ifCond .lt 29, 3) (List.mem_of_getElem? (i := 1) rfl), by decide, rfl⟩
theorem pX6_hasFrom_4 : At cX6_hasFrom 4 (.iload_n 2) 1 5 := ⟨tX6_hasFrom_0_ok (4, .iload_n 2, 1) (List.mem_of_getElem? (i := 2) rfl), rfl⟩
theorem pX6_hasFrom_5 : Bt cX6_hasFrom 5 (.ifCond .lt 25) 25 30 8 := ⟨tX6_hasFrom_0_ok (5, .ifCond .lt 25, 3) (List.mem_of_getElem? (i := 3) rfl), by decide, rfl⟩
theorem pX6_hasFrom_8 : At cX6_hasFrom 8 (.iload_n 1) 1 9 := ⟨tX6_hasFrom_0_ok (8, .iload_n 1, 1) (List.mem_of_getElem? (i := 4) rfl), rfl⟩
theorem pX6_hasFrom_9 : At cX6_hasFrom 9 (.aload_n 0) 1 10 := ⟨tX6_hasFrom_0_ok (9, .aload_n 0, 1) (List.mem_of_getElem? (i := 5) rfl), rfl⟩
theorem pX6_hasFrom_10 : At cX6_hasFrom 10 (.getfield 19) 3 13 := ⟨tX6_hasFrom_0_ok (10, .getfield 19, 3) (List.mem_of_getElem? (i := 6) rfl), rfl⟩
theorem pX6_hasFrom_13 : Bt cX6_hasFrom 13 (.if_icmp .gt 17) 17 30 16 := ⟨tX6_hasFrom_0_ok (13, .if_icmp .gt 17, 3) (List.mem_of_getElem? (i := 7) rfl), by decide, rfl⟩
theorem pX6_hasFrom_16 : At cX6_hasFrom 16 (.iload_n 2) 1 17 := ⟨tX6_hasFrom_0_ok (16, .iload_n 2, 1) (List.mem_of_getElem? (i := 8) rfl), rfl⟩
theorem pX6_hasFrom_17 : At cX6_hasFrom 17 (.aload_n 0) 1 18 := ⟨tX6_hasFrom_0_ok (17, .aload_n 0, 1) (List.mem_of_getElem? (i := 9) rfl), rfl⟩
theorem pX6_hasFrom_18 : At cX6_hasFrom 18 (.getfield 19) 3 21 := ⟨tX6_hasFrom_0_ok (18, .getfield 19, 3) (List.mem_of_getElem? (i := 10) rfl), rfl⟩
theorem pX6_hasFrom_21 : At cX6_hasFrom 21 (.iload_n 1) 1 22 := ⟨tX6_hasFrom_0_ok (21, .iload_n 1, 1) (List.mem_of_getElem? (i := 11) rfl), rfl⟩
theorem pX6_hasFrom_22 : At cX6_hasFrom 22 (.isub) 1 23 := ⟨tX6_hasFrom_0_ok (22, .isub, 1) (List.mem_of_getElem? (i := 12) rfl), rfl⟩
theorem pX6_hasFrom_23 : Bt cX6_hasFrom 23 (.if_icmp .gt 7) 7 30 26 := ⟨tX6_hasFrom_0_ok (23, .if_icmp .gt 7, 3) (List.mem_of_getElem? (i := 13) rfl), by decide, rfl⟩
theorem pX6_hasFrom_26 : At cX6_hasFrom 26 (.iconst 1) 1 27 := ⟨tX6_hasFrom_0_ok (26, .iconst 1, 1) (List.mem_of_getElem? (i := 14) rfl), rfl⟩
theorem pX6_hasFrom_27 : Bt cX6_hasFrom 27 (.goto 4) 4 31 30 := ⟨tX6_hasFrom_0_ok (27, .goto 4, 3) (List.mem_of_getElem? (i := 15) rfl), by decide, rfl⟩
theorem pX6_hasFrom_30 : At cX6_hasFrom 30 (.iconst 0) 1 31 := ⟨tX6_hasFrom_0_ok (30, .iconst 0, 1) (List.mem_of_getElem? (i := 16) rfl), rfl⟩
theorem pX6_hasFrom_31 : At cX6_hasFrom 31 (.ireturn) 1 32 := ⟨tX6_hasFrom_0_ok (31, .ireturn, 1) (List.mem_of_getElem? (i := 17) rfl), rfl⟩
def tX5_copyFrom_0 : List (Nat × Instr × Nat) := [(0, .aload_n 0, 1), (1, .aload_n 1, 1), (2, .getfield 9, 3), (5, .putfield 9, 3), (8, .aload_n 0, 1), (9, .getfield 15, 3), (12, .iconst 0, 1), (13, .aload_n 1, 1), (14, .getfield 15, 3), (17, .iconst 0, 1), (18, .iaload, 1), (19, .iastore, 1), (20, .aload_n 0, 1), (21, .getfield 15, 3), (24, .iconst 1, 1), (25, .aload_n 1, 1), (26, .getfield 15, 3), (29, .iconst 1, 1), (30, .iaload, 1), (31, .iastore, 1), (32, .aload_n 0, 1), (33, .aload_n 1, 1), (34, .getfield 19, 3), (37, .putfield 19, 3), (40, .aload_n 0, 1), (41, .aload_n 1, 1), (42, .getfield 47, 3), (45, .putfield 47, 3), (48, .aload_n 1, 1), (49, .getfield 22, 3), (52, .iconst 0, 1), (53, .aload_n 0, 1), (54, .getfield 22, 3), (57, .iconst 0, 1), (58, .bipush 50, 2), (60, .invokestatic 50, 3), (63, .aload_n 0, 1), (64, .aload_n 1, 1), (65, .getfield 56, 3), (68, .putfield 56, 3), (71, .aload_n 1, 1), (72, .getfield 26, 3), (75, .iconst 0, 1), (76, .aload_n 0, 1), (77, .getfield 26, 3), (80, .iconst 0, 1), (81, .bipush 20, 2), (83, .invokestatic 50, 3), (86, .aload_n 0, 1), (87, .getfield 34, 3), (90, .aload_n 1, 1), (91, .getfield 34, 3), (94, .getfield 59, 3), (97, .aload_n 1, 1), (98, .getfield 34, 3), (101, .getfield 62, 3), (104, .invokevirtual 65, 3), (107, .aload_n 0, 1), (108, .getfield 38, 3), (111, .aload_n 1, 1), (112, .getfield 38, 3), (115, .getfield 59, 3), (118, .aload_n 1, 1), (119, .getfield 38, 3), (122, .getfield 62, 3), (125, .invokevirtual 65, 3), (128, .aload_n 0, 1), (129, .invokevirtual 44, 3), (132, .return_, 1)]
theorem tX5_copyFrom_0_ok : ∀ q ∈ tX5_copyFrom_0, decode cX5_copyFrom q.1 = .ok (q.2.1, q.2.2) := by decide +kernel
theorem pX5_copyFrom_0 : At cX5_copyFrom 0 (.aload_n 0) 1 1 := ⟨tX5_copyFrom_0_ok (0, .aload_n 0, 1) (List.mem_of_getElem? (i := 0) rfl), rfl⟩
theorem pX5_copyFrom_1 : At cX5_copyFrom 1 (.aload_n 1) 1 2 := ⟨tX5_copyFrom_0_ok (1, .aload_n 1, 1) (List.mem_of_getElem? (i := 1) rfl), rfl⟩
theorem pX5_copyFrom_2 : At cX5_copyFrom 2 (.getfield 9) 3 5 := ⟨tX5_copyFrom_0_ok (2, .getfield 9, 3) (List.mem_of_getElem? (i := 2) rfl), rfl⟩
theorem pX5_copyFrom_5 : At cX5_copyFrom 5 (.putfield 9) 3 8 := ⟨tX5_copyFrom_0_ok (5, .putfield 9, 3) (List.mem_of_getElem? (i := 3) rfl), rfl⟩
theorem pX5_copyFrom_8 : At cX5_copyFrom 8 (.aload_n 0) 1 9 := ⟨tX5_copyFrom_0_ok (8, .aload_n 0, 1) (List.mem_of_getElem? (i := 4) rfl), rfl⟩
theorem pX5_copyFrom_9 : At cX5_copyFrom 9 (.getfield 15) 3 12 := ⟨tX5_copyFrom_0_ok (9, .getfield 15, 3) (List.mem_of_getElem? (i := 5) rfl), rfl⟩
theorem pX5_copyFrom_12 : At cX5_copyFrom 12 (.iconst 0) 1 13 := ⟨tX5_copyFrom_0_ok (12, .iconst 0, 1) (List.mem_of_getElem? (i := 6) rfl), rfl⟩
theorem pX5_copyFrom_13 : At cX5_copyFrom 13 (.aload_n 1) 1 14 := ⟨tX5_copyFrom_0_ok (13, .aload_n 1, 1) (List.mem_of_getElem? (i := 7) rfl), rfl⟩
theorem pX5_copyFrom_14 : At cX5_copyFrom 14 (.getfield 15) 3 17 := ⟨tX5_copyFrom_0_ok (14, .getfield 15, 3) (List.mem_of_getElem? (i := 8) rfl), rfl⟩
theorem pX5_copyFrom_17 : At cX5_copyFrom 17 (.iconst 0) 1 18 := ⟨tX5_copyFrom_0_ok (17, .iconst 0, 1) (List.mem_of_getElem? (i := 9) rfl), rfl⟩
theorem pX5_copyFrom_18 : At cX5_copyFrom 18 (.iaload) 1 19 := ⟨tX5_copyFrom_0_ok (18, .iaload, 1) (List.mem_of_getElem? (i := 10) rfl), rfl⟩
theorem pX5_copyFrom_19 : At cX5_copyFrom 19 (.iastore) 1 20 := ⟨tX5_copyFrom_0_ok (19, .iastore, 1) (List.mem_of_getElem? (i := 11) rfl), rfl⟩
theorem pX5_copyFrom_20 : At cX5_copyFrom 20 (.aload_n 0) 1 21 := ⟨tX5_copyFrom_0_ok (20, .aload_n 0, 1) (List.mem_of_getElem? (i := 12) rfl), rfl⟩
theorem pX5_copyFrom_21 : At cX5_copyFrom 21 (.getfield 15) 3 24 := ⟨tX5_copyFrom_0_ok (21, .getfield 15, 3) (List.mem_of_getElem? (i := 13) rfl), rfl⟩
theorem pX5_copyFrom_24 : At cX5_copyFrom 24 (.iconst 1) 1 25 := ⟨tX5_copyFrom_0_ok (24, .iconst 1, 1) (List.mem_of_getElem? (i := 14) rfl), rfl⟩
theorem pX5_copyFrom_25 : At cX5_copyFrom 25 (.aload_n 1) 1 26 := ⟨tX5_copyFrom_0_ok (25, .aload_n 1, 1) (List.mem_of_getElem? (i := 15) rfl), rfl⟩
theorem pX5_copyFrom_26 : At cX5_copyFrom 26 (.getfield 15) 3 29 := ⟨tX5_copyFrom_0_ok (26, .getfield 15, 3) (List.mem_of_getElem? (i := 16) rfl), rfl⟩
theorem pX5_copyFrom_29 : At cX5_copyFrom 29 (.iconst 1) 1 30 := ⟨tX5_copyFrom_0_ok (29, .iconst 1, 1) (List.mem_of_getElem? (i := 17) rfl), rfl⟩
theorem pX5_copyFrom_30 : At cX5_copyFrom 30 (.iaload) 1 31 := ⟨tX5_copyFrom_0_ok (30, .iaload, 1) (List.mem_of_getElem? (i := 18) rfl), rfl⟩
theorem pX5_copyFrom_31 : At cX5_copyFrom 31 (.iastore) 1 32 := ⟨tX5_copyFrom_0_ok (31, .iastore, 1) (List.mem_of_getElem? (i := 19) rfl), rfl⟩
theorem pX5_copyFrom_32 : At cX5_copyFrom 32 (.aload_n 0) 1 33 := ⟨tX5_copyFrom_0_ok (32, .aload_n 0, 1) (List.mem_of_getElem? (i := 20) rfl), rfl⟩
theorem pX5_copyFrom_33 : At cX5_copyFrom 33 (.aload_n 1) 1 34 := ⟨tX5_copyFrom_0_ok (33, .aload_n 1, 1) (List.mem_of_getElem? (i := 21) rfl), rfl⟩
theorem pX5_copyFrom_34 : At cX5_copyFrom 34 (.getfield 19) 3 37 := ⟨tX5_copyFrom_0_ok (34, .getfield 19, 3) (List.mem_of_getElem? (i := 22) rfl), rfl⟩
theorem pX5_copyFrom_37 : At cX5_copyFrom 37 (.putfield 19) 3 40 := ⟨tX5_copyFrom_0_ok (37, .putfield 19, 3) (List.mem_of_getElem? (i := 23) rfl), rfl⟩
theorem pX5_copyFrom_40 : At cX5_copyFrom 40 (.aload_n 0) 1 41 := ⟨tX5_copyFrom_0_ok (40, .aload_n 0, 1) (List.mem_of_getElem? (i := 24) rfl), rfl⟩
theorem pX5_copyFrom_41 : At cX5_copyFrom 41 (.aload_n 1) 1 42 := ⟨tX5_copyFrom_0_ok (41, .aload_n 1, 1) (List.mem_of_getElem? (i := 25) rfl), rfl⟩
theorem pX5_copyFrom_42 : At cX5_copyFrom 42 (.getfield 47) 3 45 := ⟨tX5_copyFrom_0_ok (42, .getfield 47, 3) (List.mem_of_getElem? (i := 26) rfl), rfl⟩
theorem pX5_copyFrom_45 : At cX5_copyFrom 45 (.putfield 47) 3 48 := ⟨tX5_copyFrom_0_ok (45, .putfield 47, 3) (List.mem_of_getElem? (i := 27) rfl), rfl⟩
theorem pX5_copyFrom_48 : At cX5_copyFrom 48 (.aload_n 1) 1 49 := ⟨tX5_copyFrom_0_ok (48, .aload_n 1, 1) (List.mem_of_getElem? (i := 28) rfl), rfl⟩
theorem pX5_copyFrom_49 : At cX5_copyFrom 49 (.getfield 22) 3 52 := ⟨tX5_copyFrom_0_ok (49, .getfield 22, 3) (List.mem_of_getElem? (i := 29) rfl), rfl⟩
theorem pX5_copyFrom_52 : At cX5_copyFrom 52 (.iconst 0) 1 53 := ⟨tX5_copyFrom_0_ok (52, .iconst 0, 1) (List.mem_of_getElem? (i := 30) rfl), rfl⟩
theorem pX5_copyFrom_53 : At cX5_copyFrom 53 (.aload_n 0) 1 54 := ⟨tX5_copyFrom_0_ok (53, .aload_n 0, 1) (List.mem_of_getElem? (i := 31) rfl), rfl⟩
theorem pX5_copyFrom_54 : At cX5_copyFrom 54 (.getfield 22) 3 57 := ⟨tX5_copyFrom_0_ok (54, .getfield 22, 3) (List.mem_of_getElem? (i := 32) rfl), rfl⟩
theorem pX5_copyFrom_57 : At cX5_copyFrom 57 (.iconst 0) 1 58 := ⟨tX5_copyFrom_0_ok (57, .iconst 0, 1) (List.mem_of_getElem? (i := 33) rfl), rfl⟩
theorem pX5_copyFrom_58 : At cX5_copyFrom 58 (.bipush 50) 2 60 := ⟨tX5_copyFrom_0_ok (58, .bipush 50, 2) (List.mem_of_getElem? (i := 34) rfl), rfl⟩
theorem pX5_copyFrom_60 : At cX5_copyFrom 60 (.invokestatic 50) 3 63 := ⟨tX5_copyFrom_0_ok (60, .invokestatic 50, 3) (List.mem_of_getElem? (i := 35) rfl), rfl⟩
theorem pX5_copyFrom_63 : At cX5_copyFrom 63 (.aload_n 0) 1 64 := ⟨tX5_copyFrom_0_ok (63, .aload_n 0, 1) (List.mem_of_getElem? (i := 36) rfl), rfl⟩
theorem pX5_copyFrom_64 : At cX5_copyFrom 64 (.aload_n 1) 1 65 := ⟨tX5_copyFrom_0_ok (64, .aload_n 1, 1) (List.mem_of_getElem? (i := 37) rfl), rfl⟩
theorem pX5_copyFrom_65 : At cX5_copyFrom 65 (.getfield 56) 3 68 := ⟨tX5_copyFrom_0_ok (65, .getfield 56, 3) (List.mem_of_getElem? (i := 38) rfl), rfl⟩
theorem pX5_copyFrom_68 : At cX5_copyFrom 68 (.putfield 56) 3 71 := ⟨tX5_copyFrom_0_ok (68, .putfield 56, 3) (List.mem_of_getElem? (i := 39) rfl), rfl⟩
theorem pX5_copyFrom_71 : At cX5_copyFrom 71 (.aload_n 1) 1 72 := ⟨tX5_copyFrom_0_ok (71, .aload_n 1, 1) (List.mem_of_getElem? (i := 40) rfl), rfl⟩
theorem pX5_copyFrom_72 : At cX5_copyFrom 72 (.getfield 26) 3 75 := ⟨tX5_copyFrom_0_ok (72, .getfield 26, 3) (List.mem_of_getElem? (i := 41) rfl), rfl⟩
theorem pX5_copyFrom_75 : At cX5_copyFrom 75 (.iconst 0) 1 76 := ⟨tX5_copyFrom_0_ok (75, .iconst 0, 1) (List.mem_of_getElem? (i := 42) rfl), rfl⟩
theorem pX5_copyFrom_76 : At cX5_copyFrom 76 (.aload_n 0) 1 77 := ⟨tX5_copyFrom_0_ok (76, .aload_n 0, 1) (List.mem_of_getElem? (i := 43) rfl), rfl⟩
theorem pX5_copyFrom_77 : At cX5_copyFrom 77 (.getfield 26) 3 80 := ⟨tX5_copyFrom_0_ok (77, .getfield 26, 3) (List.mem_of_getElem? (i := 44) rfl), rfl⟩
theorem pX5_copyFrom_80 : At cX5_copyFrom 80 (.iconst 0) 1 81 := ⟨tX5_copyFrom_0_ok (80, .iconst 0, 1) (List.mem_of_getElem? (i := 45) rfl), rfl⟩
theorem pX5_copyFrom_81 : At cX5_copyFrom 81 (.bipush 20) 2 83 := ⟨tX5_copyFrom_0_ok (81, .bipush 20, 2) (List.mem_of_getElem? (i := 46) rfl), rfl⟩
theorem pX5_copyFrom_83 : At cX5_copyFrom 83 (.invokestatic 50) 3 86 := ⟨tX5_copyFrom_0_ok (83, .invokestatic 50, 3) (List.mem_of_getElem? (i := 47) rfl), rfl⟩
theorem pX5_copyFrom_86 : At cX5_copyFrom 86 (.aload_n 0) 1 87 := ⟨tX5_copyFrom_0_ok (86, .aload_n 0, 1) (List.mem_of_getElem? (i := 48) rfl), rfl⟩
theorem pX5_copyFrom_87 : At cX5_copyFrom 87 (.getfield 34) 3 90 := ⟨tX5_copyFrom_0_ok (87, .getfield 34, 3) (List.mem_of_getElem? (i := 49) rfl), rfl⟩
theorem pX5_copyFrom_90 : At cX5_copyFrom 90 (.aload_n 1) 1 91 := ⟨tX5_copyFrom_0_ok (90, .aload_n 1, 1) (List.mem_of_getElem? (i := 50) rfl), rfl⟩
theorem pX5_copyFrom_91 : At cX5_copyFrom 91 (.getfield 34) 3 94 := ⟨tX5_copyFrom_0_ok (91, .getfield 34, 3) (List.mem_of_getElem? (i := 51) rfl), rfl⟩
theorem pX5_copyFrom_94 : At cX5_copyFrom 94 (.getfield 59) 3 97 := ⟨tX5_copyFrom_0_ok (94, .getfield 59, 3) (List.mem_of_getElem? (i := 52) rfl), rfl⟩
theorem pX5_copyFrom_97 : At cX5_copyFrom 97 (.aload_n 1) 1 98 := ⟨tX5_copyFrom_0_ok (97, .aload_n 1, 1) (List.mem_of_getElem? (i := 53) rfl), rfl⟩
theorem pX5_copyFrom_98 : At cX5_copyFrom 98 (.getfield 34) 3 101 := ⟨tX5_copyFrom_0_ok (98, .getfield 34, 3) (List.mem_of_getElem? (i := 54) rfl), rfl⟩
theorem pX5_copyFrom_101 : At cX5_copyFrom 101 (.getfield 62) 3 104 := ⟨tX5_copyFrom_0_ok (101, .getfield 62, 3) (List.mem_of_getElem? (i := 55) rfl), rfl⟩
theorem pX5_copyFrom_104 : At cX5_copyFrom 104 (.invokevirtual 65) 3 107 := ⟨tX5_copyFrom_0_ok (104, .invokevirtual 65, 3) (List.mem_of_getElem? (i := 56) rfl), rfl⟩
theorem pX5_copyFrom_107 : At cX5_copyFrom 107 (.aload_n 0) 1 108 := ⟨tX5_copyFrom_0_ok (107, .aload_n 0, 1) (List.mem_of_getElem? (i := 57) rfl), rfl⟩
theorem pX5_copyFrom_108 : At cX5_copyFrom 108 (.getfield 38) 3 111 := ⟨tX5_copyFrom_0_ok (108, .getfield 38, 3) (List.mem_of_getElem? (i := 58) rfl), rfl⟩
theorem pX5_copyFrom_111 : At cX5_copyFrom 111 (.aload_n 1) 1 112 := ⟨tX5_copyFrom_0_ok (111, .aload_n 1, 1) (List.mem_of_getElem? (i := 59) rfl), rfl⟩
theorem pX5_copyFrom_112 : At cX5_copyFrom 112 (.getfield 38) 3 115 := ⟨tX5_copyFrom_0_ok (112, .getfield 38, 3) (List.mem_of_getElem? (i := 60) rfl), rfl⟩
theorem pX5_copyFrom_115 : At cX5_copyFrom 115 (.getfield 59) 3 118 := ⟨tX5_copyFrom_0_ok (115, .getfield 59, 3) (List.mem_of_getElem? (i := 61) rfl), rfl⟩
theorem pX5_copyFrom_118 : At cX5_copyFrom 118 (.aload_n 1) 1 119 := ⟨tX5_copyFrom_0_ok (118, .aload_n 1, 1) (List.mem_of_getElem? (i := 62) rfl), rfl⟩
theorem pX5_copyFrom_119 : At cX5_copyFrom 119 (.getfield 38) 3 122 := ⟨tX5_copyFrom_0_ok (119, .getfield 38, 3) (List.mem_of_getElem? (i := 63) rfl), rfl⟩
theorem pX5_copyFrom_122 : At cX5_copyFrom 122 (.getfield 62) 3 125 := ⟨tX5_copyFrom_0_ok (122, .getfield 62, 3) (List.mem_of_getElem? (i := 64) rfl), rfl⟩
theorem pX5_copyFrom_125 : At cX5_copyFrom 125 (.invokevirtual 65) 3 128 := ⟨tX5_copyFrom_0_ok (125, .invokevirtual 65, 3) (List.mem_of_getElem? (i := 65) rfl), rfl⟩
theorem pX5_copyFrom_128 : At cX5_copyFrom 128 (.aload_n 0) 1 129 := ⟨tX5_copyFrom_0_ok (128, .aload_n 0, 1) (List.mem_of_getElem? (i := 66) rfl), rfl⟩
theorem pX5_copyFrom_129 : At cX5_copyFrom 129 (.invokevirtual 44) 3 132 := ⟨tX5_copyFrom_0_ok (129, .invokevirtual 44, 3) (List.mem_of_getElem? (i := 67) rfl), rfl⟩
theorem pX5_copyFrom_132 : At cX5_copyFrom 132 (.return_) 1 133 := ⟨tX5_copyFrom_0_ok (132, .return_, 1) (List.mem_of_getElem? (i := 68) rfl), rfl⟩
def tX0_floorsTogether_0 : List (Nat × Instr × Nat) := [(0, .iconst 0, 1), (1, .istore_n 1, 1), (2, .iconst 0, 1), (3, .istore_n 2, 1), (4, .iload_n 2, 1), (5, .aload_n 0, 1), (6, .getfield 18, 3), (9, .if_icmp .ge 21, 3), (12, .iload_n 1, 1), (13, .aload_n 0, 1), (14, .getfield 11, 3), (17, .iload_n 2, 1), (18, .aaload, 1), (19, .getfield 32, 3), (22, .iadd, 1), (23, .istore_n 1, 1), (24, .iinc 2 1, 3), (27, .goto (-23), 3), (30, .iload_n 1, 1), (31, .ireturn, 1)]
theorem tX0_floorsTogether_0_ok : ∀ q ∈ tX0_floorsTogether_0, decode cX0_floorsTogether q.1 = .ok (q.2.1, q.2.2) := by decide +kernel
theorem pX0_floorsTogether_0 : At cX0_floorsTogether 0 (.iconst 0) 1 1 := ⟨tX0_floorsTogether_0_ok (0, .iconst 0, 1) (List.mem_of_getElem? (i := 0) rfl), rfl⟩
theorem pX0_floorsTogether_1 : At cX0_floorsTogether 1 (.istore_n 1) 1 2 := ⟨tX0_floorsTogether_0_ok (1, .istore_n 1, 1) (List.mem_of_getElem? (i := 1) rfl), rfl⟩
theorem pX0_floorsTogether_2 : At cX0_floorsTogether 2 (.iconst 0) 1 3 := ⟨tX0_floorsTogether_0_ok (2, .iconst 0, 1) (List.mem_of_getElem? (i := 2) rfl), rfl⟩
theorem pX0_floorsTogether_3 : At cX0_floorsTogether 3 (.istore_n 2) 1 4 := ⟨tX0_floorsTogether_0_ok (3, .istore_n 2, 1) (List.mem_of_getElem? (i := 3) rfl), rfl⟩
theorem pX0_floorsTogether_4 : At cX0_floorsTogether 4 (.iload_n 2) 1 5 := ⟨tX0_floorsTogether_0_ok (4, .iload_n 2, 1) (List.mem_of_getElem? (i := 4) rfl), rfl⟩
theorem pX0_floorsTogether_5 : At cX0_floorsTogether 5 (.aload_n 0) 1 6 := ⟨tX0_floorsTogether_0_ok (5, .aload_n 0, 1) (List.mem_of_getElem? (i := 5) rfl), rfl⟩
theorem pX0_floorsTogether_6 : At cX0_floorsTogether 6 (.getfield 18) 3 9 := ⟨tX0_floorsTogether_0_ok (6, .getfield 18, 3) (List.mem_of_getElem? (i := 6) rfl), rfl⟩
theorem pX0_floorsTogether_9 : Bt cX0_floorsTogether 9 (.if_icmp .ge 21) 21 30 12 := ⟨tX0_floorsTogether_0_ok (9, .if_icmp .ge 21, 3) (List.mem_of_getElem? (i := 7) rfl), by decide, rfl⟩
theorem pX0_floorsTogether_12 : At cX0_floorsTogether 12 (.iload_n 1) 1 13 := ⟨tX0_floorsTogether_0_ok (12, .iload_n 1, 1) (List.mem_of_getElem? (i := 8) rfl), rfl⟩
theorem pX0_floorsTogether_13 : At cX0_floorsTogether 13 (.aload_n 0) 1 14 := ⟨tX0_floorsTogether_0_ok (13, .aload_n 0, 1) (List.mem_of_getElem? (i := 9) rfl), rfl⟩
theorem pX0_floorsTogether_14 : At cX0_floorsTogether 14 (.getfield 11) 3 17 := ⟨tX0_floorsTogether_0_ok (14, .getfield 11, 3) (List.mem_of_getElem? (i := 10) rfl), rfl⟩
theorem pX0_floorsTogether_17 : At cX0_floorsTogether 17 (.iload_n 2) 1 18 := ⟨tX0_floorsTogether_0_ok (17, .iload_n 2, 1) (List.mem_of_getElem? (i := 11) rfl), rfl⟩
theorem pX0_floorsTogether_18 : At cX0_floorsTogether 18 (.aaload) 1 19 := ⟨tX0_floorsTogether_0_ok (18, .aaload, 1) (List.mem_of_getElem? (i := 12) rfl), rfl⟩
theorem pX0_floorsTogether_19 : At cX0_floorsTogether 19 (.getfield 32) 3 22 := ⟨tX0_floorsTogether_0_ok (19, .getfield 32, 3) (List.mem_of_getElem? (i := 13) rfl), rfl⟩
theorem pX0_floorsTogether_22 : At cX0_floorsTogether 22 (.iadd) 1 23 := ⟨tX0_floorsTogether_0_ok (22, .iadd, 1) (List.mem_of_getElem? (i := 14) rfl), rfl⟩
theorem pX0_floorsTogether_23 : At cX0_floorsTogether 23 (.istore_n 1) 1 24 := ⟨tX0_floorsTogether_0_ok (23, .istore_n 1, 1) (List.mem_of_getElem? (i := 15) rfl), rfl⟩
theorem pX0_floorsTogether_24 : At cX0_floorsTogether 24 (.iinc 2 1) 3 27 := ⟨tX0_floorsTogether_0_ok (24, .iinc 2 1, 3) (List.mem_of_getElem? (i := 16) rfl), rfl⟩
theorem pX0_floorsTogether_27 : Bt cX0_floorsTogether 27 (.goto (-23)) (-23) 4 30 := ⟨tX0_floorsTogether_0_ok (27, .goto (-23), 3) (List.mem_of_getElem? (i := 17) rfl), by decide, rfl⟩
theorem pX0_floorsTogether_30 : At cX0_floorsTogether 30 (.iload_n 1) 1 31 := ⟨tX0_floorsTogether_0_ok (30, .iload_n 1, 1) (List.mem_of_getElem? (i := 18) rfl), rfl⟩
theorem pX0_floorsTogether_31 : At cX0_floorsTogether 31 (.ireturn) 1 32 := ⟨tX0_floorsTogether_0_ok (31, .ireturn, 1) (List.mem_of_getElem? (i := 19) rfl), rfl⟩
def tX0_howManyWithin_0 : List (Nat × Instr × Nat) := [(0, .iconst 0, 1), (1, .istore_n 3, 1), (2, .iconst 0, 1), (3, .istore 4, 2), (5, .iload 4, 2), (7, .aload_n 0, 1), (8, .getfield 18, 3), (11, .if_icmp .ge 35, 3), (14, .iload_n 3, 1), (15, .aload_n 0, 1), (16, .getfield 11, 3), (19, .iload 4, 2), (21, .aaload, 1), (22, .getfield 32, 3), (25, .iload_n 1, 1), (26, .iload_n 2, 1), (27, .invokestatic 71, 3), (30, .ifCond .eq 7, 3), (33, .iconst 1, 1), (34, .goto 4, 3), (37, .iconst 0, 1), (38, .iadd, 1), (39, .istore_n 3, 1), (40, .iinc 4 1, 3), (43, .goto (-38), 3), (46, .iload_n 3, 1), (47, .ireturn, 1)]
theorem tX0_howManyWithin_0_ok : ∀ q ∈ tX0_howManyWithin_0, decode cX0_howManyWithin q.1 = .ok (q.2.1, q.2.2) := by decide +kernel
theorem pX0_howManyWithin_0 : At cX0_howManyWithin 0 (.iconst 0) 1 1 := ⟨tX0_howManyWithin_0_ok (0, .iconst 0, 1) (List.mem_of_getElem? (i := 0) rfl), rfl⟩
theorem pX0_howManyWithin_1 : At cX0_howManyWithin 1 (.istore_n 3) 1 2 := ⟨tX0_howManyWithin_0_ok (1, .istore_n 3, 1) (List.mem_of_getElem? (i := 1) rfl), rfl⟩
theorem pX0_howManyWithin_2 : At cX0_howManyWithin 2 (.iconst 0) 1 3 := ⟨tX0_howManyWithin_0_ok (2, .iconst 0, 1) (List.mem_of_getElem? (i := 2) rfl), rfl⟩
theorem pX0_howManyWithin_3 : At cX0_howManyWithin 3 (.istore 4) 2 5 := ⟨tX0_howManyWithin_0_ok (3, .istore 4, 2) (List.mem_of_getElem? (i := 3) rfl), rfl⟩
theorem pX0_howManyWithin_5 : At cX0_howManyWithin 5 (.iload 4) 2 7 := ⟨tX0_howManyWithin_0_ok (5, .iload 4, 2) (List.mem_of_getElem? (i := 4) rfl), rfl⟩
theorem pX0_howManyWithin_7 : At cX0_howManyWithin 7 (.aload_n 0) 1 8 := ⟨tX0_howManyWithin_0_ok (7, .aload_n 0, 1) (List.mem_of_getElem? (i := 5) rfl), rfl⟩
theorem pX0_howManyWithin_8 : At cX0_howManyWithin 8 (.getfield 18) 3 11 := ⟨tX0_howManyWithin_0_ok (8, .getfield 18, 3) (List.mem_of_getElem? (i := 6) rfl), rfl⟩
theorem pX0_howManyWithin_11 : Bt cX0_howManyWithin 11 (.if_icmp .ge 35) 35 46 14 := ⟨tX0_howManyWithin_0_ok (11, .if_icmp .ge 35, 3) (List.mem_of_getElem? (i := 7) rfl), by decide, rfl⟩
theorem pX0_howManyWithin_14 : At cX0_howManyWithin 14 (.iload_n 3) 1 15 := ⟨tX0_howManyWithin_0_ok (14, .iload_n 3, 1) (List.mem_of_getElem? (i := 8) rfl), rfl⟩
theorem pX0_howManyWithin_15 : At cX0_howManyWithin 15 (.aload_n 0) 1 16 := ⟨tX0_howManyWithin_0_ok (15, .aload_n 0, 1) (List.mem_of_getElem? (i := 9) rfl), rfl⟩
theorem pX0_howManyWithin_16 : At cX0_howManyWithin 16 (.getfield 11) 3 19 := ⟨tX0_howManyWithin_0_ok (16, .getfield 11, 3) (List.mem_of_getElem? (i := 10) rfl), rfl⟩
theorem pX0_howManyWithin_19 : At cX0_howManyWithin 19 (.iload 4) 2 21 := ⟨tX0_howManyWithin_0_ok (19, .iload 4, 2) (List.mem_of_getElem? (i := 11) rfl), rfl⟩
theorem pX0_howManyWithin_21 : At cX0_howManyWithin 21 (.aaload) 1 22 := ⟨tX0_howManyWithin_0_ok (21, .aaload, 1) (List.mem_of_getElem? (i := 12) rfl), rfl⟩
theorem pX0_howManyWithin_22 : At cX0_howManyWithin 22 (.getfield 32) 3 25 := ⟨tX0_howManyWithin_0_ok (22, .getfield 32, 3) (List.mem_of_getElem? (i := 13) rfl), rfl⟩
theorem pX0_howManyWithin_25 : At cX0_howManyWithin 25 (.iload_n 1) 1 26 := ⟨tX0_howManyWithin_0_ok (25, .iload_n 1, 1) (List.mem_of_getElem? (i := 14) rfl), rfl⟩
theorem pX0_howManyWithin_26 : At cX0_howManyWithin 26 (.iload_n 2) 1 27 := ⟨tX0_howManyWithin_0_ok (26, .iload_n 2, 1) (List.mem_of_getElem? (i := 15) rfl), rfl⟩
theorem pX0_howManyWithin_27 : At cX0_howManyWithin 27 (.invokestatic 71) 3 30 := ⟨tX0_howManyWithin_0_ok (27, .invokestatic 71, 3) (List.mem_of_getElem? (i := 16) rfl), rfl⟩
theorem pX0_howManyWithin_30 : Bt cX0_howManyWithin 30 (.ifCond .eq 7) 7 37 33 := ⟨tX0_howManyWithin_0_ok (30, .ifCond .eq 7, 3) (List.mem_of_getElem? (i := 17) rfl), by decide, rfl⟩
theorem pX0_howManyWithin_33 : At cX0_howManyWithin 33 (.iconst 1) 1 34 := ⟨tX0_howManyWithin_0_ok (33, .iconst 1, 1) (List.mem_of_getElem? (i := 18) rfl), rfl⟩
theorem pX0_howManyWithin_34 : Bt cX0_howManyWithin 34 (.goto 4) 4 38 37 := ⟨tX0_howManyWithin_0_ok (34, .goto 4, 3) (List.mem_of_getElem? (i := 19) rfl), by decide, rfl⟩
theorem pX0_howManyWithin_37 : At cX0_howManyWithin 37 (.iconst 0) 1 38 := ⟨tX0_howManyWithin_0_ok (37, .iconst 0, 1) (List.mem_of_getElem? (i := 20) rfl), rfl⟩
theorem pX0_howManyWithin_38 : At cX0_howManyWithin 38 (.iadd) 1 39 := ⟨tX0_howManyWithin_0_ok (38, .iadd, 1) (List.mem_of_getElem? (i := 21) rfl), rfl⟩
theorem pX0_howManyWithin_39 : At cX0_howManyWithin 39 (.istore_n 3) 1 40 := ⟨tX0_howManyWithin_0_ok (39, .istore_n 3, 1) (List.mem_of_getElem? (i := 22) rfl), rfl⟩
theorem pX0_howManyWithin_40 : At cX0_howManyWithin 40 (.iinc 4 1) 3 43 := ⟨tX0_howManyWithin_0_ok (40, .iinc 4 1, 3) (List.mem_of_getElem? (i := 23) rfl), rfl⟩
theorem pX0_howManyWithin_43 : Bt cX0_howManyWithin 43 (.goto (-38)) (-38) 5 46 := ⟨tX0_howManyWithin_0_ok (43, .goto (-38), 3) (List.mem_of_getElem? (i := 24) rfl), by decide, rfl⟩
theorem pX0_howManyWithin_46 : At cX0_howManyWithin 46 (.iload_n 3) 1 47 := ⟨tX0_howManyWithin_0_ok (46, .iload_n 3, 1) (List.mem_of_getElem? (i := 25) rfl), rfl⟩
theorem pX0_howManyWithin_47 : At cX0_howManyWithin 47 (.ireturn) 1 48 := ⟨tX0_howManyWithin_0_ok (47, .ireturn, 1) (List.mem_of_getElem? (i := 26) rfl), rfl⟩
