def tX9_within_0 : List (Nat × Instr × Nat) := [(0, .iload_n 0, 1), (1, .iload_n 1, 1), (2, .if_icmp .lt 12, 3), (5, .iload_n 0, 1), (6, .iload_n 2, 1), (7, .if_icmp .gt 7, 3), (10, .iconst 1, 1), (11, .goto 4, 3), (14, .iconst 0, 1), (15, .ireturn, 1)]
theorem tX9_within_0_ok : ∀ q ∈ tX9_within_0, decode cX9_within q.1 = .ok (q.2.1, q.2.2) := by decide +kernel
theorem pX9_within_0 : At cX9_within 0 (.iload_n 0) 1 1 := ⟨tX9_within_0_ok (0, .iload_n 0, 1) (List.mem_of_getElem? (i := 0) rfl), rfl⟩
theorem pX9_within_1 : At cX9_within 1 (.iload_n 1) 1 2 := ⟨tX9_within_0_ok (1, .iload_n 1, 1) (List.mem_of_getElem? (i := 1) rfl), rfl⟩
theorem pX9_within_2 : Bt cX9_within 2 (.if_icmp .lt 12) 12 14 5 := ⟨tX9_within_0_ok (2, .if_icmp .lt 12, 3) (List.mem_of_getElem? (i := 2) rfl), by decide, rfl⟩
theorem pX9_within_5 : At cX9_within 5 (.iload_n 0) 1 6 := ⟨tX9_within_0_ok (5, .iload_n 0, 1) (List.mem_of_getElem? (i := 3) rfl), rfl⟩
theorem pX9_within_6 : At cX9_within 6 (.iload_n 2) 1 7 := ⟨tX9_within_0_ok (6, .iload_n 2, 1) (List.mem_of_getElem? (i := 4) rfl), rfl⟩
theorem pX9_within_7 : Bt cX9_within 7 (.if_icmp .gt 7) 7 14 10 := ⟨tX9_within_0_ok (7, .if_icmp .gt 7, 3) (List.mem_of_getElem? (i := 5) rfl), by decide, rfl⟩
theorem pX9_within_10 : At cX9_within 10 (.iconst 1) 1 11 := ⟨tX9_within_0_ok (10, .iconst 1, 1) (List.mem_of_getElem? (i := 6) rfl), rfl⟩
theorem pX9_within_11 : Bt cX9_within 11 (.goto 4) 4 15 14 := ⟨tX9_within_0_ok (11, .goto 4, 3) (List.mem_of_getElem? (i := 7) rfl), by decide, rfl⟩
theorem pX9_within_14 : At cX9_within 14 (.iconst 0) 1 15 := ⟨tX9_within_0_ok (14, .iconst 0, 1) (List.mem_of_getElem? (i := 8) rfl), rfl⟩
theorem pX9_within_15 : At cX9_within 15 (.ireturn) 1 16 := ⟨tX9_within_0_ok (15, .ireturn, 1) (List.mem_of_getElem? (i := 9) rfl), rfl⟩
def tX9_isKm_0 : List (Nat × Instr × Nat) := [(0, .iload_n 0, 1), (1, .iconst 0, 1), (2, .bipush 69, 2), (4, .invokestatic 104, 3), (7, .ireturn, 1)]
theorem tX9_isKm_0_ok : ∀ q ∈ tX9_isKm_0, decode cX9_isKm q.1 = .ok (q.2.1, q.2.2) := by decide +kernel
theorem pX9_isKm_0 : At cX9_isKm 0 (.iload_n 0) 1 1 := ⟨tX9_isKm_0_ok (0, .iload_n 0, 1) (List.mem_of_getElem? (i := 0) rfl), rfl⟩
theorem pX9_isKm_1 : At cX9_isKm 1 (.iconst 0) 1 2 := ⟨tX9_isKm_0_ok (1, .iconst 0, 1) (List.mem_of_getElem? (i := 1) rfl), rfl⟩
theorem pX9_isKm_2 : At cX9_isKm 2 (.bipush 69) 2 4 := ⟨tX9_isKm_0_ok (2, .bipush 69, 2) (List.mem_of_getElem? (i := 2) rfl), rfl⟩
theorem pX9_isKm_4 : At cX9_isKm 4 (.invokestatic 104) 3 7 := ⟨tX9_isKm_0_ok (4, .invokestatic 104, 3) (List.mem_of_getElem? (i := 3) rfl), rfl⟩
theorem pX9_isKm_7 : At cX9_isKm 7 (.ireturn) 1 8 := ⟨tX9_isKm_0_ok (7, .ireturn, 1) (List.mem_of_getElem? (i := 4) rfl), rfl⟩
def tX9_isFloor_0 : List (Nat × Instr × Nat) := [(0, .iload_n 0, 1), (1, .iconst 0, 1), (2, .bipush 40, 2), (4, .invokestatic 104, 3), (7, .ireturn, 1)]
theorem tX9_isFloor_0_ok : ∀ q ∈ tX9_isFloor_0, decode cX9_isFloor q.1 = .ok (q.2.1, q.2.2) := by decide +kernel
theorem pX9_isFloor_0 : At cX9_isFloor 0 (.iload_n 0) 1 1 := ⟨tX9_isFloor_0_ok (0, .iload_n 0, 1) (List.mem_of_getElem? (i := 0) rfl), rfl⟩
theorem pX9_isFloor_1 : At cX9_isFloor 1 (.iconst 0) 1 2 := ⟨tX9_isFloor_0_ok (1, .iconst 0, 1) (List.mem_of_getElem? (i := 1) rfl), rfl⟩
theorem pX9_isFloor_2 : At cX9_isFloor 2 (.bipush 40) 2 4 := ⟨tX9_isFloor_0_ok (2, .bipush 40, 2) (List.mem_of_getElem? (i := 2) rfl), rfl⟩
theorem pX9_isFloor_4 : At cX9_isFloor 4 (.invokestatic 104) 3 7 := ⟨tX9_isFloor_0_ok (4, .invokestatic 104, 3) (List.mem_of_getElem? (i := 3) rfl), rfl⟩
theorem pX9_isFloor_7 : At cX9_isFloor 7 (.ireturn) 1 8 := ⟨tX9_isFloor_0_ok (7, .ireturn, 1) (List.mem_of_getElem? (i := 4) rfl), rfl⟩
def tX9_error_0 : List (Nat × Instr × Nat) := [(0, .aload_n 0, 1), (1, .getfield 68, 3), (4, .iload_n 1, 1), (5, .dup2, 1), (6, .iaload, 1), (7, .iconst 1, 1), (8, .iadd, 1), (9, .iastore, 1), (10, .ldc_w 330, 3), (13, .iload_n 1, 1), (14, .isub, 1), (15, .ireturn, 1)]
theorem tX9_error_0_ok : ∀ q ∈ tX9_error_0, decode cX9_error q.1 = .ok (q.2.1, q.2.2) := by decide +kernel
theorem pX9_error_0 : At cX9_error 0 (.aload_n 0) 1 1 := ⟨tX9_error_0_ok (0, .aload_n 0, 1) (List.mem_of_getElem? (i := 0) rfl), rfl⟩
theorem pX9_error_1 : At cX9_error 1 (.getfield 68) 3 4 := ⟨tX9_error_0_ok (1, .getfield 68, 3) (List.mem_of_getElem? (i := 1) rfl), rfl⟩
theorem pX9_error_4 : At cX9_error 4 (.iload_n 1) 1 5 := ⟨tX9_error_0_ok (4, .iload_n 1, 1) (List.mem_of_getElem? (i := 2) rfl), rfl⟩
theorem pX9_error_5 : At cX9_error 5 (.dup2) 1 6 := ⟨tX9_error_0_ok (5, .dup2, 1) (List.mem_of_getElem? (i := 3) rfl), rfl⟩
theorem pX9_error_6 : At cX9_error 6 (.iaload) 1 7 := ⟨tX9_error_0_ok (6, .iaload, 1) (List.mem_of_getElem? (i := 4) rfl), rfl⟩
theorem pX9_error_7 : At cX9_error 7 (.iconst 1) 1 8 := ⟨tX9_error_0_ok (7, .iconst 1, 1) (List.mem_of_getElem? (i := 5) rfl), rfl⟩
theorem pX9_error_8 : At cX9_error 8 (.iadd) 1 9 := ⟨tX9_error_0_ok (8, .iadd, 1) (List.mem_of_getElem? (i := 6) rfl), rfl⟩
theorem pX9_error_9 : At cX9_error 9 (.iastore) 1 10 := ⟨tX9_error_0_ok (9, .iastore, 1) (List.mem_of_getElem? (i := 7) rfl), rfl⟩
theorem pX9_error_10 : At cX9_error 10 (.ldc_w 330) 3 13 := ⟨tX9_error_0_ok (10, .ldc_w 330, 3) (List.mem_of_getElem? (i := 8) rfl), rfl⟩
theorem pX9_error_13 : At cX9_error 13 (.iload_n 1) 1 14 := ⟨tX9_error_0_ok (13, .iload_n 1, 1) (List.mem_of_getElem? (i := 9) rfl), rfl⟩
theorem pX9_error_14 : At cX9_error 14 (.isub) 1 15 := ⟨tX9_error_0_ok (14, .isub, 1) (List.mem_of_getElem? (i := 10) rfl), rfl⟩
theorem pX9_error_15 : At cX9_error 15 (.ireturn) 1 16 := ⟨tX9_error_0_ok (15, .ireturn, 1) (List.mem_of_getElem? (i := 11) rfl), rfl⟩
def tX9_good_0 : List (Nat × Instr × Nat) := [(0, .iload_n 1, 1), (1, .invokestatic 73, 3), (4, .ifCond .eq 10, 3), (7, .iload_n 2, 1), (8, .invokestatic 77, 3), (11, .ifCond .ne 9, 3), (14, .aload_n 0, 1), (15, .iconst 1, 1), (16, .invokevirtual 80, 3), (19, .ireturn, 1), (20, .aload_n 0, 1), (21, .getfield 10, 3), (24, .getfield 84, 3), (27, .bipush 8, 2), (29, .if_icmp .lt 9, 3), (32, .aload_n 0, 1), (33, .iconst 4, 1), (34, .invokevirtual 80, 3), (37, .ireturn, 1), (38, .aload_n 0, 1), (39, .getfield 10, 3), (42, .getfield 88, 3), (45, .aload_n 0, 1), (46, .getfield 10, 3), (49, .getfield 84, 3), (52, .aaload, 1), (53, .astore_n 3, 1), (54, .aload_n 3, 1), (55, .iload_n 1, 1), (56, .invokevirtual 92, 3), (59, .aload_n 3, 1), (60, .iload_n 2, 1), (61, .invokevirtual 98, 3), (64, .aload_n 0, 1), (65, .getfield 10, 3), (68, .dup, 1), (69, .getfield 84, 3), (72, .iconst 1, 1), (73, .iadd, 1), (74, .putfield 84, 3), (77, .aload_n 0, 1), (78, .getfield 10, 3), (81, .getfield 84, 3), (84, .iconst 1, 1), (85, .isub, 1), (86, .ireturn, 1)]
theorem tX9_good_0_ok : ∀ q ∈ tX9_good_0, decode cX9_good q.1 = .ok (q.2.1, q.2.2) := by decide +kernel
theorem pX9_good_0 : At cX9_good 0 (.iload_n 1) 1 1 := ⟨tX9_good_0_ok (0, .iload_n 1, 1) (List.mem_of_getElem? (i := 0) rfl), rfl⟩
theorem pX9_good_1 : At cX9_good 1 (.invokestatic 73) 3 4 := ⟨tX9_good_0_ok (1, .invokestatic 73, 3) (List.mem_of_getElem? (i := 1) rfl), rfl⟩
theorem pX9_good_4 : Bt cX9_good 4 (.ifCond .eq 10) 10 14 7 := ⟨tX9_good_0_ok (4, .ifCond .eq 10, 3) (List.mem_of_getElem? (i := 2) rfl), by decide, rfl⟩
theorem pX9_good_7 : At cX9_good 7 (.iload_n 2) 1 8 := ⟨tX9_good_0_ok (7, .iload_n 2, 1) (List.mem_of_getElem? (i := 3) rfl), rfl⟩
theorem pX9_good_8 : At cX9_good 8 (.invokestatic 77) 3 11 := ⟨tX9_good_0_ok (8, .invokestatic 77, 3) (List.mem_of_getElem? (i := 4) rfl), rfl⟩
theorem pX9_good_11 : Bt cX9_good 11 (.ifCond .ne 9) 9 20 14 := ⟨tX9_good_0_ok (11, .ifCond .ne 9, 3) (List.mem_of_getElem? (i := 5) rfl), by decide, rfl⟩
theorem pX9_good_14 : At cX9_good 14 (.aload_n 0) 1 15 := ⟨tX9_good_0_ok (14, .aload_n 0, 1) (List.mem_of_getElem? (i := 6) rfl), rfl⟩
theorem pX9_good_15 : At cX9_good 15 (.iconst 1) 1 16 := ⟨tX9_good_0_ok (15, .iconst 1, 1) (List.mem_of_getElem? (i := 7) rfl), rfl⟩
theorem pX9_good_16 : At cX9_good 16 (.invokevirtual 80) 3 19 := ⟨tX9_good_0_ok (16, .invokevirtual 80, 3) (List.mem_of_getElem? (i := 8) rfl), rfl⟩
theorem pX9_good_19 : At cX9_good 19 (.ireturn) 1 20 := ⟨tX9_good_0_ok (19, .ireturn, 1) (List.mem_of_getElem? (i := 9) rfl), rfl⟩
theorem pX9_good_20 : At cX9_good 20 (.aload_n 0) 1 21 := ⟨tX9_good_0_ok (20, .aload_n 0, 1) (List.mem_of_getElem? (i := 10) rfl), rfl⟩
theorem pX9_good_21 : At cX9_good 21 (.getfield 10) 3 24 := ⟨tX9_good_0_ok (21, .getfield 10, 3) (List.mem_of_getElem? (i := 11) rfl), rfl⟩
theorem pX9_good_24 : At cX9_good 24 (.getfield 84) 3 27 := ⟨tX9_good_0_ok (24, .getfield 84, 3) (List.mem_of_getElem? (i := 12) rfl), rfl⟩
theorem pX9_good_27 : At cX9_good 27 (.bipush 8) 2 29 := ⟨tX9_good_0_ok (27, .bipush 8, 2) (List.mem_of_getElem? (i := 13) rfl), rfl⟩
theorem pX9_good_29 : Bt cX9_good 29 (.if_icmp .lt 9) 9 38 32 := ⟨tX9_good_0_ok (29, .if_icmp .lt 9, 3) (List.mem_of_getElem? (i := 14) rfl), by decide, rfl⟩
theorem pX9_good_32 : At cX9_good 32 (.aload_n 0) 1 33 := ⟨tX9_good_0_ok (32, .aload_n 0, 1) (List.mem_of_getElem? (i := 15) rfl), rfl⟩
theorem pX9_good_33 : At cX9_good 33 (.iconst 4) 1 34 := ⟨tX9_good_0_ok (33, .iconst 4, 1) (List.mem_of_getElem? (i := 16) rfl), rfl⟩
theorem pX9_good_34 : At cX9_good 34 (.invokevirtual 80) 3 37 := ⟨tX9_good_0_ok (34, .invokevirtual 80, 3) (List.mem_of_getElem? (i := 17) rfl), rfl⟩
theorem pX9_good_37 : At cX9_good 37 (.ireturn) 1 38 := ⟨tX9_good_0_ok (37, .ireturn, 1) (List.mem_of_getElem? (i := 18) rfl), rfl⟩
theorem pX9_good_38 : At cX9_good 38 (.aload_n 0) 1 39 := ⟨tX9_good_0_ok (38, .aload_n 0, 1) (List.mem_of_getElem? (i := 19) rfl), rfl⟩
theorem pX9_good_39 : At cX9_good 39 (.getfield 10) 3 42 := ⟨tX9_good_0_ok (39, .getfield 10, 3) (List.mem_of_getElem? (i := 20) rfl), rfl⟩
theorem pX9_good_42 : At cX9_good 42 (.getfield 88) 3 45 := ⟨tX9_good_0_ok (42, .getfield 88, 3) (List.mem_of_getElem? (i := 21) rfl), rfl⟩
theorem pX9_good_45 : At cX9_good 45 (.aload_n 0) 1 46 := ⟨tX9_good_0_ok (45, .aload_n 0, 1) (List.mem_of_getElem? (i := 22) rfl), rfl⟩
theorem pX9_good_46 : At cX9_good 46 (.getfield 10) 3 49 := ⟨tX9_good_0_ok (46, .getfield 10, 3) (List.mem_of_getElem? (i := 23) rfl), rfl⟩
theorem pX9_good_49 : At cX9_good 49 (.getfield 84) 3 52 := ⟨tX9_good_0_ok (49, .getfield 84, 3) (List.mem_of_getElem? (i := 24) rfl), rfl⟩
theorem pX9_good_52 : At cX9_good 52 (.aaload) 1 53 := ⟨tX9_good_0_ok (52, .aaload, 1) (List.mem_of_getElem? (i := 25) rfl), rfl⟩
theorem pX9_good_53 : At cX9_good 53 (.astore_n 3) 1 54 := ⟨tX9_good_0_ok (53, .astore_n 3, 1) (List.mem_of_getElem? (i := 26) rfl), rfl⟩
theorem pX9_good_54 : At cX9_good 54 (.aload_n 3) 1 55 := ⟨tX9_good_0_ok (54, .aload_n 3, 1) (List.mem_of_getElem? (i := 27) rfl), rfl⟩
theorem pX9_good_55 : At cX9_good 55 (.iload_n 1) 1 56 := ⟨tX9_good_0_ok (55, .iload_n 1, 1) (List.mem_of_getElem? (i := 28) rfl), rfl⟩
theorem pX9_good_56 : At cX9_good 56 (.invokevirtual 92) 3 59 := ⟨tX9_good_0_ok (56, .invokevirtual 92, 3) (List.mem_of_getElem? (i := 29) rfl), rfl⟩
theorem pX9_good_59 : At cX9_good 59 (.aload_n 3) 1 60 := ⟨tX9_good_0_ok (59, .aload_n 3, 1) (List.mem_of_getElem? (i := 30) rfl), rfl⟩
theorem pX9_good_60 : At cX9_good 60 (.iload_n 2) 1 61 := ⟨tX9_good_0_ok (60, .iload_n 2, 1) (List.mem_of_getElem? (i := 31) rfl), rfl⟩
theorem pX9_good_61 : At cX9_good 61 (.invokevirtual 98) 3 64 := ⟨tX9_good_0_ok (61, .invokevirtual 98, 3) (List.mem_of_getElem? (i := 32) rfl), rfl⟩
theorem pX9_good_64 : At cX9_good 64 (.aload_n 0) 1 65 := ⟨tX9_good_0_ok (64, .aload_n 0, 1) (List.mem_of_getElem? (i := 33) rfl), rfl⟩
theorem pX9_good_65 : At cX9_good 65 (.getfield 10) 3 68 := ⟨tX9_good_0_ok (65, .getfield 10, 3) (List.mem_of_getElem? (i := 34) rfl), rfl⟩
theorem pX9_good_68 : At cX9_good 68 (.dup) 1 69 := ⟨tX9_good_0_ok (68, .dup, 1) (List.mem_of_getElem? (i := 35) rfl), rfl⟩
theorem pX9_good_69 : At cX9_good 69 (.getfield 84) 3 72 := ⟨tX9_good_0_ok (69, .getfield 84, 3) (List.mem_of_getElem? (i := 36) rfl), rfl⟩
theorem pX9_good_72 : At cX9_good 72 (.iconst 1) 1 73 := ⟨tX9_good_0_ok (72, .iconst 1, 1) (List.mem_of_getElem? (i := 37) rfl), rfl⟩
theorem pX9_good_73 : At cX9_good 73 (.iadd) 1 74 := ⟨tX9_good_0_ok (73, .iadd, 1) (List.mem_of_getElem? (i := 38) rfl), rfl⟩
theorem pX9_good_74 : At cX9_good 74 (.putfield 84) 3 77 := ⟨tX9_good_0_ok (74, .putfield 84, 3) (List.mem_of_getElem? (i := 39) rfl), rfl⟩
theorem pX9_good_77 : At cX9_good 77 (.aload_n 0) 1 78 := ⟨tX9_good_0_ok (77, .aload_n 0, 1) (List.mem_of_getElem? (i := 40) rfl), rfl⟩
theorem pX9_good_78 : At cX9_good 78 (.getfield 10) 3 81 := ⟨tX9_good_0_ok (78, .getfield 10, 3) (List.mem_of_getElem? (i := 41) rfl), rfl⟩
theorem pX9_good_81 : At cX9_good 81 (.getfield 84) 3 84 := ⟨tX9_good_0_ok (81, .getfield 84, 3) (List.mem_of_getElem? (i := 42) rfl), rfl⟩
theorem pX9_good_84 : At cX9_good 84 (.iconst 1) 1 85 := ⟨tX9_good_0_ok (84, .iconst 1, 1) (List.mem_of_getElem? (i := 43) rfl), rfl⟩
theorem pX9_good_85 : At cX9_good 85 (.isub) 1 86 := ⟨tX9_good_0_ok (85, .isub, 1) (List.mem_of_getElem? (i := 44) rfl), rfl⟩
theorem pX9_good_86 : At cX9_good 86 (.ireturn) 1 87 := ⟨tX9_good_0_ok (86, .ireturn, 1) (List.mem_of_getElem? (i := 45) rfl), rfl⟩
def tX9_isGood_0 : List (Nat × Instr × Nat) := [(0, .iload_n 1, 1), (1, .iconst 0, 1), (2, .aload_n 0, 1), (3, .getfield 10, 3), (6, .getfield 84, 3), (9, .iconst 1, 1), (10, .isub, 1), (11, .invokestatic 104, 3), (14, .ireturn, 1)]
theorem tX9_isGood_0_ok : ∀ q ∈ tX9_isGood_0, decode cX9_isGood q.1 = .ok (q.2.1, q.2.2) := by decide +kernel
theorem pX9_isGood_0 : At cX9_isGood 0 (.iload_n 1) 1 1 := ⟨tX9_isGood_0_ok (0, .iload_n 1, 1) (List.mem_of_getElem? (i := 0) rfl), rfl⟩
theorem pX9_isGood_1 : At cX9_isGood 1 (.iconst 0) 1 2 := ⟨tX9_isGood_0_ok (1, .iconst 0, 1) (List.mem_of_getElem? (i := 1) rfl), rfl⟩
theorem pX9_isGood_2 : At cX9_isGood 2 (.aload_n 0) 1 3 := ⟨tX9_isGood_0_ok (2, .aload_n 0, 1) (List.mem_of_getElem? (i := 2) rfl), rfl⟩
theorem pX9_isGood_3 : At cX9_isGood 3 (.getfield 10) 3 6 := ⟨tX9_isGood_0_ok (3, .getfield 10, 3) (List.mem_of_getElem? (i := 3) rfl), rfl⟩
theorem pX9_isGood_6 : At cX9_isGood 6 (.getfield 84) 3 9 := ⟨tX9_isGood_0_ok (6, .getfield 84, 3) (List.mem_of_getElem? (i := 4) rfl), rfl⟩
theorem pX9_isGood_9 : At cX9_isGood 9 (.iconst 1) 1 10 := ⟨tX9_isGood_0_ok (9, .iconst 1, 1) (List.mem_of_getElem? (i := 5) rfl), rfl⟩
theorem pX9_isGood_10 : At cX9_isGood 10 (.isub) 1 11 := ⟨tX9_isGood_0_ok (10, .isub, 1) (List.mem_of_getElem? (i := 6) rfl), rfl⟩
theorem pX9_isGood_11 : At cX9_isGood 11 (.invokestatic 104) 3 14 := ⟨tX9_isGood_0_ok (11, .invokestatic 104, 3) (List.mem_of_getElem? (i := 7) rfl), rfl⟩
theorem pX9_isGood_14 : At cX9_isGood 14 (.ireturn) 1 15 := ⟨tX9_isGood_0_ok (14, .ireturn, 1) (List.mem_of_getElem? (i := 8) rfl), rfl⟩
def tX9_held_0 : List (Nat × Instr × Nat) := [(0, .iload_n 1, 1), (1, .iload_n 2, 1), (2, .iload_n 0, 1), (3, .invokestatic 307, 3), (6, .invokestatic 334, 3), (9, .ireturn, 1)]
theorem tX9_held_0_ok : ∀ q ∈ tX9_held_0, decode cX9_held q.1 = .ok (q.2.1, q.2.2) := by decide +kernel
theorem pX9_held_0 : At cX9_held 0 (.iload_n 1) 1 1 := ⟨tX9_held_0_ok (0, .iload_n 1, 1) (List.mem_of_getElem? (i := 0) rfl), rfl⟩
theorem pX9_held_1 : At cX9_held 1 (.iload_n 2) 1 2 := ⟨tX9_held_0_ok (1, .iload_n 2, 1) (List.mem_of_getElem? (i := 1) rfl), rfl⟩
theorem pX9_held_2 : At cX9_held 2 (.iload_n 0) 1 3 := ⟨tX9_held_0_ok (2, .iload_n 0, 1) (List.mem_of_getElem? (i := 2) rfl), rfl⟩
theorem pX9_held_3 : At cX9_held 3 (.invokestatic 307) 3 6 := ⟨tX9_held_0_ok (3, .invokestatic 307, 3) (List.mem_of_getElem? (i := 3) rfl), rfl⟩
theorem pX9_held_6 : At cX9_held 6 (.invokestatic 334) 3 9 := ⟨tX9_held_0_ok (6, .invokestatic 334, 3) (List.mem_of_getElem? (i := 4) rfl), rfl⟩
theorem pX9_held_9 : At cX9_held 9 (.ireturn) 1 10 := ⟨tX9_held_0_ok (9, .ireturn, 1) (List.mem_of_getElem? (i := 5) rfl), rfl⟩
def tX9_ofGood_0 : List (Nat × Instr × Nat) := [(0, .aload_n 0, 1), (1, .iload_n 1, 1), (2, .invokevirtual 101, 3), (5, .ifCond .eq 13, 3), (8, .iload_n 2, 1), (9, .iconst 0, 1), (10, .bipush 9, 2), (12, .invokestatic 104, 3), (15, .ifCond .ne 9, 3), (18, .aload_n 0, 1), (19, .iconst 1, 1), (20, .invokevirtual 80, 3), (23, .ireturn, 1), (24, .aload_n 0, 1), (25, .getfield 10, 3), (28, .getfield 88, 3), (31, .iload_n 1, 1), (32, .aaload, 1), (33, .astore_n 3, 1), (34, .iload_n 2, 1), (35, .tableswitch 102 0 8 #[49, 54, 59, 64, 69, 74, 79, 92, 97], 49), (84, .aload_n 3, 1), (85, .getfield 108, 3), (88, .ireturn, 1), (89, .aload_n 3, 1), (90, .getfield 111, 3), (93, .ireturn, 1), (94, .aload_n 3, 1), (95, .getfield 114, 3), (98, .ireturn, 1), (99, .aload_n 3, 1), (100, .getfield 117, 3), (103, .ireturn, 1), (104, .aload_n 3, 1), (105, .getfield 120, 3), (108, .ireturn, 1), (109, .aload_n 3, 1), (110, .invokevirtual 123, 3), (113, .ireturn, 1), (114, .aload_n 3, 1), (115, .aload_n 0, 1), (116, .getfield 19, 3), (119, .aload_n 3, 1), (120, .invokevirtual 127, 3), (123, .invokevirtual 131, 3), (126, .ireturn, 1), (127, .aload_n 3, 1), (128, .invokevirtual 134, 3), (131, .ireturn, 1), (132, .aload_n 3, 1), (133, .invokevirtual 137, 3), (136, .ireturn, 1), (137, .aload_n 0, 1), (138, .getfield 37, 3), (141, .aload_n 3, 1), (142, .invokevirtual 140, 3), (145, .ifCond .eq 7, 3), (148, .iconst 1, 1), (149, .goto 4, 3), (152, .iconst 0, 1), (153, .ireturn, 1)]
theorem tX9_ofGood_0_ok : ∀ q ∈ tX9_ofGood_0, decode cX9_ofGood q.1 = .ok (q.2.1, q.2.2) := by decide +kernel
theorem pX9_ofGood_0 : At cX9_ofGood 0 (.aload_n 0) 1 1 := ⟨tX9_ofGood_0_ok (0, .aload_n 0, 1) (List.mem_of_getElem? (i := 0) rfl), rfl⟩
theorem pX9_ofGood_1 : At cX9_ofGood 1 (.iload_n 1) 1 2 := ⟨tX9_ofGood_0_ok (1, .iload_n 1, 1) (List.mem_of_getElem? (i := 1) rfl), rfl⟩
theorem pX9_ofGood_2 : At cX9_ofGood 2 (.invokevirtual 101) 3 5 := ⟨tX9_ofGood_0_ok (2, .invokevirtual 101, 3) (List.mem_of_getElem? (i := 2) rfl), rfl⟩
theorem pX9_ofGood_5 : Bt cX9_ofGood 5 (.ifCond .eq 13) 13 18 8 := ⟨tX9_ofGood_0_ok (5, .ifCond .eq 13, 3) (List.mem_of_getElem? (i := 3) rfl), by decide, rfl⟩
theorem pX9_ofGood_8 : At cX9_ofGood 8 (.iload_n 2) 1 9 := ⟨tX9_ofGood_0_ok (8, .iload_n 2, 1) (List.mem_of_getElem? (i := 4) rfl), rfl⟩
theorem pX9_ofGood_9 : At cX9_ofGood 9 (.iconst 0) 1 10 := ⟨tX9_ofGood_0_ok (9, .iconst 0, 1) (List.mem_of_getElem? (i := 5) rfl), rfl⟩
theorem pX9_ofGood_10 : At cX9_ofGood 10 (.bipush 9) 2 12 := ⟨tX9_ofGood_0_ok (10, .bipush 9, 2) (List.mem_of_getElem? (i := 6) rfl), rfl⟩
theorem pX9_ofGood_12 : At cX9_ofGood 12 (.invokestatic 104) 3 15 := ⟨tX9_ofGood_0_ok (12, .invokestatic 104, 3) (List.mem_of_getElem? (i := 7) rfl), rfl⟩
theorem pX9_ofGood_15 : Bt cX9_ofGood 15 (.ifCond .ne 9) 9 24 18 := ⟨tX9_ofGood_0_ok (15, .ifCond .ne 9, 3) (List.mem_of_getElem? (i := 8) rfl), by decide, rfl⟩
theorem pX9_ofGood_18 : At cX9_ofGood 18 (.aload_n 0) 1 19 := ⟨tX9_ofGood_0_ok (18, .aload_n 0, 1) (List.mem_of_getElem? (i := 9) rfl), rfl⟩
theorem pX9_ofGood_19 : At cX9_ofGood 19 (.iconst 1) 1 20 := ⟨tX9_ofGood_0_ok (19, .iconst 1, 1) (List.mem_of_getElem? (i := 10) rfl), rfl⟩
theorem pX9_ofGood_20 : At cX9_ofGood 20 (.invokevirtual 80) 3 23 := ⟨tX9_ofGood_0_ok (20, .invokevirtual 80, 3) (List.mem_of_getElem? (i := 11) rfl), rfl⟩
theorem pX9_ofGood_23 : At cX9_ofGood 23 (.ireturn) 1 24 := ⟨tX9_ofGood_0_ok (23, .ireturn, 1) (List.mem_of_getElem? (i := 12) rfl), rfl⟩
theorem pX9_ofGood_24 : At cX9_ofGood 24 (.aload_n 0) 1 25 := ⟨tX9_ofGood_0_ok (24, .aload_n 0, 1) (List.mem_of_getElem? (i := 13) rfl), rfl⟩
theorem pX9_ofGood_25 : At cX9_ofGood 25 (.getfield 10) 3 28 := ⟨tX9_ofGood_0_ok (25, .getfield 10, 3) (List.mem_of_getElem? (i := 14) rfl), rfl⟩
theorem pX9_ofGood_28 : At cX9_ofGood 28 (.getfield 88) 3 31 := ⟨tX9_ofGood_0_ok (28, .getfield 88, 3) (List.mem_of_getElem? (i := 15) rfl), rfl⟩
theorem pX9_ofGood_31 : At cX9_ofGood 31 (.iload_n 1) 1 32 := ⟨tX9_ofGood_0_ok (31, .iload_n 1, 1) (List.mem_of_getElem? (i := 16) rfl), rfl⟩
theorem pX9_ofGood_32 : At cX9_ofGood 32 (.aaload) 1 33 := ⟨tX9_ofGood_0_ok (32, .aaload, 1) (List.mem_of_getElem? (i := 17) rfl), rfl⟩
theorem pX9_ofGood_33 : At cX9_ofGood 33 (.astore_n 3) 1 34 := ⟨tX9_ofGood_0_ok (33, .astore_n 3, 1) (List.mem_of_getElem? (i := 18) rfl), rfl⟩
theorem pX9_ofGood_34 : At cX9_ofGood 34 (.iload_n 2) 1 35 := ⟨tX9_ofGood_0_ok (34, .iload_n 2, 1) (List.mem_of_getElem? (i := 19) rfl), rfl⟩
theorem pX9_ofGood_35 : decode cX9_ofGood 35 = .ok (.tableswitch 102 0 8 #[49, 54, 59, 64, 69, 74, 79, 92, 97], 49) := tX9_ofGood_0_ok (35, .tableswitch 102 0 8 #[49, 54, 59, 64, 69, 74, 79, 92, 97], 49) (List.mem_of_getElem? (i := 20) rfl)
theorem pX9_ofGood_84 : At cX9_ofGood 84 (.aload_n 3) 1 85 := ⟨tX9_ofGood_0_ok (84, .aload_n 3, 1) (List.mem_of_getElem? (i := 21) rfl), rfl⟩
theorem pX9_ofGood_85 : At cX9_ofGood 85 (.getfield 108) 3 88 := ⟨tX9_ofGood_0_ok (85, .getfield 108, 3) (List.mem_of_getElem? (i := 22) rfl), rfl⟩
theorem pX9_ofGood_88 : At cX9_ofGood 88 (.ireturn) 1 89 := ⟨tX9_ofGood_0_ok (88, .ireturn, 1) (List.mem_of_getElem? (i := 23) rfl), rfl⟩
theorem pX9_ofGood_89 : At cX9_ofGood 89 (.aload_n 3) 1 90 := ⟨tX9_ofGood_0_ok (89, .aload_n 3, 1) (List.mem_of_getElem? (i := 24) rfl), rfl⟩
theorem pX9_ofGood_90 : At cX9_ofGood 90 (.getfield 111) 3 93 := ⟨tX9_ofGood_0_ok (90, .getfield 111, 3) (List.mem_of_getElem? (i := 25) rfl), rfl⟩
theorem pX9_ofGood_93 : At cX9_ofGood 93 (.ireturn) 1 94 := ⟨tX9_ofGood_0_ok (93, .ireturn, 1) (List.mem_of_getElem? (i := 26) rfl), rfl⟩
theorem pX9_ofGood_94 : At cX9_ofGood 94 (.aload_n 3) 1 95 := ⟨tX9_ofGood_0_ok (94, .aload_n 3, 1) (List.mem_of_getElem? (i := 27) rfl), rfl⟩
theorem pX9_ofGood_95 : At cX9_ofGood 95 (.getfield 114) 3 98 := ⟨tX9_ofGood_0_ok (95, .getfield 114, 3) (List.mem_of_getElem? (i := 28) rfl), rfl⟩
theorem pX9_ofGood_98 : At cX9_ofGood 98 (.ireturn) 1 99 := ⟨tX9_ofGood_0_ok (98, .ireturn, 1) (List.mem_of_getElem? (i := 29) rfl), rfl⟩
theorem pX9_ofGood_99 : At cX9_ofGood 99 (.aload_n 3) 1 100 := ⟨tX9_ofGood_0_ok (99, .aload_n 3, 1) (List.mem_of_getElem? (i := 30) rfl), rfl⟩
theorem pX9_ofGood_100 : At cX9_ofGood 100 (.getfield 117) 3 103 := ⟨tX9_ofGood_0_ok (100, .getfield 117, 3) (List.mem_of_getElem? (i := 31) rfl), rfl⟩
theorem pX9_ofGood_103 : At cX9_ofGood 103 (.ireturn) 1 104 := ⟨tX9_ofGood_0_ok (103, .ireturn, 1) (List.mem_of_getElem? (i := 32) rfl), rfl⟩
theorem pX9_ofGood_104 : At cX9_ofGood 104 (.aload_n 3) 1 105 := ⟨tX9_ofGood_0_ok (104, .aload_n 3, 1) (List.mem_of_getElem? (i := 33) rfl), rfl⟩
theorem pX9_ofGood_105 : At cX9_ofGood 105 (.getfield 120) 3 108 := ⟨tX9_ofGood_0_ok (105, .getfield 120, 3) (List.mem_of_getElem? (i := 34) rfl), rfl⟩
theorem pX9_ofGood_108 : At cX9_ofGood 108 (.ireturn) 1 109 := ⟨tX9_ofGood_0_ok (108, .ireturn, 1) (List.mem_of_getElem? (i := 35) rfl), rfl⟩
theorem pX9_ofGood_109 : At cX9_ofGood 109 (.aload_n 3) 1 110 := ⟨tX9_ofGood_0_ok (109, .aload_n 3, 1) (List.mem_of_getElem? (i := 36) rfl), rfl⟩
theorem pX9_ofGood_110 : At cX9_ofGood 110 (.invokevirtual 123) 3 113 := ⟨tX9_ofGood_0_ok (110, .invokevirtual 123, 3) (List.mem_of_getElem? (i := 37) rfl), rfl⟩
theorem pX9_ofGood_113 : At cX9_ofGood 113 (.ireturn) 1 114 := ⟨tX9_ofGood_0_ok (113, .ireturn, 1) (List.mem_of_getElem? (i := 38) rfl), rfl⟩
theorem pX9_ofGood_114 : At cX9_ofGood 114 (.aload_n 3) 1 115 := ⟨tX9_ofGood_0_ok (114, .aload_n 3, 1) (List.mem_of_getElem? (i := 39) rfl), rfl⟩
theorem pX9_ofGood_115 : At cX9_ofGood 115 (.aload_n 0) 1 116 := ⟨tX9_ofGood_0_ok (115, .aload_n 0, 1) (List.mem_of_getElem? (i := 40) rfl), rfl⟩
theorem pX9_ofGood_116 : At cX9_ofGood 116 (.getfield 19) 3 119 := ⟨tX9_ofGood_0_ok (116, .getfield 19, 3) (List.mem_of_getElem? (i := 41) rfl), rfl⟩
theorem pX9_ofGood_119 : At cX9_ofGood 119 (.aload_n 3) 1 120 := ⟨tX9_ofGood_0_ok (119, .aload_n 3, 1) (List.mem_of_getElem? (i := 42) rfl), rfl⟩
theorem pX9_ofGood_120 : At cX9_ofGood 120 (.invokevirtual 127) 3 123 := ⟨tX9_ofGood_0_ok (120, .invokevirtual 127, 3) (List.mem_of_getElem? (i := 43) rfl), rfl⟩
theorem pX9_ofGood_123 : At cX9_ofGood 123 (.invokevirtual 131) 3 126 := ⟨tX9_ofGood_0_ok (123, .invokevirtual 131, 3) (List.mem_of_getElem? (i := 44) rfl), rfl⟩
theorem pX9_ofGood_126 : At cX9_ofGood 126 (.ireturn) 1 127 := ⟨tX9_ofGood_0_ok (126, .ireturn, 1) (List.mem_of_getElem? (i := 45) rfl), rfl⟩
theorem pX9_ofGood_127 : At cX9_ofGood 127 (.aload_n 3) 1 128 := ⟨tX9_ofGood_0_ok (127, .aload_n 3, 1) (List.mem_of_getElem? (i := 46) rfl), rfl⟩
theorem pX9_ofGood_128 : At cX9_ofGood 128 (.invokevirtual 134) 3 131 := ⟨tX9_ofGood_0_ok (128, .invokevirtual 134, 3) (List.mem_of_getElem? (i := 47) rfl), rfl⟩
theorem pX9_ofGood_131 : At cX9_ofGood 131 (.ireturn) 1 132 := ⟨tX9_ofGood_0_ok (131, .ireturn, 1) (List.mem_of_getElem? (i := 48) rfl), rfl⟩
theorem pX9_ofGood_132 : At cX9_ofGood 132 (.aload_n 3) 1 133 := ⟨tX9_ofGood_0_ok (132, .aload_n 3, 1) (List.mem_of_getElem? (i := 49) rfl), rfl⟩
theorem pX9_ofGood_133 : At cX9_ofGood 133 (.invokevirtual 137) 3 136 := ⟨tX9_ofGood_0_ok (133, .invokevirtual 137, 3) (List.mem_of_getElem? (i := 50) rfl), rfl⟩
theorem pX9_ofGood_136 : At cX9_ofGood 136 (.ireturn) 1 137 := ⟨tX9_ofGood_0_ok (136, .ireturn, 1) (List.mem_of_getElem? (i := 51) rfl), rfl⟩
theorem pX9_ofGood_137 : At cX9_ofGood 137 (.aload_n 0) 1 138 := ⟨tX9_ofGood_0_ok (137, .aload_n 0, 1) (List.mem_of_getElem? (i := 52) rfl), rfl⟩
theorem pX9_ofGood_138 : At cX9_ofGood 138 (.getfield 37) 3 141 := ⟨tX9_ofGood_0_ok (138, .getfield 37, 3) (List.mem_of_getElem? (i := 53) rfl), rfl⟩
theorem pX9_ofGood_141 : At cX9_ofGood 141 (.aload_n 3) 1 142 := ⟨tX9_ofGood_0_ok (141, .aload_n 3, 1) (List.mem_of_getElem? (i := 54) rfl), rfl⟩
theorem pX9_ofGood_142 : At cX9_ofGood 142 (.invokevirtual 140) 3 145 := ⟨tX9_ofGood_0_ok (142, .invokevirtual 140, 3) (List.mem_of_getElem? (i := 55) rfl), rfl⟩
theorem pX9_ofGood_145 : Bt cX9_ofGood 145 (.ifCond .eq 7) 7 152 148 := ⟨tX9_ofGood_0_ok (145, .ifCond .eq 7, 3) (List.mem_of_getElem? (i := 56) rfl), by decide, rfl⟩
theorem pX9_ofGood_148 : At cX9_ofGood 148 (.iconst 1) 1 149 := ⟨tX9_ofGood_0_ok (148, .iconst 1, 1) (List.mem_of_getElem? (i := 57) rfl), rfl⟩
theorem pX9_ofGood_149 : Bt cX9_ofGood 149 (.goto 4) 4 153 152 := ⟨tX9_ofGood_0_ok (149, .goto 4, 3) (List.mem_of_getElem? (i := 58) rfl), by decide, rfl⟩
theorem pX9_ofGood_152 : At cX9_ofGood 152 (.iconst 0) 1 153 := ⟨tX9_ofGood_0_ok (152, .iconst 0, 1) (List.mem_of_getElem? (i := 59) rfl), rfl⟩
theorem pX9_ofGood_153 : At cX9_ofGood 153 (.ireturn) 1 154 := ⟨tX9_ofGood_0_ok (153, .ireturn, 1) (List.mem_of_getElem? (i := 60) rfl), rfl⟩
def tX9_become_0 : List (Nat × Instr × Nat) := [(0, .aload_n 0, 1), (1, .iload_n 1, 1), (2, .invokevirtual 101, 3), (5, .ifCond .eq 10, 3), (8, .iload_n 2, 1), (9, .invokestatic 73, 3), (12, .ifCond .ne 9, 3), (15, .aload_n 0, 1), (16, .iconst 1, 1), (17, .invokevirtual 80, 3), (20, .ireturn, 1), (21, .aload_n 0, 1), (22, .getfield 10, 3), (25, .getfield 88, 3), (28, .iload_n 1, 1), (29, .aaload, 1), (30, .getfield 108, 3), (33, .istore_n 3, 1), (34, .aload_n 0, 1), (35, .getfield 10, 3), (38, .getfield 88, 3), (41, .iload_n 1, 1), (42, .aaload, 1), (43, .iload_n 2, 1), (44, .invokevirtual 92, 3), (47, .iload_n 3, 1), (48, .ireturn, 1)]
theorem tX9_become_0_ok : ∀ q ∈ tX9_become_0, decode cX9_become q.1 = .ok (q.2.1, q.2.2) := by decide +kernel
theorem pX9_become_0 : At cX9_become 0 (.aload_n 0) 1 1 := ⟨tX9_become_0_ok (0, .aload_n 0, 1) (List.mem_of_getElem? (i := 0) rfl), rfl⟩
theorem pX9_become_1 : At cX9_become 1 (.iload_n 1) 1 2 := ⟨tX9_become_0_ok (1, .iload_n 1, 1) (List.mem_of_getElem? (i := 1) rfl), rfl⟩
theorem pX9_become_2 : At cX9_become 2 (.invokevirtual 101) 3 5 := ⟨tX9_become_0_ok (2, .invokevirtual 101, 3) (List.mem_of_getElem? (i := 2) rfl), rfl⟩
theorem pX9_become_5 : Bt cX9_become 5 (.ifCond .eq 10) 10 15 8 := ⟨tX9_become_0_ok (5, .ifCond .eq 10, 3) (List.mem_of_getElem? (i := 3) rfl), by decide, rfl⟩
theorem pX9_become_8 : At cX9_become 8 (.iload_n 2) 1 9 := ⟨tX9_become_0_ok (8, .iload_n 2, 1) (List.mem_of_getElem? (i := 4) rfl), rfl⟩
theorem pX9_become_9 : At cX9_become 9 (.invokestatic 73) 3 12 := ⟨tX9_become_0_ok (9, .invokestatic 73, 3) (List.mem_of_getElem? (i := 5) rfl), rfl⟩
theorem pX9_become_12 : Bt cX9_become 12 (.ifCond .ne 9) 9 21 15 := ⟨tX9_become_0_ok (12, .ifCond .ne 9, 3) (List.mem_of_getElem? (i := 6) rfl), by decide, rfl⟩
theorem pX9_become_15 : At cX9_become 15 (.aload_n 0) 1 16 := ⟨tX9_become_0_ok (15, .aload_n 0, 1) (List.mem_of_getElem? (i := 7) rfl), rfl⟩
theorem pX9_become_16 : At cX9_become 16 (.iconst 1) 1 17 := ⟨tX9_become_0_ok (16, .iconst 1, 1) (List.mem_of_getElem? (i := 8) rfl), rfl⟩
theorem pX9_become_17 : At cX9_become 17 (.invokevirtual 80) 3 20 := ⟨tX9_become_0_ok (17, .invokevirtual 80, 3) (List.mem_of_getElem? (i := 9) rfl), rfl⟩
theorem pX9_become_20 : At cX9_become 20 (.ireturn) 1 21 := ⟨tX9_become_0_ok (20, .ireturn, 1) (List.mem_of_getElem? (i := 10) rfl), rfl⟩
theorem pX9_become_21 : At cX9_become 21 (.aload_n 0) 1 22 := ⟨tX9_become_0_ok (21, .aload_n 0, 1) (List.mem_of_getElem? (i := 11) rfl), rfl⟩
theorem pX9_become_22 : At cX9_become 22 (.getfield 10) 3 25 := ⟨tX9_become_0_ok (22, .getfield 10, 3) (List.mem_of_getElem? (i := 12) rfl), rfl⟩
theorem pX9_become_25 : At cX9_become 25 (.getfield 88) 3 28 := ⟨tX9_become_0_ok (25, .getfield 88, 3) (List.mem_of_getElem? (i := 13) rfl), rfl⟩
theorem pX9_become_28 : At cX9_become 28 (.iload_n 1) 1 29 := ⟨tX9_become_0_ok (28, .iload_n 1, 1) (List.mem_of_getElem? (i := 14) rfl), rfl⟩
theorem pX9_become_29 : At cX9_become 29 (.aaload) 1 30 := ⟨tX9_become_0_ok (29, .aaload, 1) (List.mem_of_getElem? (i := 15) rfl), rfl⟩
theorem pX9_become_30 : At cX9_become 30 (.getfield 108) 3 33 := ⟨tX9_become_0_ok (30, .getfield 108, 3) (List.mem_of_getElem? (i := 16) rfl), rfl⟩
theorem pX9_become_33 : At cX9_become 33 (.istore_n 3) 1 34 := ⟨tX9_become_0_ok (33, .istore_n 3, 1) (List.mem_of_getElem? (i := 17) rfl), rfl⟩
theorem pX9_become_34 : At cX9_become 34 (.aload_n 0) 1 35 := ⟨tX9_become_0_ok (34, .aload_n 0, 1) (List.mem_of_getElem? (i := 18) rfl), rfl⟩
theorem pX9_become_35 : At cX9_become 35 (.getfield 10) 3 38 := ⟨tX9_become_0_ok (35, .getfield 10, 3) (List.mem_of_getElem? (i := 19) rfl), rfl⟩
theorem pX9_become_38 : At cX9_become 38 (.getfield 88) 3 41 := ⟨tX9_become_0_ok (38, .getfield 88, 3) (List.mem_of_getElem? (i := 20) rfl), rfl⟩
theorem pX9_become_41 : At cX9_become 41 (.iload_n 1) 1 42 := ⟨tX9_become_0_ok (41, .iload_n 1, 1) (List.mem_of_getElem? (i := 21) rfl), rfl⟩
theorem pX9_become_42 : At cX9_become 42 (.aaload) 1 43 := ⟨tX9_become_0_ok (42, .aaload, 1) (List.mem_of_getElem? (i := 22) rfl), rfl⟩
theorem pX9_become_43 : At cX9_become 43 (.iload_n 2) 1 44 := ⟨tX9_become_0_ok (43, .iload_n 2, 1) (List.mem_of_getElem? (i := 23) rfl), rfl⟩
theorem pX9_become_44 : At cX9_become 44 (.invokevirtual 92) 3 47 := ⟨tX9_become_0_ok (44, .invokevirtual 92, 3) (List.mem_of_getElem? (i := 24) rfl), rfl⟩
theorem pX9_become_47 : At cX9_become 47 (.iload_n 3) 1 48 := ⟨tX9_become_0_ok (47, .iload_n 3, 1) (List.mem_of_getElem? (i := 25) rfl), rfl⟩
theorem pX9_become_48 : At cX9_become 48 (.ireturn) 1 49 := ⟨tX9_become_0_ok (48, .ireturn, 1) (List.mem_of_getElem? (i := 26) rfl), rfl⟩
def tX9_isUnder_0 : List (Nat × Instr × Nat) := [(0, .iload_n 0, 1), (1, .istore_n 2, 1), (2, .iconst 0, 1), (3, .istore_n 3, 1), (4, .iload_n 3, 1), (5, .bipush 7, 2), (7, .if_icmp .ge 26, 3), (10, .iload_n 2, 1), (11, .ifCond .lt 22, 3), (14, .iload_n 2, 1), (15, .iload_n 1, 1), (16, .if_icmp .ne 5, 3), (19, .iconst 1, 1), (20, .ireturn, 1), (21, .getstatic 331, 3), (24, .iload_n 2, 1), (25, .iaload, 1), (26, .istore_n 2, 1), (27, .iinc 3 1, 3), (30, .goto (-26), 3), (33, .iconst 0, 1), (34, .ireturn, 1)]
theorem tX9_isUnder_0_ok : ∀ q ∈ tX9_isUnder_0, decode cX9_isUnder q.1 = .ok (q.2.1, q.2.2) := by decide +kernel
theorem pX9_isUnder_0 : At cX9_isUnder 0 (.iload_n 0) 1 1 := ⟨tX9_isUnder_0_ok (0, .iload_n 0, 1) (List.mem_of_getElem? (i := 0) rfl), rfl⟩
theorem pX9_isUnder_1 : At cX9_isUnder 1 (.istore_n 2) 1 2 := ⟨tX9_isUnder_0_ok (1, .istore_n 2, 1) (List.mem_of_getElem? (i := 1) rfl), rfl⟩
theorem pX9_isUnder_2 : At cX9_isUnder 2 (.iconst 0) 1 3 := ⟨tX9_isUnder_0_ok (2, .iconst 0, 1) (List.mem_of_getElem? (i := 2) rfl), rfl⟩
theorem pX9_isUnder_3 : At cX9_isUnder 3 (.istore_n 3) 1 4 := ⟨tX9_isUnder_0_ok (3, .istore_n 3, 1) (List.mem_of_getElem? (i := 3) rfl), rfl⟩
theorem pX9_isUnder_4 : At cX9_isUnder 4 (.iload_n 3) 1 5 := ⟨tX9_isUnder_0_ok (4, .iload_n 3, 1) (List.mem_of_getElem? (i := 4) rfl), rfl⟩
theorem pX9_isUnder_5 : At cX9_isUnder 5 (.bipush 7) 2 7 := ⟨tX9_isUnder_0_ok (5, .bipush 7, 2) (List.mem_of_getElem? (i := 5) rfl), rfl⟩
theorem pX9_isUnder_7 : Bt cX9_isUnder 7 (.if_icmp .ge 26) 26 33 10 := ⟨tX9_isUnder_0_ok (7, .if_icmp .ge 26, 3) (List.mem_of_getElem? (i := 6) rfl), by decide, rfl⟩
theorem pX9_isUnder_10 : At cX9_isUnder 10 (.iload_n 2) 1 11 := ⟨tX9_isUnder_0_ok (10, .iload_n 2, 1) (List.mem_of_getElem? (i := 7) rfl), rfl⟩
theorem pX9_isUnder_11 : Bt cX9_isUnder 11 (.ifCond .lt 22) 22 33 14 := ⟨tX9_isUnder_0_ok (11, .ifCond .lt 22, 3) (List.mem_of_getElem? (i := 8) rfl), by decide, rfl⟩
theorem pX9_isUnder_14 : At cX9_isUnder 14 (.iload_n 2) 1 15 := ⟨tX9_isUnder_0_ok (14, .iload_n 2, 1) (List.mem_of_getElem? (i := 9) rfl), rfl⟩
theorem pX9_isUnder_15 : At cX9_isUnder 15 (.iload_n 1) 1 16 := ⟨tX9_isUnder_0_ok (15, .iload_n 1, 1) (List.mem_of_getElem? (i := 10) rfl), rfl⟩
theorem pX9_isUnder_16 : Bt cX9_isUnder 16 (.if_icmp .ne 5) 5 21 19 := ⟨tX9_isUnder_0_ok (16, .if_icmp .ne 5, 3) (List.mem_of_getElem? (i := 11) rfl), by decide, rfl⟩
theorem pX9_isUnder_19 : At cX9_isUnder 19 (.iconst 1) 1 20 := ⟨tX9_isUnder_0_ok (19, .iconst 1, 1) (List.mem_of_getElem? (i := 12) rfl), rfl⟩
theorem pX9_isUnder_20 : At cX9_isUnder 20 (.ireturn) 1 21 := ⟨tX9_isUnder_0_ok (20, .ireturn, 1) (List.mem_of_getElem? (i := 13) rfl), rfl⟩
theorem pX9_isUnder_21 : At cX9_isUnder 21 (.getstatic 331) 3 24 := ⟨tX9_isUnder_0_ok (21, .getstatic 331, 3) (List.mem_of_getElem? (i := 14) rfl), rfl⟩
theorem pX9_isUnder_24 : At cX9_isUnder 24 (.iload_n 2) 1 25 := ⟨tX9_isUnder_0_ok (24, .iload_n 2, 1) (List.mem_of_getElem? (i := 15) rfl), rfl⟩
theorem pX9_isUnder_25 : At cX9_isUnder 25 (.iaload) 1 26 := ⟨tX9_isUnder_0_ok (25, .iaload, 1) (List.mem_of_getElem? (i := 16) rfl), rfl⟩
theorem pX9_isUnder_26 : At cX9_isUnder 26 (.istore_n 2) 1 27 := ⟨tX9_isUnder_0_ok (26, .istore_n 2, 1) (List.mem_of_getElem? (i := 17) rfl), rfl⟩
theorem pX9_isUnder_27 : At cX9_isUnder 27 (.iinc 3 1) 3 30 := ⟨tX9_isUnder_0_ok (27, .iinc 3 1, 3) (List.mem_of_getElem? (i := 18) rfl), rfl⟩
theorem pX9_isUnder_30 : Bt cX9_isUnder 30 (.goto (-26)) (-26) 4 33 := ⟨tX9_isUnder_0_ok (30, .goto (-26), 3) (List.mem_of_getElem? (i := 19) rfl), by decide, rfl⟩
theorem pX9_isUnder_33 : At cX9_isUnder 33 (.iconst 0) 1 34 := ⟨tX9_isUnder_0_ok (33, .iconst 0, 1) (List.mem_of_getElem? (i := 20) rfl), rfl⟩
theorem pX9_isUnder_34 : At cX9_isUnder 34 (.ireturn) 1 35 := ⟨tX9_isUnder_0_ok (34, .ireturn, 1) (List.mem_of_getElem? (i := 21) rfl), rfl⟩
def tX9_as_0 : List (Nat × Instr × Nat) := [(0, .aload_n 0, 1), (1, .iload_n 1, 1), (2, .invokevirtual 101, 3), (5, .ifCond .eq 13, 3), (8, .iload_n 2, 1), (9, .iconst 0, 1), (10, .bipush 6, 2), (12, .invokestatic 104, 3), (15, .ifCond .ne 9, 3), (18, .aload_n 0, 1), (19, .iconst 1, 1), (20, .invokevirtual 80, 3), (23, .ireturn, 1), (24, .aload_n 0, 1), (25, .getfield 10, 3), (28, .getfield 88, 3), (31, .iload_n 1, 1), (32, .aaload, 1), (33, .getfield 108, 3), (36, .iload_n 2, 1), (37, .invokestatic 144, 3), (40, .ifCond .ne 9, 3), (43, .aload_n 0, 1), (44, .iconst 5, 1), (45, .invokevirtual 80, 3), (48, .ireturn, 1), (49, .aload_n 0, 1), (50, .getfield 10, 3), (53, .getfield 88, 3), (56, .iload_n 1, 1), (57, .aaload, 1), (58, .getfield 111, 3), (61, .ireturn, 1)]
theorem tX9_as_0_ok : ∀ q ∈ tX9_as_0, decode cX9_as q.1 = .ok (q.2.1, q.2.2) := by decide +kernel
theorem pX9_as_0 : At cX9_as 0 (.aload_n 0) 1 1 := ⟨tX9_as_0_ok (0, .aload_n 0, 1) (List.mem_of_getElem? (i := 0) rfl), rfl⟩
theorem pX9_as_1 : At cX9_as 1 (.iload_n 1) 1 2 := ⟨tX9_as_0_ok (1, .iload_n 1, 1) (List.mem_of_getElem? (i := 1) rfl), rfl⟩
theorem pX9_as_2 : At cX9_as 2 (.invokevirtual 101) 3 5 := ⟨tX9_as_0_ok (2, .invokevirtual 101, 3) (List.mem_of_getElem? (i := 2) rfl), rfl⟩
theorem pX9_as_5 : Bt cX9_as 5 (.ifCond .eq 13) 13 18 8 := ⟨tX9_as_0_ok (5, .ifCond .eq 13, 3) (List.mem_of_getElem? (i := 3) rfl), by decide, rfl⟩
theorem pX9_as_8 : At cX9_as 8 (.iload_n 2) 1 9 := ⟨tX9_as_0_ok (8, .iload_n 2, 1) (List.mem_of_getElem? (i := 4) rfl), rfl⟩
theorem pX9_as_9 : At cX9_as 9 (.iconst 0) 1 10 := ⟨tX9_as_0_ok (9, .iconst 0, 1) (List.mem_of_getElem? (i := 5) rfl), rfl⟩
theorem pX9_as_10 : At cX9_as 10 (.bipush 6) 2 12 := ⟨tX9_as_0_ok (10, .bipush 6, 2) (List.mem_of_getElem? (i := 6) rfl), rfl⟩
theorem pX9_as_12 : At cX9_as 12 (.invokestatic 104) 3 15 := ⟨tX9_as_0_ok (12, .invokestatic 104, 3) (List.mem_of_getElem? (i := 7) rfl), rfl⟩
theorem pX9_as_15 : Bt cX9_as 15 (.ifCond .ne 9) 9 24 18 := ⟨tX9_as_0_ok (15, .ifCond .ne 9, 3) (List.mem_of_getElem? (i := 8) rfl), by decide, rfl⟩
theorem pX9_as_18 : At cX9_as 18 (.aload_n 0) 1 19 := ⟨tX9_as_0_ok (18, .aload_n 0, 1) (List.mem_of_getElem? (i := 9) rfl), rfl⟩
theorem pX9_as_19 : At cX9_as 19 (.iconst 1) 1 20 := ⟨tX9_as_0_ok (19, .iconst 1, 1) (List.mem_of_getElem? (i := 10) rfl), rfl⟩
theorem pX9_as_20 : At cX9_as 20 (.invokevirtual 80) 3 23 := ⟨tX9_as_0_ok (20, .invokevirtual 80, 3) (List.mem_of_getElem? (i := 11) rfl), rfl⟩
theorem pX9_as_23 : At cX9_as 23 (.ireturn) 1 24 := ⟨tX9_as_0_ok (23, .ireturn, 1) (List.mem_of_getElem? (i := 12) rfl), rfl⟩
theorem pX9_as_24 : At cX9_as 24 (.aload_n 0) 1 25 := ⟨tX9_as_0_ok (24, .aload_n 0, 1) (List.mem_of_getElem? (i := 13) rfl), rfl⟩
theorem pX9_as_25 : At cX9_as 25 (.getfield 10) 3 28 := ⟨tX9_as_0_ok (25, .getfield 10, 3) (List.mem_of_getElem? (i := 14) rfl), rfl⟩
theorem pX9_as_28 : At cX9_as 28 (.getfield 88) 3 31 := ⟨tX9_as_0_ok (28, .getfield 88, 3) (List.mem_of_getElem? (i := 15) rfl), rfl⟩
theorem pX9_as_31 : At cX9_as 31 (.iload_n 1) 1 32 := ⟨tX9_as_0_ok (31, .iload_n 1, 1) (List.mem_of_getElem? (i := 16) rfl), rfl⟩
theorem pX9_as_32 : At cX9_as 32 (.aaload) 1 33 := ⟨tX9_as_0_ok (32, .aaload, 1) (List.mem_of_getElem? (i := 17) rfl), rfl⟩
theorem pX9_as_33 : At cX9_as 33 (.getfield 108) 3 36 := ⟨tX9_as_0_ok (33, .getfield 108, 3) (List.mem_of_getElem? (i := 18) rfl), rfl⟩
theorem pX9_as_36 : At cX9_as 36 (.iload_n 2) 1 37 := ⟨tX9_as_0_ok (36, .iload_n 2, 1) (List.mem_of_getElem? (i := 19) rfl), rfl⟩
theorem pX9_as_37 : At cX9_as 37 (.invokestatic 144) 3 40 := ⟨tX9_as_0_ok (37, .invokestatic 144, 3) (List.mem_of_getElem? (i := 20) rfl), rfl⟩
theorem pX9_as_40 : Bt cX9_as 40 (.ifCond .ne 9) 9 49 43 := ⟨tX9_as_0_ok (40, .ifCond .ne 9, 3) (List.mem_of_getElem? (i := 21) rfl), by decide, rfl⟩
theorem pX9_as_43 : At cX9_as 43 (.aload_n 0) 1 44 := ⟨tX9_as_0_ok (43, .aload_n 0, 1) (List.mem_of_getElem? (i := 22) rfl), rfl⟩
theorem pX9_as_44 : At cX9_as 44 (.iconst 5) 1 45 := ⟨tX9_as_0_ok (44, .iconst 5, 1) (List.mem_of_getElem? (i := 23) rfl), rfl⟩
theorem pX9_as_45 : At cX9_as 45 (.invokevirtual 80) 3 48 := ⟨tX9_as_0_ok (45, .invokevirtual 80, 3) (List.mem_of_getElem? (i := 24) rfl), rfl⟩
theorem pX9_as_48 : At cX9_as 48 (.ireturn) 1 49 := ⟨tX9_as_0_ok (48, .ireturn, 1) (List.mem_of_getElem? (i := 25) rfl), rfl⟩
theorem pX9_as_49 : At cX9_as 49 (.aload_n 0) 1 50 := ⟨tX9_as_0_ok (49, .aload_n 0, 1) (List.mem_of_getElem? (i := 26) rfl), rfl⟩
theorem pX9_as_50 : At cX9_as 50 (.getfield 10) 3 53 := ⟨tX9_as_0_ok (50, .getfield 10, 3) (List.mem_of_getElem? (i := 27) rfl), rfl⟩
theorem pX9_as_53 : At cX9_as 53 (.getfield 88) 3 56 := ⟨tX9_as_0_ok (53, .getfield 88, 3) (List.mem_of_getElem? (i := 28) rfl), rfl⟩
theorem pX9_as_56 : At cX9_as 56 (.iload_n 1) 1 57 := ⟨tX9_as_0_ok (56, .iload_n 1, 1) (List.mem_of_getElem? (i := 29) rfl), rfl⟩
theorem pX9_as_57 : At cX9_as 57 (.aaload) 1 58 := ⟨tX9_as_0_ok (57, .aaload, 1) (List.mem_of_getElem? (i := 30) rfl), rfl⟩
theorem pX9_as_58 : At cX9_as 58 (.getfield 111) 3 61 := ⟨tX9_as_0_ok (58, .getfield 111, 3) (List.mem_of_getElem? (i := 31) rfl), rfl⟩
theorem pX9_as_61 : At cX9_as 61 (.ireturn) 1 62 := ⟨tX9_as_0_ok (61, .ireturn, 1) (List.mem_of_getElem? (i := 32) rfl), rfl⟩
def tX9_place_0 : List (Nat × Instr × Nat) := [(0, .aload_n 0, 1), (1, .iload_n 1, 1), (2, .invokevirtual 101, 3), (5, .ifCond .eq 10, 3), (8, .iload_n 2, 1), (9, .invokestatic 77, 3), (12, .ifCond .ne 9, 3), (15, .aload_n 0, 1), (16, .iconst 1, 1), (17, .invokevirtual 80, 3), (20, .ireturn, 1), (21, .aload_n 0, 1), (22, .getfield 10, 3), (25, .getfield 88, 3), (28, .iload_n 1, 1), (29, .aaload, 1), (30, .getfield 114, 3), (33, .istore_n 3, 1), (34, .aload_n 0, 1), (35, .getfield 10, 3), (38, .getfield 88, 3), (41, .iload_n 1, 1), (42, .aaload, 1), (43, .iload_n 2, 1), (44, .invokevirtual 98, 3), (47, .iload_n 3, 1), (48, .ireturn, 1)]
theorem tX9_place_0_ok : ∀ q ∈ tX9_place_0, decode cX9_place q.1 = .ok (q.2.1, q.2.2) := by decide +kernel
theorem pX9_place_0 : At cX9_place 0 (.aload_n 0) 1 1 := ⟨tX9_place_0_ok (0, .aload_n 0, 1) (List.mem_of_getElem? (i := 0) rfl), rfl⟩
theorem pX9_place_1 : At cX9_place 1 (.iload_n 1) 1 2 := ⟨tX9_place_0_ok (1, .iload_n 1, 1) (List.mem_of_getElem? (i := 1) rfl), rfl⟩
theorem pX9_place_2 : At cX9_place 2 (.invokevirtual 101) 3 5 := ⟨tX9_place_0_ok (2, .invokevirtual 101, 3) (List.mem_of_getElem? (i := 2) rfl), rfl⟩
theorem pX9_place_5 : Bt cX9_place 5 (.ifCond .eq 10) 10 15 8 := ⟨tX9_place_0_ok (5, .ifCond .eq 10, 3) (List.mem_of_getElem? (i := 3) rfl), by decide, rfl⟩
theorem pX9_place_8 : At cX9_place 8 (.iload_n 2) 1 9 := ⟨tX9_place_0_ok (8, .iload_n 2, 1) (List.mem_of_getElem? (i := 4) rfl), rfl⟩
theorem pX9_place_9 : At cX9_place 9 (.invokestatic 77) 3 12 := ⟨tX9_place_0_ok (9, .invokestatic 77, 3) (List.mem_of_getElem? (i := 5) rfl), rfl⟩
theorem pX9_place_12 : Bt cX9_place 12 (.ifCond .ne 9) 9 21 15 := ⟨tX9_place_0_ok (12, .ifCond .ne 9, 3) (List.mem_of_getElem? (i := 6) rfl), by decide, rfl⟩
theorem pX9_place_15 : At cX9_place 15 (.aload_n 0) 1 16 := ⟨tX9_place_0_ok (15, .aload_n 0, 1) (List.mem_of_getElem? (i := 7) rfl), rfl⟩
theorem pX9_place_16 : At cX9_place 16 (.iconst 1) 1 17 := ⟨tX9_place_0_ok (16, .iconst 1, 1) (List.mem_of_getElem? (i := 8) rfl), rfl⟩
theorem pX9_place_17 : At cX9_place 17 (.invokevirtual 80) 3 20 := ⟨tX9_place_0_ok (17, .invokevirtual 80, 3) (List.mem_of_getElem? (i := 9) rfl), rfl⟩
theorem pX9_place_20 : At cX9_place 20 (.ireturn) 1 21 := ⟨tX9_place_0_ok (20, .ireturn, 1) (List.mem_of_getElem? (i := 10) rfl), rfl⟩
theorem pX9_place_21 : At cX9_place 21 (.aload_n 0) 1 22 := ⟨tX9_place_0_ok (21, .aload_n 0, 1) (List.mem_of_getElem? (i := 11) rfl), rfl⟩
theorem pX9_place_22 : At cX9_place 22 (.getfield 10) 3 25 := ⟨tX9_place_0_ok (22, .getfield 10, 3) (List.mem_of_getElem? (i := 12) rfl), rfl⟩
theorem pX9_place_25 : At cX9_place 25 (.getfield 88) 3 28 := ⟨tX9_place_0_ok (25, .getfield 88, 3) (List.mem_of_getElem? (i := 13) rfl), rfl⟩
theorem pX9_place_28 : At cX9_place 28 (.iload_n 1) 1 29 := ⟨tX9_place_0_ok (28, .iload_n 1, 1) (List.mem_of_getElem? (i := 14) rfl), rfl⟩
theorem pX9_place_29 : At cX9_place 29 (.aaload) 1 30 := ⟨tX9_place_0_ok (29, .aaload, 1) (List.mem_of_getElem? (i := 15) rfl), rfl⟩
theorem pX9_place_30 : At cX9_place 30 (.getfield 114) 3 33 := ⟨tX9_place_0_ok (30, .getfield 114, 3) (List.mem_of_getElem? (i := 16) rfl), rfl⟩
theorem pX9_place_33 : At cX9_place 33 (.istore_n 3) 1 34 := ⟨tX9_place_0_ok (33, .istore_n 3, 1) (List.mem_of_getElem? (i := 17) rfl), rfl⟩
theorem pX9_place_34 : At cX9_place 34 (.aload_n 0) 1 35 := ⟨tX9_place_0_ok (34, .aload_n 0, 1) (List.mem_of_getElem? (i := 18) rfl), rfl⟩
theorem pX9_place_35 : At cX9_place 35 (.getfield 10) 3 38 := ⟨tX9_place_0_ok (35, .getfield 10, 3) (List.mem_of_getElem? (i := 19) rfl), rfl⟩
theorem pX9_place_38 : At cX9_place 38 (.getfield 88) 3 41 := ⟨tX9_place_0_ok (38, .getfield 88, 3) (List.mem_of_getElem? (i := 20) rfl), rfl⟩
theorem pX9_place_41 : At cX9_place 41 (.iload_n 1) 1 42 := ⟨tX9_place_0_ok (41, .iload_n 1, 1) (List.mem_of_getElem? (i := 21) rfl), rfl⟩
theorem pX9_place_42 : At cX9_place 42 (.aaload) 1 43 := ⟨tX9_place_0_ok (42, .aaload, 1) (List.mem_of_getElem? (i := 22) rfl), rfl⟩
theorem pX9_place_43 : At cX9_place 43 (.iload_n 2) 1 44 := ⟨tX9_place_0_ok (43, .iload_n 2, 1) (List.mem_of_getElem? (i := 23) rfl), rfl⟩
theorem pX9_place_44 : At cX9_place 44 (.invokevirtual 98) 3 47 := ⟨tX9_place_0_ok (44, .invokevirtual 98, 3) (List.mem_of_getElem? (i := 24) rfl), rfl⟩
theorem pX9_place_47 : At cX9_place 47 (.iload_n 3) 1 48 := ⟨tX9_place_0_ok (47, .iload_n 3, 1) (List.mem_of_getElem? (i := 25) rfl), rfl⟩
theorem pX9_place_48 : At cX9_place 48 (.ireturn) 1 49 := ⟨tX9_place_0_ok (48, .ireturn, 1) (List.mem_of_getElem? (i := 26) rfl), rfl⟩
def tX9_isPush_0 : List (Nat × Instr × Nat) := [(0, .iload_n 0, 1), (1, .bipush (-9), 2), (3, .bipush 9, 2), (5, .invokestatic 104, 3), (8, .ireturn, 1)]
theorem tX9_isPush_0_ok : ∀ q ∈ tX9_isPush_0, decode cX9_isPush q.1 = .ok (q.2.1, q.2.2) := by decide +kernel
theorem pX9_isPush_0 : At cX9_isPush 0 (.iload_n 0) 1 1 := ⟨tX9_isPush_0_ok (0, .iload_n 0, 1) (List.mem_of_getElem? (i := 0) rfl), rfl⟩
theorem pX9_isPush_1 : At cX9_isPush 1 (.bipush (-9)) 2 3 := ⟨tX9_isPush_0_ok (1, .bipush (-9), 2) (List.mem_of_getElem? (i := 1) rfl), rfl⟩
theorem pX9_isPush_3 : At cX9_isPush 3 (.bipush 9) 2 5 := ⟨tX9_isPush_0_ok (3, .bipush 9, 2) (List.mem_of_getElem? (i := 2) rfl), rfl⟩
theorem pX9_isPush_5 : At cX9_isPush 5 (.invokestatic 104) 3 8 := ⟨tX9_isPush_0_ok (5, .invokestatic 104, 3) (List.mem_of_getElem? (i := 3) rfl), rfl⟩
theorem pX9_isPush_8 : At cX9_isPush 8 (.ireturn) 1 9 := ⟨tX9_isPush_0_ok (8, .ireturn, 1) (List.mem_of_getElem? (i := 4) rfl), rfl⟩
def tX9_push_0 : List (Nat × Instr × Nat) := [(0, .aload_n 0, 1), (1, .iload_n 1, 1), (2, .invokevirtual 101, 3), (5, .ifCond .eq 10, 3), (8, .iload_n 2, 1), (9, .invokestatic 148, 3), (12, .ifCond .ne 9, 3), (15, .aload_n 0, 1), (16, .iconst 1, 1), (17, .invokevirtual 80, 3), (20, .ireturn, 1), (21, .aload_n 0, 1), (22, .getfield 10, 3), (25, .getfield 88, 3), (28, .iload_n 1, 1), (29, .aaload, 1), (30, .iload_n 2, 1), (31, .invokevirtual 151, 3), (34, .aload_n 0, 1), (35, .getfield 10, 3), (38, .getfield 88, 3), (41, .iload_n 1, 1), (42, .aaload, 1), (43, .getfield 117, 3), (46, .ireturn, 1)]
theorem tX9_push_0_ok : ∀ q ∈ tX9_push_0, decode cX9_push q.1 = .ok (q.2.1, q.2.2) := by decide +kernel
theorem pX9_push_0 : At cX9_push 0 (.aload_n 0) 1 1 := ⟨tX9_push_0_ok (0, .aload_n 0, 1) (List.mem_of_getElem? (i := 0) rfl), rfl⟩
theorem pX9_push_1 : At cX9_push 1 (.iload_n 1) 1 2 := ⟨tX9_push_0_ok (1, .iload_n 1, 1) (List.mem_of_getElem? (i := 1) rfl), rfl⟩
theorem pX9_push_2 : At cX9_push 2 (.invokevirtual 101) 3 5 := ⟨tX9_push_0_ok (2, .invokevirtual 101, 3) (List.mem_of_getElem? (i := 2) rfl), rfl⟩
theorem pX9_push_5 : Bt cX9_push 5 (.ifCond .eq 10) 10 15 8 := ⟨tX9_push_0_ok (5, .ifCond .eq 10, 3) (List.mem_of_getElem? (i := 3) rfl), by decide, rfl⟩
theorem pX9_push_8 : At cX9_push 8 (.iload_n 2) 1 9 := ⟨tX9_push_0_ok (8, .iload_n 2, 1) (List.mem_of_getElem? (i := 4) rfl), rfl⟩
theorem pX9_push_9 : At cX9_push 9 (.invokestatic 148) 3 12 := ⟨tX9_push_0_ok (9, .invokestatic 148, 3) (List.mem_of_getElem? (i := 5) rfl), rfl⟩
theorem pX9_push_12 : Bt cX9_push 12 (.ifCond .ne 9) 9 21 15 := ⟨tX9_push_0_ok (12, .ifCond .ne 9, 3) (List.mem_of_getElem? (i := 6) rfl), by decide, rfl⟩
theorem pX9_push_15 : At cX9_push 15 (.aload_n 0) 1 16 := ⟨tX9_push_0_ok (15, .aload_n 0, 1) (List.mem_of_getElem? (i := 7) rfl), rfl⟩
theorem pX9_push_16 : At cX9_push 16 (.iconst 1) 1 17 := ⟨tX9_push_0_ok (16, .iconst 1, 1) (List.mem_of_getElem? (i := 8) rfl), rfl⟩
theorem pX9_push_17 : At cX9_push 17 (.invokevirtual 80) 3 20 := ⟨tX9_push_0_ok (17, .invokevirtual 80, 3) (List.mem_of_getElem? (i := 9) rfl), rfl⟩
theorem pX9_push_20 : At cX9_push 20 (.ireturn) 1 21 := ⟨tX9_push_0_ok (20, .ireturn, 1) (List.mem_of_getElem? (i := 10) rfl), rfl⟩
theorem pX9_push_21 : At cX9_push 21 (.aload_n 0) 1 22 := ⟨tX9_push_0_ok (21, .aload_n 0, 1) (List.mem_of_getElem? (i := 11) rfl), rfl⟩
theorem pX9_push_22 : At cX9_push 22 (.getfield 10) 3 25 := ⟨tX9_push_0_ok (22, .getfield 10, 3) (List.mem_of_getElem? (i := 12) rfl), rfl⟩
theorem pX9_push_25 : At cX9_push 25 (.getfield 88) 3 28 := ⟨tX9_push_0_ok (25, .getfield 88, 3) (List.mem_of_getElem? (i := 13) rfl), rfl⟩
theorem pX9_push_28 : At cX9_push 28 (.iload_n 1) 1 29 := ⟨tX9_push_0_ok (28, .iload_n 1, 1) (List.mem_of_getElem? (i := 14) rfl), rfl⟩
theorem pX9_push_29 : At cX9_push 29 (.aaload) 1 30 := ⟨tX9_push_0_ok (29, .aaload, 1) (List.mem_of_getElem? (i := 15) rfl), rfl⟩
theorem pX9_push_30 : At cX9_push 30 (.iload_n 2) 1 31 := ⟨tX9_push_0_ok (30, .iload_n 2, 1) (List.mem_of_getElem? (i := 16) rfl), rfl⟩
theorem pX9_push_31 : At cX9_push 31 (.invokevirtual 151) 3 34 := ⟨tX9_push_0_ok (31, .invokevirtual 151, 3) (List.mem_of_getElem? (i := 17) rfl), rfl⟩
theorem pX9_push_34 : At cX9_push 34 (.aload_n 0) 1 35 := ⟨tX9_push_0_ok (34, .aload_n 0, 1) (List.mem_of_getElem? (i := 18) rfl), rfl⟩
theorem pX9_push_35 : At cX9_push 35 (.getfield 10) 3 38 := ⟨tX9_push_0_ok (35, .getfield 10, 3) (List.mem_of_getElem? (i := 19) rfl), rfl⟩
theorem pX9_push_38 : At cX9_push 38 (.getfield 88) 3 41 := ⟨tX9_push_0_ok (38, .getfield 88, 3) (List.mem_of_getElem? (i := 20) rfl), rfl⟩
theorem pX9_push_41 : At cX9_push 41 (.iload_n 1) 1 42 := ⟨tX9_push_0_ok (41, .iload_n 1, 1) (List.mem_of_getElem? (i := 21) rfl), rfl⟩
theorem pX9_push_42 : At cX9_push 42 (.aaload) 1 43 := ⟨tX9_push_0_ok (42, .aaload, 1) (List.mem_of_getElem? (i := 22) rfl), rfl⟩
theorem pX9_push_43 : At cX9_push 43 (.getfield 117) 3 46 := ⟨tX9_push_0_ok (43, .getfield 117, 3) (List.mem_of_getElem? (i := 23) rfl), rfl⟩
theorem pX9_push_46 : At cX9_push 46 (.ireturn) 1 47 := ⟨tX9_push_0_ok (46, .ireturn, 1) (List.mem_of_getElem? (i := 24) rfl), rfl⟩
def tX9_off_0 : List (Nat × Instr × Nat) := [(0, .aload_n 0, 1), (1, .iload_n 1, 1), (2, .invokevirtual 101, 3), (5, .ifCond .eq 23, 3), (8, .aload_n 0, 1), (9, .iload_n 2, 1), (10, .invokevirtual 101, 3), (13, .ifCond .eq 15, 3), (16, .iload_n 1, 1), (17, .iload_n 2, 1), (18, .if_icmp .eq 10, 3), (21, .iload_n 3, 1), (22, .invokestatic 148, 3), (25, .ifCond .ne 9, 3), (28, .aload_n 0, 1), (29, .iconst 1, 1), (30, .invokevirtual 80, 3), (33, .ireturn, 1), (34, .aload_n 0, 1), (35, .getfield 10, 3), (38, .getfield 88, 3), (41, .iload_n 1, 1), (42, .aaload, 1), (43, .astore 4, 2), (45, .aload_n 0, 1), (46, .getfield 10, 3), (49, .getfield 88, 3), (52, .iload_n 2, 1), (53, .aaload, 1), (54, .astore 5, 2), (56, .aload 4, 2), (58, .getfield 114, 3), (61, .aload 5, 2), (63, .getfield 114, 3), (66, .if_icmp .eq 9, 3), (69, .aload_n 0, 1), (70, .iconst 3, 1), (71, .invokevirtual 80, 3), (74, .ireturn, 1), (75, .aload 4, 2), (77, .iload_n 3, 1), (78, .invokevirtual 151, 3), (81, .aload 5, 2), (83, .iload_n 3, 1), (84, .ineg, 1), (85, .invokevirtual 151, 3), (88, .aload 4, 2), (90, .getfield 117, 3), (93, .ireturn, 1)]
theorem tX9_off_0_ok : ∀ q ∈ tX9_off_0, decode cX9_off q.1 = .ok (q.2.1, q.2.2) := by decide +kernel
theorem pX9_off_0 : At cX9_off 0 (.aload_n 0) 1 1 := ⟨tX9_off_0_ok (0, .aload_n 0, 1) (List.mem_of_getElem? (i := 0) rfl), rfl⟩
theorem pX9_off_1 : At cX9_off 1 (.iload_n 1) 1 2 := ⟨tX9_off_0_ok (1, .iload_n 1, 1) (List.mem_of_getElem? (i := 1) rfl), rfl⟩
theorem pX9_off_2 : At cX9_off 2 (.invokevirtual 101) 3 5 := ⟨tX9_off_0_ok (2, .invokevirtual 101, 3) (List.mem_of_getElem? (i := 2) rfl), rfl⟩
theorem pX9_off_5 : Bt cX9_off 5 (.ifCond .eq 23) 23 28 8 := ⟨tX9_off_0_ok (5, .ifCond .eq 23, 3) (List.mem_of_getElem? (i := 3) rfl), by decide, rfl⟩
theorem pX9_off_8 : At cX9_off 8 (.aload_n 0) 1 9 := ⟨tX9_off_0_ok (8, .aload_n 0, 1) (List.mem_of_getElem? (i := 4) rfl), rfl⟩
theorem pX9_off_9 : At cX9_off 9 (.iload_n 2) 1 10 := ⟨tX9_off_0_ok (9, .iload_n 2, 1) (List.mem_of_getElem? (i := 5) rfl), rfl⟩
theorem pX9_off_10 : At cX9_off 10 (.invokevirtual 101) 3 13 := ⟨tX9_off_0_ok (10, .invokevirtual 101, 3) (List.mem_of_getElem? (i := 6) rfl), rfl⟩
theorem pX9_off_13 : Bt cX9_off 13 (.ifCond .eq 15) 15 28 16 := ⟨tX9_off_0_ok (13, .ifCond .eq 15, 3) (List.mem_of_getElem? (i := 7) rfl), by decide, rfl⟩
theorem pX9_off_16 : At cX9_off 16 (.iload_n 1) 1 17 := ⟨tX9_off_0_ok (16, .iload_n 1, 1) (List.mem_of_getElem? (i := 8) rfl), rfl⟩
theorem pX9_off_17 : At cX9_off 17 (.iload_n 2) 1 18 := ⟨tX9_off_0_ok (17, .iload_n 2, 1) (List.mem_of_getElem? (i := 9) rfl), rfl⟩
theorem pX9_off_18 : Bt cX9_off 18 (.if_icmp .eq 10) 10 28 21 := ⟨tX9_off_0_ok (18, .if_icmp .eq 10, 3) (List.mem_of_getElem? (i := 10) rfl), by decide, rfl⟩
theorem pX9_off_21 : At cX9_off 21 (.iload_n 3) 1 22 := ⟨tX9_off_0_ok (21, .iload_n 3, 1) (List.mem_of_getElem? (i := 11) rfl), rfl⟩
theorem pX9_off_22 : At cX9_off 22 (.invokestatic 148) 3 25 := ⟨tX9_off_0_ok (22, .invokestatic 148, 3) (List.mem_of_getElem? (i := 12) rfl), rfl⟩
theorem pX9_off_25 : Bt cX9_off 25 (.ifCond .ne 9) 9 34 28 := ⟨tX9_off_0_ok (25, .ifCond .ne 9, 3) (List.mem_of_getElem? (i := 13) rfl), by decide, rfl⟩
theorem pX9_off_28 : At cX9_off 28 (.aload_n 0) 1 29 := ⟨tX9_off_0_ok (28, .aload_n 0, 1) (List.mem_of_getElem? (i := 14) rfl), rfl⟩
theorem pX9_off_29 : At cX9_off 29 (.iconst 1) 1 30 := ⟨tX9_off_0_ok (29, .iconst 1, 1) (List.mem_of_getElem? (i := 15) rfl), rfl⟩
theorem pX9_off_30 : At cX9_off 30 (.invokevirtual 80) 3 33 := ⟨tX9_off_0_ok (30, .invokevirtual 80, 3) (List.mem_of_getElem? (i := 16) rfl), rfl⟩
theorem pX9_off_33 : At cX9_off 33 (.ireturn) 1 34 := ⟨tX9_off_0_ok (33, .ireturn, 1) (List.mem_of_getElem? (i := 17) rfl), rfl⟩
theorem pX9_off_34 : At cX9_off 34 (.aload_n 0) 1 35 := ⟨tX9_off_0_ok (34, .aload_n 0, 1) (List.mem_of_getElem? (i := 18) rfl), rfl⟩
theorem pX9_off_35 : At cX9_off 35 (.getfield 10) 3 38 := ⟨tX9_off_0_ok (35, .getfield 10, 3) (List.mem_of_getElem? (i := 19) rfl), rfl⟩
theorem pX9_off_38 : At cX9_off 38 (.getfield 88) 3 41 := ⟨tX9_off_0_ok (38, .getfield 88, 3) (List.mem_of_getElem? (i := 20) rfl), rfl⟩
theorem pX9_off_41 : At cX9_off 41 (.iload_n 1) 1 42 := ⟨tX9_off_0_ok (41, .iload_n 1, 1) (List.mem_of_getElem? (i := 21) rfl), rfl⟩
theorem pX9_off_42 : At cX9_off 42 (.aaload) 1 43 := ⟨tX9_off_0_ok (42, .aaload, 1) (List.mem_of_getElem? (i := 22) rfl), rfl⟩
theorem pX9_off_43 : At cX9_off 43 (.astore 4) 2 45 := ⟨tX9_off_0_ok (43, .astore 4, 2) (List.mem_of_getElem? (i := 23) rfl), rfl⟩
theorem pX9_off_45 : At cX9_off 45 (.aload_n 0) 1 46 := ⟨tX9_off_0_ok (45, .aload_n 0, 1) (List.mem_of_getElem? (i := 24) rfl), rfl⟩
theorem pX9_off_46 : At cX9_off 46 (.getfield 10) 3 49 := ⟨tX9_off_0_ok (46, .getfield 10, 3) (List.mem_of_getElem? (i := 25) rfl), rfl⟩
theorem pX9_off_49 : At cX9_off 49 (.getfield 88) 3 52 := ⟨tX9_off_0_ok (49, .getfield 88, 3) (List.mem_of_getElem? (i := 26) rfl), rfl⟩
theorem pX9_off_52 : At cX9_off 52 (.iload_n 2) 1 53 := ⟨tX9_off_0_ok (52, .iload_n 2, 1) (List.mem_of_getElem? (i := 27) rfl), rfl⟩
theorem pX9_off_53 : At cX9_off 53 (.aaload) 1 54 := ⟨tX9_off_0_ok (53, .aaload, 1) (List.mem_of_getElem? (i := 28) rfl), rfl⟩
theorem pX9_off_54 : At cX9_off 54 (.astore 5) 2 56 := ⟨tX9_off_0_ok (54, .astore 5, 2) (List.mem_of_getElem? (i := 29) rfl), rfl⟩
theorem pX9_off_56 : At cX9_off 56 (.aload 4) 2 58 := ⟨tX9_off_0_ok (56, .aload 4, 2) (List.mem_of_getElem? (i := 30) rfl), rfl⟩
theorem pX9_off_58 : At cX9_off 58 (.getfield 114) 3 61 := ⟨tX9_off_0_ok (58, .getfield 114, 3) (List.mem_of_getElem? (i := 31) rfl), rfl⟩
theorem pX9_off_61 : At cX9_off 61 (.aload 5) 2 63 := ⟨tX9_off_0_ok (61, .aload 5, 2) (List.mem_of_getElem? (i := 32) rfl), rfl⟩
theorem pX9_off_63 : At cX9_off 63 (.getfield 114) 3 66 := ⟨tX9_off_0_ok (63, .getfield 114, 3) (List.mem_of_getElem? (i := 33) rfl), rfl⟩
theorem pX9_off_66 : Bt cX9_off 66 (.if_icmp .eq 9) 9 75 69 := ⟨tX9_off_0_ok (66, .if_icmp .eq 9, 3) (List.mem_of_getElem? (i := 34) rfl), by decide, rfl⟩
theorem pX9_off_69 : At cX9_off 69 (.aload_n 0) 1 70 := ⟨tX9_off_0_ok (69, .aload_n 0, 1) (List.mem_of_getElem? (i := 35) rfl), rfl⟩
theorem pX9_off_70 : At cX9_off 70 (.iconst 3) 1 71 := ⟨tX9_off_0_ok (70, .iconst 3, 1) (List.mem_of_getElem? (i := 36) rfl), rfl⟩
theorem pX9_off_71 : At cX9_off 71 (.invokevirtual 80) 3 74 := ⟨tX9_off_0_ok (71, .invokevirtual 80, 3) (List.mem_of_getElem? (i := 37) rfl), rfl⟩
theorem pX9_off_74 : At cX9_off 74 (.ireturn) 1 75 := ⟨tX9_off_0_ok (74, .ireturn, 1) (List.mem_of_getElem? (i := 38) rfl), rfl⟩
theorem pX9_off_75 : At cX9_off 75 (.aload 4) 2 77 := ⟨tX9_off_0_ok (75, .aload 4, 2) (List.mem_of_getElem? (i := 39) rfl), rfl⟩
theorem pX9_off_77 : At cX9_off 77 (.iload_n 3) 1 78 := ⟨tX9_off_0_ok (77, .iload_n 3, 1) (List.mem_of_getElem? (i := 40) rfl), rfl⟩
theorem pX9_off_78 : At cX9_off 78 (.invokevirtual 151) 3 81 := ⟨tX9_off_0_ok (78, .invokevirtual 151, 3) (List.mem_of_getElem? (i := 41) rfl), rfl⟩
theorem pX9_off_81 : At cX9_off 81 (.aload 5) 2 83 := ⟨tX9_off_0_ok (81, .aload 5, 2) (List.mem_of_getElem? (i := 42) rfl), rfl⟩
theorem pX9_off_83 : At cX9_off 83 (.iload_n 3) 1 84 := ⟨tX9_off_0_ok (83, .iload_n 3, 1) (List.mem_of_getElem? (i := 43) rfl), rfl⟩
theorem pX9_off_84 : At cX9_off 84 (.ineg) 1 85 := ⟨tX9_off_0_ok (84, .ineg, 1) (List.mem_of_getElem? (i := 44) rfl), rfl⟩
theorem pX9_off_85 : At cX9_off 85 (.invokevirtual 151) 3 88 := ⟨tX9_off_0_ok (85, .invokevirtual 151, 3) (List.mem_of_getElem? (i := 45) rfl), rfl⟩
theorem pX9_off_88 : At cX9_off 88 (.aload 4) 2 90 := ⟨tX9_off_0_ok (88, .aload 4, 2) (List.mem_of_getElem? (i := 46) rfl), rfl⟩
theorem pX9_off_90 : At cX9_off 90 (.getfield 117) 3 93 := ⟨tX9_off_0_ok (90, .getfield 117, 3) (List.mem_of_getElem? (i := 47) rfl), rfl⟩
theorem pX9_off_93 : At cX9_off 93 (.ireturn) 1 94 := ⟨tX9_off_0_ok (93, .ireturn, 1) (List.mem_of_getElem? (i := 48) rfl), rfl⟩
def tX9_set_0 : List (Nat × Instr × Nat) := [(0, .iload_n 1, 1), (1, .iconst 0, 1), (2, .iconst 2, 1), (3, .invokestatic 104, 3), (6, .ifCond .ne 9, 3), (9, .aload_n 0, 1), (10, .iconst 1, 1), (11, .invokevirtual 80, 3), (14, .ireturn, 1), (15, .iload_n 1, 1), (16, .ifCond .ne 16, 3), (19, .iload_n 2, 1), (20, .iconst 2, 1), (21, .bipush 24, 2), (23, .invokestatic 104, 3), (26, .ifCond .ne 23, 3), (29, .goto 14, 3), (32, .iload_n 2, 1), (33, .bipush (-9), 2), (35, .bipush 9, 2), (37, .invokestatic 104, 3), (40, .ifCond .ne 9, 3), (43, .aload_n 0, 1), (44, .iconst 1, 1), (45, .invokevirtual 80, 3), (48, .ireturn, 1), (49, .iload_n 1, 1), (50, .ifCond .ne 22, 3), (53, .aload_n 0, 1), (54, .getfield 19, 3), (57, .getfield 154, 3), (60, .istore_n 3, 1), (61, .aload_n 0, 1), (62, .getfield 19, 3), (65, .iload_n 2, 1), (66, .putfield 154, 3), (69, .goto 27, 3), (72, .aload_n 0, 1), (73, .getfield 19, 3), (76, .getfield 157, 3), (79, .iload_n 1, 1), (80, .iconst 1, 1), (81, .isub, 1), (82, .iaload, 1), (83, .istore_n 3, 1), (84, .aload_n 0, 1), (85, .getfield 19, 3), (88, .getfield 157, 3), (91, .iload_n 1, 1), (92, .iconst 1, 1), (93, .isub, 1), (94, .iload_n 2, 1), (95, .iastore, 1), (96, .iload_n 3, 1), (97, .ireturn, 1)]
theorem tX9_set_0_ok : ∀ q ∈ tX9_set_0, decode cX9_set q.1 = .ok (q.2.1, q.2.2) := by decide +kernel
theorem pX9_set_0 : At cX9_set 0 (.iload_n 1) 1 1 := ⟨tX9_set_0_ok (0, .iload_n 1, 1) (List.mem_of_getElem? (i := 0) rfl), rfl⟩
theorem pX9_set_1 : At cX9_set 1 (.iconst 0) 1 2 := ⟨tX9_set_0_ok (1, .iconst 0, 1) (List.mem_of_getElem? (i := 1) rfl), rfl⟩
theorem pX9_set_2 : At cX9_set 2 (.iconst 2) 1 3 := ⟨tX9_set_0_ok (2, .iconst 2, 1) (List.mem_of_getElem? (i := 2) rfl), rfl⟩
theorem pX9_set_3 : At cX9_set 3 (.invokestatic 104) 3 6 := ⟨tX9_set_0_ok (3, .invokestatic 104, 3) (List.mem_of_getElem? (i := 3) rfl), rfl⟩
theorem pX9_set_6 : Bt cX9_set 6 (.ifCond .ne 9) 9 15 9 := ⟨tX9_set_0_ok (6, .ifCond .ne 9, 3) (List.mem_of_getElem? (i := 4) rfl), by decide, rfl⟩
theorem pX9_set_9 : At cX9_set 9 (.aload_n 0) 1 10 := ⟨tX9_set_0_ok (9, .aload_n 0, 1) (List.mem_of_getElem? (i := 5) rfl), rfl⟩
theorem pX9_set_10 : At cX9_set 10 (.iconst 1) 1 11 := ⟨tX9_set_0_ok (10, .iconst 1, 1) (List.mem_of_getElem? (i := 6) rfl), rfl⟩
theorem pX9_set_11 : At cX9_set 11 (.invokevirtual 80) 3 14 := ⟨tX9_set_0_ok (11, .invokevirtual 80, 3) (List.mem_of_getElem? (i := 7) rfl), rfl⟩
theorem pX9_set_14 : At cX9_set 14 (.ireturn) 1 15 := ⟨tX9_set_0_ok (14, .ireturn, 1) (List.mem_of_getElem? (i := 8) rfl), rfl⟩
theorem pX9_set_15 : At cX9_set 15 (.iload_n 1) 1 16 := ⟨tX9_set_0_ok (15, .iload_n 1, 1) (List.mem_of_getElem? (i := 9) rfl), rfl⟩
theorem pX9_set_16 : Bt cX9_set 16 (.ifCond .ne 16) 16 32 19 := ⟨tX9_set_0_ok (16, .ifCond .ne 16, 3) (List.mem_of_getElem? (i := 10) rfl), by decide, rfl⟩
theorem pX9_set_19 : At cX9_set 19 (.iload_n 2) 1 20 := ⟨tX9_set_0_ok (19, .iload_n 2, 1) (List.mem_of_getElem? (i := 11) rfl), rfl⟩
theorem pX9_set_20 : At cX9_set 20 (.iconst 2) 1 21 := ⟨tX9_set_0_ok (20, .iconst 2, 1) (List.mem_of_getElem? (i := 12) rfl), rfl⟩
theorem pX9_set_21 : At cX9_set 21 (.bipush 24) 2 23 := ⟨tX9_set_0_ok (21, .bipush 24, 2) (List.mem_of_getElem? (i := 13) rfl), rfl⟩
theorem pX9_set_23 : At cX9_set 23 (.invokestatic 104) 3 26 := ⟨tX9_set_0_ok (23, .invokestatic 104, 3) (List.mem_of_getElem? (i := 14) rfl), rfl⟩
theorem pX9_set_26 : Bt cX9_set 26 (.ifCond .ne 23) 23 49 29 := ⟨tX9_set_0_ok (26, .ifCond .ne 23, 3) (List.mem_of_getElem? (i := 15) rfl), by decide, rfl⟩
theorem pX9_set_29 : Bt cX9_set 29 (.goto 14) 14 43 32 := ⟨tX9_set_0_ok (29, .goto 14, 3) (List.mem_of_getElem? (i := 16) rfl), by decide, rfl⟩
theorem pX9_set_32 : At cX9_set 32 (.iload_n 2) 1 33 := ⟨tX9_set_0_ok (32, .iload_n 2, 1) (List.mem_of_getElem? (i := 17) rfl), rfl⟩
theorem pX9_set_33 : At cX9_set 33 (.bipush (-9)) 2 35 := ⟨tX9_set_0_ok (33, .bipush (-9), 2) (List.mem_of_getElem? (i := 18) rfl), rfl⟩
theorem pX9_set_35 : At cX9_set 35 (.bipush 9) 2 37 := ⟨tX9_set_0_ok (35, .bipush 9, 2) (List.mem_of_getElem? (i := 19) rfl), rfl⟩
theorem pX9_set_37 : At cX9_set 37 (.invokestatic 104) 3 40 := ⟨tX9_set_0_ok (37, .invokestatic 104, 3) (List.mem_of_getElem? (i := 20) rfl), rfl⟩
theorem pX9_set_40 : Bt cX9_set 40 (.ifCond .ne 9) 9 49 43 := ⟨tX9_set_0_ok (40, .ifCond .ne 9, 3) (List.mem_of_getElem? (i := 21) rfl), by decide, rfl⟩
theorem pX9_set_43 : At cX9_set 43 (.aload_n 0) 1 44 := ⟨tX9_set_0_ok (43, .aload_n 0, 1) (List.mem_of_getElem? (i := 22) rfl), rfl⟩
theorem pX9_set_44 : At cX9_set 44 (.iconst 1) 1 45 := ⟨tX9_set_0_ok (44, .iconst 1, 1) (List.mem_of_getElem? (i := 23) rfl), rfl⟩
theorem pX9_set_45 : At cX9_set 45 (.invokevirtual 80) 3 48 := ⟨tX9_set_0_ok (45, .invokevirtual 80, 3) (List.mem_of_getElem? (i := 24) rfl), rfl⟩
theorem pX9_set_48 : At cX9_set 48 (.ireturn) 1 49 := ⟨tX9_set_0_ok (48, .ireturn, 1) (List.mem_of_getElem? (i := 25) rfl), rfl⟩
theorem pX9_set_49 : At cX9_set 49 (.iload_n 1) 1 50 := ⟨tX9_set_0_ok (49, .iload_n 1, 1) (List.mem_of_getElem? (i := 26) rfl), rfl⟩
theorem pX9_set_50 : Bt cX9_set 50 (.ifCond .ne 22) 22 72 53 := ⟨tX9_set_0_ok (50, .ifCond .ne 22, 3) (List.mem_of_getElem? (i := 27) rfl), by decide, rfl⟩
theorem pX9_set_53 : At cX9_set 53 (.aload_n 0) 1 54 := ⟨tX9_set_0_ok (53, .aload_n 0, 1) (List.mem_of_getElem? (i := 28) rfl), rfl⟩
theorem pX9_set_54 : At cX9_set 54 (.getfield 19) 3 57 := ⟨tX9_set_0_ok (54, .getfield 19, 3) (List.mem_of_getElem? (i := 29) rfl), rfl⟩
theorem pX9_set_57 : At cX9_set 57 (.getfield 154) 3 60 := ⟨tX9_set_0_ok (57, .getfield 154, 3) (List.mem_of_getElem? (i := 30) rfl), rfl⟩
theorem pX9_set_60 : At cX9_set 60 (.istore_n 3) 1 61 := ⟨tX9_set_0_ok (60, .istore_n 3, 1) (List.mem_of_getElem? (i := 31) rfl), rfl⟩
theorem pX9_set_61 : At cX9_set 61 (.aload_n 0) 1 62 := ⟨tX9_set_0_ok (61, .aload_n 0, 1) (List.mem_of_getElem? (i := 32) rfl), rfl⟩
theorem pX9_set_62 : At cX9_set 62 (.getfield 19) 3 65 := ⟨tX9_set_0_ok (62, .getfield 19, 3) (List.mem_of_getElem? (i := 33) rfl), rfl⟩
theorem pX9_set_65 : At cX9_set 65 (.iload_n 2) 1 66 := ⟨tX9_set_0_ok (65, .iload_n 2, 1) (List.mem_of_getElem? (i := 34) rfl), rfl⟩
theorem pX9_set_66 : At cX9_set 66 (.putfield 154) 3 69 := ⟨tX9_set_0_ok (66, .putfield 154, 3) (List.mem_of_getElem? (i := 35) rfl), rfl⟩
theorem pX9_set_69 : Bt cX9_set 69 (.goto 27) 27 96 72 := ⟨tX9_set_0_ok (69, .goto 27, 3) (List.mem_of_getElem? (i := 36) rfl), by decide, rfl⟩
theorem pX9_set_72 : At cX9_set 72 (.aload_n 0) 1 73 := ⟨tX9_set_0_ok (72, .aload_n 0, 1) (List.mem_of_getElem? (i := 37) rfl), rfl⟩
theorem pX9_set_73 : At cX9_set 73 (.getfield 19) 3 76 := ⟨tX9_set_0_ok (73, .getfield 19, 3) (List.mem_of_getElem? (i := 38) rfl), rfl⟩
theorem pX9_set_76 : At cX9_set 76 (.getfield 157) 3 79 := ⟨tX9_set_0_ok (76, .getfield 157, 3) (List.mem_of_getElem? (i := 39) rfl), rfl⟩
theorem pX9_set_79 : At cX9_set 79 (.iload_n 1) 1 80 := ⟨tX9_set_0_ok (79, .iload_n 1, 1) (List.mem_of_getElem? (i := 40) rfl), rfl⟩
theorem pX9_set_80 : At cX9_set 80 (.iconst 1) 1 81 := ⟨tX9_set_0_ok (80, .iconst 1, 1) (List.mem_of_getElem? (i := 41) rfl), rfl⟩
theorem pX9_set_81 : At cX9_set 81 (.isub) 1 82 := ⟨tX9_set_0_ok (81, .isub, 1) (List.mem_of_getElem? (i := 42) rfl), rfl⟩
theorem pX9_set_82 : At cX9_set 82 (.iaload) 1 83 := ⟨tX9_set_0_ok (82, .iaload, 1) (List.mem_of_getElem? (i := 43) rfl), rfl⟩
theorem pX9_set_83 : At cX9_set 83 (.istore_n 3) 1 84 := ⟨tX9_set_0_ok (83, .istore_n 3, 1) (List.mem_of_getElem? (i := 44) rfl), rfl⟩
theorem pX9_set_84 : At cX9_set 84 (.aload_n 0) 1 85 := ⟨tX9_set_0_ok (84, .aload_n 0, 1) (List.mem_of_getElem? (i := 45) rfl), rfl⟩
theorem pX9_set_85 : At cX9_set 85 (.getfield 19) 3 88 := ⟨tX9_set_0_ok (85, .getfield 19, 3) (List.mem_of_getElem? (i := 46) rfl), rfl⟩
theorem pX9_set_88 : At cX9_set 88 (.getfield 157) 3 91 := ⟨tX9_set_0_ok (88, .getfield 157, 3) (List.mem_of_getElem? (i := 47) rfl), rfl⟩
theorem pX9_set_91 : At cX9_set 91 (.iload_n 1) 1 92 := ⟨tX9_set_0_ok (91, .iload_n 1, 1) (List.mem_of_getElem? (i := 48) rfl), rfl⟩
theorem pX9_set_92 : At cX9_set 92 (.iconst 1) 1 93 := ⟨tX9_set_0_ok (92, .iconst 1, 1) (List.mem_of_getElem? (i := 49) rfl), rfl⟩
theorem pX9_set_93 : At cX9_set 93 (.isub) 1 94 := ⟨tX9_set_0_ok (93, .isub, 1) (List.mem_of_getElem? (i := 50) rfl), rfl⟩
theorem pX9_set_94 : At cX9_set 94 (.iload_n 2) 1 95 := ⟨tX9_set_0_ok (94, .iload_n 2, 1) (List.mem_of_getElem? (i := 51) rfl), rfl⟩
theorem pX9_set_95 : At cX9_set 95 (.iastore) 1 96 := ⟨tX9_set_0_ok (95, .iastore, 1) (List.mem_of_getElem? (i := 52) rfl), rfl⟩
theorem pX9_set_96 : At cX9_set 96 (.iload_n 3) 1 97 := ⟨tX9_set_0_ok (96, .iload_n 3, 1) (List.mem_of_getElem? (i := 53) rfl), rfl⟩
theorem pX9_set_97 : At cX9_set 97 (.ireturn) 1 98 := ⟨tX9_set_0_ok (97, .ireturn, 1) (List.mem_of_getElem? (i := 54) rfl), rfl⟩
def tX9_isSide_0 : List (Nat × Instr × Nat) := [(0, .iload_n 0, 1), (1, .iconst 0, 1), (2, .iconst 1, 1), (3, .invokestatic 104, 3), (6, .ireturn, 1)]
theorem tX9_isSide_0_ok : ∀ q ∈ tX9_isSide_0, decode cX9_isSide q.1 = .ok (q.2.1, q.2.2) := by decide +kernel
theorem pX9_isSide_0 : At cX9_isSide 0 (.iload_n 0) 1 1 := ⟨tX9_isSide_0_ok (0, .iload_n 0, 1) (List.mem_of_getElem? (i := 0) rfl), rfl⟩
theorem pX9_isSide_1 : At cX9_isSide 1 (.iconst 0) 1 2 := ⟨tX9_isSide_0_ok (1, .iconst 0, 1) (List.mem_of_getElem? (i := 1) rfl), rfl⟩
theorem pX9_isSide_2 : At cX9_isSide 2 (.iconst 1) 1 3 := ⟨tX9_isSide_0_ok (2, .iconst 1, 1) (List.mem_of_getElem? (i := 2) rfl), rfl⟩
theorem pX9_isSide_3 : At cX9_isSide 3 (.invokestatic 104) 3 6 := ⟨tX9_isSide_0_ok (3, .invokestatic 104, 3) (List.mem_of_getElem? (i := 3) rfl), rfl⟩
theorem pX9_isSide_6 : At cX9_isSide 6 (.ireturn) 1 7 := ⟨tX9_isSide_0_ok (6, .ireturn, 1) (List.mem_of_getElem? (i := 4) rfl), rfl⟩
def tX9_isDoor_0 : List (Nat × Instr × Nat) := [(0, .iload_n 1, 1), (1, .iconst 0, 1), (2, .aload_n 0, 1), (3, .getfield 19, 3), (6, .getfield 154, 3), (9, .iconst 1, 1), (10, .isub, 1), (11, .invokestatic 104, 3), (14, .ireturn, 1)]
theorem tX9_isDoor_0_ok : ∀ q ∈ tX9_isDoor_0, decode cX9_isDoor q.1 = .ok (q.2.1, q.2.2) := by decide +kernel
theorem pX9_isDoor_0 : At cX9_isDoor 0 (.iload_n 1) 1 1 := ⟨tX9_isDoor_0_ok (0, .iload_n 1, 1) (List.mem_of_getElem? (i := 0) rfl), rfl⟩
theorem pX9_isDoor_1 : At cX9_isDoor 1 (.iconst 0) 1 2 := ⟨tX9_isDoor_0_ok (1, .iconst 0, 1) (List.mem_of_getElem? (i := 1) rfl), rfl⟩
theorem pX9_isDoor_2 : At cX9_isDoor 2 (.aload_n 0) 1 3 := ⟨tX9_isDoor_0_ok (2, .aload_n 0, 1) (List.mem_of_getElem? (i := 2) rfl), rfl⟩
theorem pX9_isDoor_3 : At cX9_isDoor 3 (.getfield 19) 3 6 := ⟨tX9_isDoor_0_ok (3, .getfield 19, 3) (List.mem_of_getElem? (i := 3) rfl), rfl⟩
theorem pX9_isDoor_6 : At cX9_isDoor 6 (.getfield 154) 3 9 := ⟨tX9_isDoor_0_ok (6, .getfield 154, 3) (List.mem_of_getElem? (i := 4) rfl), rfl⟩
theorem pX9_isDoor_9 : At cX9_isDoor 9 (.iconst 1) 1 10 := ⟨tX9_isDoor_0_ok (9, .iconst 1, 1) (List.mem_of_getElem? (i := 5) rfl), rfl⟩
theorem pX9_isDoor_10 : At cX9_isDoor 10 (.isub) 1 11 := ⟨tX9_isDoor_0_ok (10, .isub, 1) (List.mem_of_getElem? (i := 6) rfl), rfl⟩
theorem pX9_isDoor_11 : At cX9_isDoor 11 (.invokestatic 104) 3 14 := ⟨tX9_isDoor_0_ok (11, .invokestatic 104, 3) (List.mem_of_getElem? (i := 7) rfl), rfl⟩
theorem pX9_isDoor_14 : At cX9_isDoor 14 (.ireturn) 1 15 := ⟨tX9_isDoor_0_ok (14, .ireturn, 1) (List.mem_of_getElem? (i := 8) rfl), rfl⟩
def tX9_door_0 : List (Nat × Instr × Nat) := [(0, .iload_n 1, 1), (1, .invokestatic 160, 3), (4, .ifCond .eq 11, 3), (7, .aload_n 0, 1), (8, .iload_n 2, 1), (9, .invokevirtual 163, 3), (12, .ifCond .ne 9, 3), (15, .aload_n 0, 1), (16, .iconst 1, 1), (17, .invokevirtual 80, 3), (20, .ireturn, 1), (21, .aload_n 0, 1), (22, .getfield 19, 3), (25, .iload_n 1, 1), (26, .iload_n 2, 1), (27, .aload_n 0, 1), (28, .getfield 10, 3), (31, .getfield 166, 3), (34, .invokevirtual 169, 3), (37, .ireturn, 1)]
theorem tX9_door_0_ok : ∀ q ∈ tX9_door_0, decode cX9_door q.1 = .ok (q.2.1, q.2.2) := by decide +kernel
theorem pX9_door_0 : At cX9_door 0 (.iload_n 1) 1 1 := ⟨tX9_door_0_ok (0, .iload_n 1, 1) (List.mem_of_getElem? (i := 0) rfl), rfl⟩
theorem pX9_door_1 : At cX9_door 1 (.invokestatic 160) 3 4 := ⟨tX9_door_0_ok (1, .invokestatic 160, 3) (List.mem_of_getElem? (i := 1) rfl), rfl⟩
theorem pX9_door_4 : Bt cX9_door 4 (.ifCond .eq 11) 11 15 7 := ⟨tX9_door_0_ok (4, .ifCond .eq 11, 3) (List.mem_of_getElem? (i := 2) rfl), by decide, rfl⟩
theorem pX9_door_7 : At cX9_door 7 (.aload_n 0) 1 8 := ⟨tX9_door_0_ok (7, .aload_n 0, 1) (List.mem_of_getElem? (i := 3) rfl), rfl⟩
theorem pX9_door_8 : At cX9_door 8 (.iload_n 2) 1 9 := ⟨tX9_door_0_ok (8, .iload_n 2, 1) (List.mem_of_getElem? (i := 4) rfl), rfl⟩
theorem pX9_door_9 : At cX9_door 9 (.invokevirtual 163) 3 12 := ⟨tX9_door_0_ok (9, .invokevirtual 163, 3) (List.mem_of_getElem? (i := 5) rfl), rfl⟩
theorem pX9_door_12 : Bt cX9_door 12 (.ifCond .ne 9) 9 21 15 := ⟨tX9_door_0_ok (12, .ifCond .ne 9, 3) (List.mem_of_getElem? (i := 6) rfl), by decide, rfl⟩
theorem pX9_door_15 : At cX9_door 15 (.aload_n 0) 1 16 := ⟨tX9_door_0_ok (15, .aload_n 0, 1) (List.mem_of_getElem? (i := 7) rfl), rfl⟩
theorem pX9_door_16 : At cX9_door 16 (.iconst 1) 1 17 := ⟨tX9_door_0_ok (16, .iconst 1, 1) (List.mem_of_getElem? (i := 8) rfl), rfl⟩
theorem pX9_door_17 : At cX9_door 17 (.invokevirtual 80) 3 20 := ⟨tX9_door_0_ok (17, .invokevirtual 80, 3) (List.mem_of_getElem? (i := 9) rfl), rfl⟩
theorem pX9_door_20 : At cX9_door 20 (.ireturn) 1 21 := ⟨tX9_door_0_ok (20, .ireturn, 1) (List.mem_of_getElem? (i := 10) rfl), rfl⟩
theorem pX9_door_21 : At cX9_door 21 (.aload_n 0) 1 22 := ⟨tX9_door_0_ok (21, .aload_n 0, 1) (List.mem_of_getElem? (i := 11) rfl), rfl⟩
theorem pX9_door_22 : At cX9_door 22 (.getfield 19) 3 25 := ⟨tX9_door_0_ok (22, .getfield 19, 3) (List.mem_of_getElem? (i := 12) rfl), rfl⟩
theorem pX9_door_25 : At cX9_door 25 (.iload_n 1) 1 26 := ⟨tX9_door_0_ok (25, .iload_n 1, 1) (List.mem_of_getElem? (i := 13) rfl), rfl⟩
theorem pX9_door_26 : At cX9_door 26 (.iload_n 2) 1 27 := ⟨tX9_door_0_ok (26, .iload_n 2, 1) (List.mem_of_getElem? (i := 14) rfl), rfl⟩
theorem pX9_door_27 : At cX9_door 27 (.aload_n 0) 1 28 := ⟨tX9_door_0_ok (27, .aload_n 0, 1) (List.mem_of_getElem? (i := 15) rfl), rfl⟩
theorem pX9_door_28 : At cX9_door 28 (.getfield 10) 3 31 := ⟨tX9_door_0_ok (28, .getfield 10, 3) (List.mem_of_getElem? (i := 16) rfl), rfl⟩
theorem pX9_door_31 : At cX9_door 31 (.getfield 166) 3 34 := ⟨tX9_door_0_ok (31, .getfield 166, 3) (List.mem_of_getElem? (i := 17) rfl), rfl⟩
theorem pX9_door_34 : At cX9_door 34 (.invokevirtual 169) 3 37 := ⟨tX9_door_0_ok (34, .invokevirtual 169, 3) (List.mem_of_getElem? (i := 18) rfl), rfl⟩
theorem pX9_door_37 : At cX9_door 37 (.ireturn) 1 38 := ⟨tX9_door_0_ok (37, .ireturn, 1) (List.mem_of_getElem? (i := 19) rfl), rfl⟩
def tX9_lineUp_0 : List (Nat × Instr × Nat) := [(0, .aload_n 0, 1), (1, .iload_n 1, 1), (2, .invokevirtual 163, 3), (5, .ifCond .eq 11, 3), (8, .aload_n 0, 1), (9, .iload_n 2, 1), (10, .invokevirtual 163, 3), (13, .ifCond .ne 9, 3), (16, .aload_n 0, 1), (17, .iconst 1, 1), (18, .invokevirtual 80, 3), (21, .ireturn, 1), (22, .iconst 0, 1), (23, .istore_n 3, 1), (24, .iload_n 3, 1), (25, .aload_n 0, 1), (26, .getfield 19, 3), (29, .getfield 154, 3), (32, .if_icmp .ge 47, 3), (35, .aload_n 0, 1), (36, .getfield 10, 3), (39, .getfield 166, 3), (42, .iload_n 3, 1), (43, .iadd, 1), (44, .istore 4, 2), (46, .aload_n 0, 1), (47, .getfield 19, 3), (50, .iconst 0, 1), (51, .iload_n 1, 1), (52, .iload 4, 2), (54, .invokevirtual 169, 3), (57, .aload_n 0, 1), (58, .getfield 19, 3), (61, .iconst 1, 1), (62, .iload_n 2, 1), (63, .iload 4, 2), (65, .invokevirtual 169, 3), (68, .if_icmp .ne 5, 3), (71, .iload_n 3, 1), (72, .ireturn, 1), (73, .iinc 3 1, 3), (76, .goto (-52), 3), (79, .aload_n 0, 1), (80, .iconst 2, 1), (81, .invokevirtual 80, 3), (84, .ireturn, 1)]
theorem tX9_lineUp_0_ok : ∀ q ∈ tX9_lineUp_0, decode cX9_lineUp q.1 = .ok (q.2.1, q.2.2) := by decide +kernel
theorem pX9_lineUp_0 : At cX9_lineUp 0 (.aload_n 0) 1 1 := ⟨tX9_lineUp_0_ok (0, .aload_n 0, 1) (List.mem_of_getElem? (i := 0) rfl), rfl⟩
theorem pX9_lineUp_1 : At cX9_lineUp 1 (.iload_n 1) 1 2 := ⟨tX9_lineUp_0_ok (1, .iload_n 1, 1) (List.mem_of_getElem? (i := 1) rfl), rfl⟩
theorem pX9_lineUp_2 : At cX9_lineUp 2 (.invokevirtual 163) 3 5 := ⟨tX9_lineUp_0_ok (2, .invokevirtual 163, 3) (List.mem_of_getElem? (i := 2) rfl), rfl⟩
theorem pX9_lineUp_5 : Bt cX9_lineUp 5 (.ifCond .eq 11) 11 16 8 := ⟨tX9_lineUp_0_ok (5, .ifCond .eq 11, 3) (List.mem_of_getElem? (i := 3) rfl), by decide, rfl⟩
theorem pX9_lineUp_8 : At cX9_lineUp 8 (.aload_n 0) 1 9 := ⟨tX9_lineUp_0_ok (8, .aload_n 0, 1) (List.mem_of_getElem? (i := 4) rfl), rfl⟩
theorem pX9_lineUp_9 : At cX9_lineUp 9 (.iload_n 2) 1 10 := ⟨tX9_lineUp_0_ok (9, .iload_n 2, 1) (List.mem_of_getElem? (i := 5) rfl), rfl⟩
theorem pX9_lineUp_10 : At cX9_lineUp 10 (.invokevirtual 163) 3 13 := ⟨tX9_lineUp_0_ok (10, .invokevirtual 163, 3) (List.mem_of_getElem? (i := 6) rfl), rfl⟩
theorem pX9_lineUp_13 : Bt cX9_lineUp 13 (.ifCond .ne 9) 9 22 16 := ⟨tX9_lineUp_0_ok (13, .ifCond .ne 9, 3) (List.mem_of_getElem? (i := 7) rfl), by decide, rfl⟩
theorem pX9_lineUp_16 : At cX9_lineUp 16 (.aload_n 0) 1 17 := ⟨tX9_lineUp_0_ok (16, .aload_n 0, 1) (List.mem_of_getElem? (i := 8) rfl), rfl⟩
theorem pX9_lineUp_17 : At cX9_lineUp 17 (.iconst 1) 1 18 := ⟨tX9_lineUp_0_ok (17, .iconst 1, 1) (List.mem_of_getElem? (i := 9) rfl), rfl⟩
theorem pX9_lineUp_18 : At cX9_lineUp 18 (.invokevirtual 80) 3 21 := ⟨tX9_lineUp_0_ok (18, .invokevirtual 80, 3) (List.mem_of_getElem? (i := 10) rfl), rfl⟩
theorem pX9_lineUp_21 : At cX9_lineUp 21 (.ireturn) 1 22 := ⟨tX9_lineUp_0_ok (21, .ireturn, 1) (List.mem_of_getElem? (i := 11) rfl), rfl⟩
theorem pX9_lineUp_22 : At cX9_lineUp 22 (.iconst 0) 1 23 := ⟨tX9_lineUp_0_ok (22, .iconst 0, 1) (List.mem_of_getElem? (i := 12) rfl), rfl⟩
theorem pX9_lineUp_23 : At cX9_lineUp 23 (.istore_n 3) 1 24 := ⟨tX9_lineUp_0_ok (23, .istore_n 3, 1) (List.mem_of_getElem? (i := 13) rfl), rfl⟩
theorem pX9_lineUp_24 : At cX9_lineUp 24 (.iload_n 3) 1 25 := ⟨tX9_lineUp_0_ok (24, .iload_n 3, 1) (List.mem_of_getElem? (i := 14) rfl), rfl⟩
theorem pX9_lineUp_25 : At cX9_lineUp 25 (.aload_n 0) 1 26 := ⟨tX9_lineUp_0_ok (25, .aload_n 0, 1) (List.mem_of_getElem? (i := 15) rfl), rfl⟩
theorem pX9_lineUp_26 : At cX9_lineUp 26 (.getfield 19) 3 29 := ⟨tX9_lineUp_0_ok (26, .getfield 19, 3) (List.mem_of_getElem? (i := 16) rfl), rfl⟩
theorem pX9_lineUp_29 : At cX9_lineUp 29 (.getfield 154) 3 32 := ⟨tX9_lineUp_0_ok (29, .getfield 154, 3) (List.mem_of_getElem? (i := 17) rfl), rfl⟩
theorem pX9_lineUp_32 : Bt cX9_lineUp 32 (.if_icmp .ge 47) 47 79 35 := ⟨tX9_lineUp_0_ok (32, .if_icmp .ge 47, 3) (List.mem_of_getElem? (i := 18) rfl), by decide, rfl⟩
theorem pX9_lineUp_35 : At cX9_lineUp 35 (.aload_n 0) 1 36 := ⟨tX9_lineUp_0_ok (35, .aload_n 0, 1) (List.mem_of_getElem? (i := 19) rfl), rfl⟩
theorem pX9_lineUp_36 : At cX9_lineUp 36 (.getfield 10) 3 39 := ⟨tX9_lineUp_0_ok (36, .getfield 10, 3) (List.mem_of_getElem? (i := 20) rfl), rfl⟩
theorem pX9_lineUp_39 : At cX9_lineUp 39 (.getfield 166) 3 42 := ⟨tX9_lineUp_0_ok (39, .getfield 166, 3) (List.mem_of_getElem? (i := 21) rfl), rfl⟩
theorem pX9_lineUp_42 : At cX9_lineUp 42 (.iload_n 3) 1 43 := ⟨tX9_lineUp_0_ok (42, .iload_n 3, 1) (List.mem_of_getElem? (i := 22) rfl), rfl⟩
theorem pX9_lineUp_43 : At cX9_lineUp 43 (.iadd) 1 44 := ⟨tX9_lineUp_0_ok (43, .iadd, 1) (List.mem_of_getElem? (i := 23) rfl), rfl⟩
theorem pX9_lineUp_44 : At cX9_lineUp 44 (.istore 4) 2 46 := ⟨tX9_lineUp_0_ok (44, .istore 4, 2) (List.mem_of_getElem? (i := 24) rfl), rfl⟩
theorem pX9_lineUp_46 : At cX9_lineUp 46 (.aload_n 0) 1 47 := ⟨tX9_lineUp_0_ok (46, .aload_n 0, 1) (List.mem_of_getElem? (i := 25) rfl), rfl⟩
theorem pX9_lineUp_47 : At cX9_lineUp 47 (.getfield 19) 3 50 := ⟨tX9_lineUp_0_ok (47, .getfield 19, 3) (List.mem_of_getElem? (i := 26) rfl), rfl⟩
theorem pX9_lineUp_50 : At cX9_lineUp 50 (.iconst 0) 1 51 := ⟨tX9_lineUp_0_ok (50, .iconst 0, 1) (List.mem_of_getElem? (i := 27) rfl), rfl⟩
theorem pX9_lineUp_51 : At cX9_lineUp 51 (.iload_n 1) 1 52 := ⟨tX9_lineUp_0_ok (51, .iload_n 1, 1) (List.mem_of_getElem? (i := 28) rfl), rfl⟩
theorem pX9_lineUp_52 : At cX9_lineUp 52 (.iload 4) 2 54 := ⟨tX9_lineUp_0_ok (52, .iload 4, 2) (List.mem_of_getElem? (i := 29) rfl), rfl⟩
theorem pX9_lineUp_54 : At cX9_lineUp 54 (.invokevirtual 169) 3 57 := ⟨tX9_lineUp_0_ok (54, .invokevirtual 169, 3) (List.mem_of_getElem? (i := 30) rfl), rfl⟩
theorem pX9_lineUp_57 : At cX9_lineUp 57 (.aload_n 0) 1 58 := ⟨tX9_lineUp_0_ok (57, .aload_n 0, 1) (List.mem_of_getElem? (i := 31) rfl), rfl⟩
theorem pX9_lineUp_58 : At cX9_lineUp 58 (.getfield 19) 3 61 := ⟨tX9_lineUp_0_ok (58, .getfield 19, 3) (List.mem_of_getElem? (i := 32) rfl), rfl⟩
theorem pX9_lineUp_61 : At cX9_lineUp 61 (.iconst 1) 1 62 := ⟨tX9_lineUp_0_ok (61, .iconst 1, 1) (List.mem_of_getElem? (i := 33) rfl), rfl⟩
theorem pX9_lineUp_62 : At cX9_lineUp 62 (.iload_n 2) 1 63 := ⟨tX9_lineUp_0_ok (62, .iload_n 2, 1) (List.mem_of_getElem? (i := 34) rfl), rfl⟩
theorem pX9_lineUp_63 : At cX9_lineUp 63 (.iload 4) 2 65 := ⟨tX9_lineUp_0_ok (63, .iload 4, 2) (List.mem_of_getElem? (i := 35) rfl), rfl⟩
theorem pX9_lineUp_65 : At cX9_lineUp 65 (.invokevirtual 169) 3 68 := ⟨tX9_lineUp_0_ok (65, .invokevirtual 169, 3) (List.mem_of_getElem? (i := 36) rfl), rfl⟩
theorem pX9_lineUp_68 : Bt cX9_lineUp 68 (.if_icmp .ne 5) 5 73 71 := ⟨tX9_lineUp_0_ok (68, .if_icmp .ne 5, 3) (List.mem_of_getElem? (i := 37) rfl), by decide, rfl⟩
theorem pX9_lineUp_71 : At cX9_lineUp 71 (.iload_n 3) 1 72 := ⟨tX9_lineUp_0_ok (71, .iload_n 3, 1) (List.mem_of_getElem? (i := 38) rfl), rfl⟩
theorem pX9_lineUp_72 : At cX9_lineUp 72 (.ireturn) 1 73 := ⟨tX9_lineUp_0_ok (72, .ireturn, 1) (List.mem_of_getElem? (i := 39) rfl), rfl⟩
theorem pX9_lineUp_73 : At cX9_lineUp 73 (.iinc 3 1) 3 76 := ⟨tX9_lineUp_0_ok (73, .iinc 3 1, 3) (List.mem_of_getElem? (i := 40) rfl), rfl⟩
theorem pX9_lineUp_76 : Bt cX9_lineUp 76 (.goto (-52)) (-52) 24 79 := ⟨tX9_lineUp_0_ok (76, .goto (-52), 3) (List.mem_of_getElem? (i := 41) rfl), by decide, rfl⟩
theorem pX9_lineUp_79 : At cX9_lineUp 79 (.aload_n 0) 1 80 := ⟨tX9_lineUp_0_ok (79, .aload_n 0, 1) (List.mem_of_getElem? (i := 42) rfl), rfl⟩
theorem pX9_lineUp_80 : At cX9_lineUp 80 (.iconst 2) 1 81 := ⟨tX9_lineUp_0_ok (80, .iconst 2, 1) (List.mem_of_getElem? (i := 43) rfl), rfl⟩
theorem pX9_lineUp_81 : At cX9_lineUp 81 (.invokevirtual 80) 3 84 := ⟨tX9_lineUp_0_ok (81, .invokevirtual 80, 3) (List.mem_of_getElem? (i := 44) rfl), rfl⟩
theorem pX9_lineUp_84 : At cX9_lineUp 84 (.ireturn) 1 85 := ⟨tX9_lineUp_0_ok (84, .ireturn, 1) (List.mem_of_getElem? (i := 45) rfl), rfl⟩
def tX9_feed_0 : List (Nat × Instr × Nat) := [(0, .iload_n 3, 1), (1, .iconst 1, 1), (2, .bipush 8, 2), (4, .invokestatic 104, 3), (7, .ifCond .ne 9, 3), (10, .aload_n 0, 1), (11, .iconst 1, 1), (12, .invokevirtual 80, 3), (15, .ireturn, 1), (16, .aload_n 0, 1), (17, .getfield 19, 3), (20, .getfield 173, 3), (23, .iload_n 3, 1), (24, .iadd, 1), (25, .bipush 50, 2), (27, .if_icmp .le 9, 3), (30, .aload_n 0, 1), (31, .iconst 4, 1), (32, .invokevirtual 80, 3), (35, .ireturn, 1), (36, .iconst 0, 1), (37, .istore 4, 2), (39, .iload 4, 2), (41, .iload_n 3, 1), (42, .if_icmp .ge 36, 3), (45, .aload_n 0, 1), (46, .getfield 19, 3), (49, .getfield 176, 3), (52, .aload_n 0, 1), (53, .getfield 19, 3), (56, .getfield 173, 3), (59, .iload 4, 2), (61, .iadd, 1), (62, .lload_n 1, 1), (63, .bipush 8, 2), (65, .iload 4, 2), (67, .imul, 1), (68, .lushr, 1), (69, .l2i, 1), (70, .i2b, 1), (71, .bastore, 1), (72, .iinc 4 1, 3), (75, .goto (-36), 3), (78, .aload_n 0, 1), (79, .getfield 19, 3), (82, .dup, 1), (83, .getfield 173, 3), (86, .iload_n 3, 1), (87, .iadd, 1), (88, .putfield 173, 3), (91, .aload_n 0, 1), (92, .getfield 19, 3), (95, .getfield 173, 3), (98, .ireturn, 1)]
theorem tX9_feed_0_ok : ∀ q ∈ tX9_feed_0, decode cX9_feed q.1 = .ok (q.2.1, q.2.2) := by decide +kernel
theorem pX9_feed_0 : At cX9_feed 0 (.iload_n 3) 1 1 := ⟨tX9_feed_0_ok (0, .iload_n 3, 1) (List.mem_of_getElem? (i := 0) rfl), rfl⟩
theorem pX9_feed_1 : At cX9_feed 1 (.iconst 1) 1 2 := ⟨tX9_feed_0_ok (1, .iconst 1, 1) (List.mem_of_getElem? (i := 1) rfl), rfl⟩
theorem pX9_feed_2 : At cX9_feed 2 (.bipush 8) 2 4 := ⟨tX9_feed_0_ok (2, .bipush 8, 2) (List.mem_of_getElem? (i := 2) rfl), rfl⟩
theorem pX9_feed_4 : At cX9_feed 4 (.invokestatic 104) 3 7 := ⟨tX9_feed_0_ok (4, .invokestatic 104, 3) (List.mem_of_getElem? (i := 3) rfl), rfl⟩
theorem pX9_feed_7 : Bt cX9_feed 7 (.ifCond .ne 9) 9 16 10 := ⟨tX9_feed_0_ok (7, .ifCond .ne 9, 3) (List.mem_of_getElem? (i := 4) rfl), by decide, rfl⟩
theorem pX9_feed_10 : At cX9_feed 10 (.aload_n 0) 1 11 := ⟨tX9_feed_0_ok (10, .aload_n 0, 1) (List.mem_of_getElem? (i := 5) rfl), rfl⟩
theorem pX9_feed_11 : At cX9_feed 11 (.iconst 1) 1 12 := ⟨tX9_feed_0_ok (11, .iconst 1, 1) (List.mem_of_getElem? (i := 6) rfl), rfl⟩
theorem pX9_feed_12 : At cX9_feed 12 (.invokevirtual 80) 3 15 := ⟨tX9_feed_0_ok (12, .invokevirtual 80, 3) (List.mem_of_getElem? (i := 7) rfl), rfl⟩
theorem pX9_feed_15 : At cX9_feed 15 (.ireturn) 1 16 := ⟨tX9_feed_0_ok (15, .ireturn, 1) (List.mem_of_getElem? (i := 8) rfl), rfl⟩
theorem pX9_feed_16 : At cX9_feed 16 (.aload_n 0) 1 17 := ⟨tX9_feed_0_ok (16, .aload_n 0, 1) (List.mem_of_getElem? (i := 9) rfl), rfl⟩
theorem pX9_feed_17 : At cX9_feed 17 (.getfield 19) 3 20 := ⟨tX9_feed_0_ok (17, .getfield 19, 3) (List.mem_of_getElem? (i := 10) rfl), rfl⟩
theorem pX9_feed_20 : At cX9_feed 20 (.getfield 173) 3 23 := ⟨tX9_feed_0_ok (20, .getfield 173, 3) (List.mem_of_getElem? (i := 11) rfl), rfl⟩
theorem pX9_feed_23 : At cX9_feed 23 (.iload_n 3) 1 24 := ⟨tX9_feed_0_ok (23, .iload_n 3, 1) (List.mem_of_getElem? (i := 12) rfl), rfl⟩
theorem pX9_feed_24 : At cX9_feed 24 (.iadd) 1 25 := ⟨tX9_feed_0_ok (24, .iadd, 1) (List.mem_of_getElem? (i := 13) rfl), rfl⟩
theorem pX9_feed_25 : At cX9_feed 25 (.bipush 50) 2 27 := ⟨tX9_feed_0_ok (25, .bipush 50, 2) (List.mem_of_getElem? (i := 14) rfl), rfl⟩
theorem pX9_feed_27 : Bt cX9_feed 27 (.if_icmp .le 9) 9 36 30 := ⟨tX9_feed_0_ok (27, .if_icmp .le 9, 3) (List.mem_of_getElem? (i := 15) rfl), by decide, rfl⟩
theorem pX9_feed_30 : At cX9_feed 30 (.aload_n 0) 1 31 := ⟨tX9_feed_0_ok (30, .aload_n 0, 1) (List.mem_of_getElem? (i := 16) rfl), rfl⟩
theorem pX9_feed_31 : At cX9_feed 31 (.iconst 4) 1 32 := ⟨tX9_feed_0_ok (31, .iconst 4, 1) (List.mem_of_getElem? (i := 17) rfl), rfl⟩
theorem pX9_feed_32 : At cX9_feed 32 (.invokevirtual 80) 3 35 := ⟨tX9_feed_0_ok (32, .invokevirtual 80, 3) (List.mem_of_getElem? (i := 18) rfl), rfl⟩
theorem pX9_feed_35 : At cX9_feed 35 (.ireturn) 1 36 := ⟨tX9_feed_0_ok (35, .ireturn, 1) (List.mem_of_getElem? (i := 19) rfl), rfl⟩
theorem pX9_feed_36 : At cX9_feed 36 (.iconst 0) 1 37 := ⟨tX9_feed_0_ok (36, .iconst 0, 1) (List.mem_of_getElem? (i := 20) rfl), rfl⟩
theorem pX9_feed_37 : At cX9_feed 37 (.istore 4) 2 39 := ⟨tX9_feed_0_ok (37, .istore 4, 2) (List.mem_of_getElem? (i := 21) rfl), rfl⟩
theorem pX9_feed_39 : At cX9_feed 39 (.iload 4) 2 41 := ⟨tX9_feed_0_ok (39, .iload 4, 2) (List.mem_of_getElem? (i := 22) rfl), rfl⟩
theorem pX9_feed_41 : At cX9_feed 41 (.iload_n 3) 1 42 := ⟨tX9_feed_0_ok (41, .iload_n 3, 1) (List.mem_of_getElem? (i := 23) rfl), rfl⟩
theorem pX9_feed_42 : Bt cX9_feed 42 (.if_icmp .ge 36) 36 78 45 := ⟨tX9_feed_0_ok (42, .if_icmp .ge 36, 3) (List.mem_of_getElem? (i := 24) rfl), by decide, rfl⟩
theorem pX9_feed_45 : At cX9_feed 45 (.aload_n 0) 1 46 := ⟨tX9_feed_0_ok (45, .aload_n 0, 1) (List.mem_of_getElem? (i := 25) rfl), rfl⟩
theorem pX9_feed_46 : At cX9_feed 46 (.getfield 19) 3 49 := ⟨tX9_feed_0_ok (46, .getfield 19, 3) (List.mem_of_getElem? (i := 26) rfl), rfl⟩
theorem pX9_feed_49 : At cX9_feed 49 (.getfield 176) 3 52 := ⟨tX9_feed_0_ok (49, .getfield 176, 3) (List.mem_of_getElem? (i := 27) rfl), rfl⟩
theorem pX9_feed_52 : At cX9_feed 52 (.aload_n 0) 1 53 := ⟨tX9_feed_0_ok (52, .aload_n 0, 1) (List.mem_of_getElem? (i := 28) rfl), rfl⟩
theorem pX9_feed_53 : At cX9_feed 53 (.getfield 19) 3 56 := ⟨tX9_feed_0_ok (53, .getfield 19, 3) (List.mem_of_getElem? (i := 29) rfl), rfl⟩
theorem pX9_feed_56 : At cX9_feed 56 (.getfield 173) 3 59 := ⟨tX9_feed_0_ok (56, .getfield 173, 3) (List.mem_of_getElem? (i := 30) rfl), rfl⟩
theorem pX9_feed_59 : At cX9_feed 59 (.iload 4) 2 61 := ⟨tX9_feed_0_ok (59, .iload 4, 2) (List.mem_of_getElem? (i := 31) rfl), rfl⟩
theorem pX9_feed_61 : At cX9_feed 61 (.iadd) 1 62 := ⟨tX9_feed_0_ok (61, .iadd, 1) (List.mem_of_getElem? (i := 32) rfl), rfl⟩
theorem pX9_feed_62 : At cX9_feed 62 (.lload_n 1) 1 63 := ⟨tX9_feed_0_ok (62, .lload_n 1, 1) (List.mem_of_getElem? (i := 33) rfl), rfl⟩
theorem pX9_feed_63 : At cX9_feed 63 (.bipush 8) 2 65 := ⟨tX9_feed_0_ok (63, .bipush 8, 2) (List.mem_of_getElem? (i := 34) rfl), rfl⟩
theorem pX9_feed_65 : At cX9_feed 65 (.iload 4) 2 67 := ⟨tX9_feed_0_ok (65, .iload 4, 2) (List.mem_of_getElem? (i := 35) rfl), rfl⟩
theorem pX9_feed_67 : At cX9_feed 67 (.imul) 1 68 := ⟨tX9_feed_0_ok (67, .imul, 1) (List.mem_of_getElem? (i := 36) rfl), rfl⟩
theorem pX9_feed_68 : At cX9_feed 68 (.lushr) 1 69 := ⟨tX9_feed_0_ok (68, .lushr, 1) (List.mem_of_getElem? (i := 37) rfl), rfl⟩
theorem pX9_feed_69 : At cX9_feed 69 (.l2i) 1 70 := ⟨tX9_feed_0_ok (69, .l2i, 1) (List.mem_of_getElem? (i := 38) rfl), rfl⟩
theorem pX9_feed_70 : At cX9_feed 70 (.i2b) 1 71 := ⟨tX9_feed_0_ok (70, .i2b, 1) (List.mem_of_getElem? (i := 39) rfl), rfl⟩
theorem pX9_feed_71 : At cX9_feed 71 (.bastore) 1 72 := ⟨tX9_feed_0_ok (71, .bastore, 1) (List.mem_of_getElem? (i := 40) rfl), rfl⟩
theorem pX9_feed_72 : At cX9_feed 72 (.iinc 4 1) 3 75 := ⟨tX9_feed_0_ok (72, .iinc 4 1, 3) (List.mem_of_getElem? (i := 41) rfl), rfl⟩
theorem pX9_feed_75 : Bt cX9_feed 75 (.goto (-36)) (-36) 39 78 := ⟨tX9_feed_0_ok (75, .goto (-36), 3) (List.mem_of_getElem? (i := 42) rfl), by decide, rfl⟩
theorem pX9_feed_78 : At cX9_feed 78 (.aload_n 0) 1 79 := ⟨tX9_feed_0_ok (78, .aload_n 0, 1) (List.mem_of_getElem? (i := 43) rfl), rfl⟩
theorem pX9_feed_79 : At cX9_feed 79 (.getfield 19) 3 82 := ⟨tX9_feed_0_ok (79, .getfield 19, 3) (List.mem_of_getElem? (i := 44) rfl), rfl⟩
theorem pX9_feed_82 : At cX9_feed 82 (.dup) 1 83 := ⟨tX9_feed_0_ok (82, .dup, 1) (List.mem_of_getElem? (i := 45) rfl), rfl⟩
theorem pX9_feed_83 : At cX9_feed 83 (.getfield 173) 3 86 := ⟨tX9_feed_0_ok (83, .getfield 173, 3) (List.mem_of_getElem? (i := 46) rfl), rfl⟩
theorem pX9_feed_86 : At cX9_feed 86 (.iload_n 3) 1 87 := ⟨tX9_feed_0_ok (86, .iload_n 3, 1) (List.mem_of_getElem? (i := 47) rfl), rfl⟩
theorem pX9_feed_87 : At cX9_feed 87 (.iadd) 1 88 := ⟨tX9_feed_0_ok (87, .iadd, 1) (List.mem_of_getElem? (i := 48) rfl), rfl⟩
theorem pX9_feed_88 : At cX9_feed 88 (.putfield 173) 3 91 := ⟨tX9_feed_0_ok (88, .putfield 173, 3) (List.mem_of_getElem? (i := 49) rfl), rfl⟩
theorem pX9_feed_91 : At cX9_feed 91 (.aload_n 0) 1 92 := ⟨tX9_feed_0_ok (91, .aload_n 0, 1) (List.mem_of_getElem? (i := 50) rfl), rfl⟩
theorem pX9_feed_92 : At cX9_feed 92 (.getfield 19) 3 95 := ⟨tX9_feed_0_ok (92, .getfield 19, 3) (List.mem_of_getElem? (i := 51) rfl), rfl⟩
theorem pX9_feed_95 : At cX9_feed 95 (.getfield 173) 3 98 := ⟨tX9_feed_0_ok (95, .getfield 173, 3) (List.mem_of_getElem? (i := 52) rfl), rfl⟩
theorem pX9_feed_98 : At cX9_feed 98 (.ireturn) 1 99 := ⟨tX9_feed_0_ok (98, .ireturn, 1) (List.mem_of_getElem? (i := 53) rfl), rfl⟩
def tX9_isUse_0 : List (Nat × Instr × Nat) := [(0, .iload_n 0, 1), (1, .iconst 0, 1), (2, .iconst 1, 1), (3, .invokestatic 104, 3), (6, .ireturn, 1)]
theorem tX9_isUse_0_ok : ∀ q ∈ tX9_isUse_0, decode cX9_isUse q.1 = .ok (q.2.1, q.2.2) := by decide +kernel
theorem pX9_isUse_0 : At cX9_isUse 0 (.iload_n 0) 1 1 := ⟨tX9_isUse_0_ok (0, .iload_n 0, 1) (List.mem_of_getElem? (i := 0) rfl), rfl⟩
theorem pX9_isUse_1 : At cX9_isUse 1 (.iconst 0) 1 2 := ⟨tX9_isUse_0_ok (1, .iconst 0, 1) (List.mem_of_getElem? (i := 1) rfl), rfl⟩
theorem pX9_isUse_2 : At cX9_isUse 2 (.iconst 1) 1 3 := ⟨tX9_isUse_0_ok (2, .iconst 1, 1) (List.mem_of_getElem? (i := 2) rfl), rfl⟩
theorem pX9_isUse_3 : At cX9_isUse 3 (.invokestatic 104) 3 6 := ⟨tX9_isUse_0_ok (3, .invokestatic 104, 3) (List.mem_of_getElem? (i := 3) rfl), rfl⟩
theorem pX9_isUse_6 : At cX9_isUse 6 (.ireturn) 1 7 := ⟨tX9_isUse_0_ok (6, .ireturn, 1) (List.mem_of_getElem? (i := 4) rfl), rfl⟩
def tX9_text_0 : List (Nat × Instr × Nat) := [(0, .iload_n 1, 1), (1, .invokestatic 180, 3), (4, .ifCond .ne 9, 3), (7, .aload_n 0, 1), (8, .iconst 1, 1), (9, .invokevirtual 80, 3), (12, .ireturn, 1), (13, .aload_n 0, 1), (14, .getfield 44, 3), (17, .aload_n 0, 1), (18, .getfield 19, 3), (21, .getfield 176, 3), (24, .aload_n 0, 1), (25, .getfield 19, 3), (28, .getfield 173, 3), (31, .iload_n 1, 1), (32, .invokevirtual 183, 3), (35, .istore_n 2, 1), (36, .aload_n 0, 1), (37, .getfield 19, 3), (40, .iconst 0, 1), (41, .putfield 173, 3), (44, .iload_n 2, 1), (45, .ifCond .lt 8, 3), (48, .bipush (-10), 2), (50, .iload_n 2, 1), (51, .isub, 1), (52, .ireturn, 1), (53, .aload_n 0, 1), (54, .getfield 19, 3), (57, .iload_n 1, 1), (58, .invokevirtual 187, 3), (61, .aload_n 0, 1), (62, .getfield 44, 3), (65, .getfield 191, 3), (68, .aload_n 0, 1), (69, .getfield 44, 3), (72, .getfield 194, 3), (75, .invokevirtual 195, 3), (78, .aload_n 0, 1), (79, .getfield 19, 3), (82, .invokevirtual 201, 3), (85, .iconst 1, 1), (86, .ireturn, 1)]
theorem tX9_text_0_ok : ∀ q ∈ tX9_text_0, decode cX9_text q.1 = .ok (q.2.1, q.2.2) := by decide +kernel
theorem pX9_text_0 : At cX9_text 0 (.iload_n 1) 1 1 := ⟨tX9_text_0_ok (0, .iload_n 1, 1) (List.mem_of_getElem? (i := 0) rfl), rfl⟩
theorem pX9_text_1 : At cX9_text 1 (.invokestatic 180) 3 4 := ⟨tX9_text_0_ok (1, .invokestatic 180, 3) (List.mem_of_getElem? (i := 1) rfl), rfl⟩
theorem pX9_text_4 : Bt cX9_text 4 (.ifCond .ne 9) 9 13 7 := ⟨tX9_text_0_ok (4, .ifCond .ne 9, 3) (List.mem_of_getElem? (i := 2) rfl), by decide, rfl⟩
theorem pX9_text_7 : At cX9_text 7 (.aload_n 0) 1 8 := ⟨tX9_text_0_ok (7, .aload_n 0, 1) (List.mem_of_getElem? (i := 3) rfl), rfl⟩
theorem pX9_text_8 : At cX9_text 8 (.iconst 1) 1 9 := ⟨tX9_text_0_ok (8, .iconst 1, 1) (List.mem_of_getElem? (i := 4) rfl), rfl⟩
theorem pX9_text_9 : At cX9_text 9 (.invokevirtual 80) 3 12 := ⟨tX9_text_0_ok (9, .invokevirtual 80, 3) (List.mem_of_getElem? (i := 5) rfl), rfl⟩
theorem pX9_text_12 : At cX9_text 12 (.ireturn) 1 13 := ⟨tX9_text_0_ok (12, .ireturn, 1) (List.mem_of_getElem? (i := 6) rfl), rfl⟩
theorem pX9_text_13 : At cX9_text 13 (.aload_n 0) 1 14 := ⟨tX9_text_0_ok (13, .aload_n 0, 1) (List.mem_of_getElem? (i := 7) rfl), rfl⟩
theorem pX9_text_14 : At cX9_text 14 (.getfield 44) 3 17 := ⟨tX9_text_0_ok (14, .getfield 44, 3) (List.mem_of_getElem? (i := 8) rfl), rfl⟩
theorem pX9_text_17 : At cX9_text 17 (.aload_n 0) 1 18 := ⟨tX9_text_0_ok (17, .aload_n 0, 1) (List.mem_of_getElem? (i := 9) rfl), rfl⟩
theorem pX9_text_18 : At cX9_text 18 (.getfield 19) 3 21 := ⟨tX9_text_0_ok (18, .getfield 19, 3) (List.mem_of_getElem? (i := 10) rfl), rfl⟩
theorem pX9_text_21 : At cX9_text 21 (.getfield 176) 3 24 := ⟨tX9_text_0_ok (21, .getfield 176, 3) (List.mem_of_getElem? (i := 11) rfl), rfl⟩
theorem pX9_text_24 : At cX9_text 24 (.aload_n 0) 1 25 := ⟨tX9_text_0_ok (24, .aload_n 0, 1) (List.mem_of_getElem? (i := 12) rfl), rfl⟩
theorem pX9_text_25 : At cX9_text 25 (.getfield 19) 3 28 := ⟨tX9_text_0_ok (25, .getfield 19, 3) (List.mem_of_getElem? (i := 13) rfl), rfl⟩
theorem pX9_text_28 : At cX9_text 28 (.getfield 173) 3 31 := ⟨tX9_text_0_ok (28, .getfield 173, 3) (List.mem_of_getElem? (i := 14) rfl), rfl⟩
theorem pX9_text_31 : At cX9_text 31 (.iload_n 1) 1 32 := ⟨tX9_text_0_ok (31, .iload_n 1, 1) (List.mem_of_getElem? (i := 15) rfl), rfl⟩
theorem pX9_text_32 : At cX9_text 32 (.invokevirtual 183) 3 35 := ⟨tX9_text_0_ok (32, .invokevirtual 183, 3) (List.mem_of_getElem? (i := 16) rfl), rfl⟩
theorem pX9_text_35 : At cX9_text 35 (.istore_n 2) 1 36 := ⟨tX9_text_0_ok (35, .istore_n 2, 1) (List.mem_of_getElem? (i := 17) rfl), rfl⟩
theorem pX9_text_36 : At cX9_text 36 (.aload_n 0) 1 37 := ⟨tX9_text_0_ok (36, .aload_n 0, 1) (List.mem_of_getElem? (i := 18) rfl), rfl⟩
theorem pX9_text_37 : At cX9_text 37 (.getfield 19) 3 40 := ⟨tX9_text_0_ok (37, .getfield 19, 3) (List.mem_of_getElem? (i := 19) rfl), rfl⟩
theorem pX9_text_40 : At cX9_text 40 (.iconst 0) 1 41 := ⟨tX9_text_0_ok (40, .iconst 0, 1) (List.mem_of_getElem? (i := 20) rfl), rfl⟩
theorem pX9_text_41 : At cX9_text 41 (.putfield 173) 3 44 := ⟨tX9_text_0_ok (41, .putfield 173, 3) (List.mem_of_getElem? (i := 21) rfl), rfl⟩
theorem pX9_text_44 : At cX9_text 44 (.iload_n 2) 1 45 := ⟨tX9_text_0_ok (44, .iload_n 2, 1) (List.mem_of_getElem? (i := 22) rfl), rfl⟩
theorem pX9_text_45 : Bt cX9_text 45 (.ifCond .lt 8) 8 53 48 := ⟨tX9_text_0_ok (45, .ifCond .lt 8, 3) (List.mem_of_getElem? (i := 23) rfl), by decide, rfl⟩
theorem pX9_text_48 : At cX9_text 48 (.bipush (-10)) 2 50 := ⟨tX9_text_0_ok (48, .bipush (-10), 2) (List.mem_of_getElem? (i := 24) rfl), rfl⟩
theorem pX9_text_50 : At cX9_text 50 (.iload_n 2) 1 51 := ⟨tX9_text_0_ok (50, .iload_n 2, 1) (List.mem_of_getElem? (i := 25) rfl), rfl⟩
theorem pX9_text_51 : At cX9_text 51 (.isub) 1 52 := ⟨tX9_text_0_ok (51, .isub, 1) (List.mem_of_getElem? (i := 26) rfl), rfl⟩
theorem pX9_text_52 : At cX9_text 52 (.ireturn) 1 53 := ⟨tX9_text_0_ok (52, .ireturn, 1) (List.mem_of_getElem? (i := 27) rfl), rfl⟩
theorem pX9_text_53 : At cX9_text 53 (.aload_n 0) 1 54 := ⟨tX9_text_0_ok (53, .aload_n 0, 1) (List.mem_of_getElem? (i := 28) rfl), rfl⟩
theorem pX9_text_54 : At cX9_text 54 (.getfield 19) 3 57 := ⟨tX9_text_0_ok (54, .getfield 19, 3) (List.mem_of_getElem? (i := 29) rfl), rfl⟩
theorem pX9_text_57 : At cX9_text 57 (.iload_n 1) 1 58 := ⟨tX9_text_0_ok (57, .iload_n 1, 1) (List.mem_of_getElem? (i := 30) rfl), rfl⟩
theorem pX9_text_58 : At cX9_text 58 (.invokevirtual 187) 3 61 := ⟨tX9_text_0_ok (58, .invokevirtual 187, 3) (List.mem_of_getElem? (i := 31) rfl), rfl⟩
theorem pX9_text_61 : At cX9_text 61 (.aload_n 0) 1 62 := ⟨tX9_text_0_ok (61, .aload_n 0, 1) (List.mem_of_getElem? (i := 32) rfl), rfl⟩
theorem pX9_text_62 : At cX9_text 62 (.getfield 44) 3 65 := ⟨tX9_text_0_ok (62, .getfield 44, 3) (List.mem_of_getElem? (i := 33) rfl), rfl⟩
theorem pX9_text_65 : At cX9_text 65 (.getfield 191) 3 68 := ⟨tX9_text_0_ok (65, .getfield 191, 3) (List.mem_of_getElem? (i := 34) rfl), rfl⟩
theorem pX9_text_68 : At cX9_text 68 (.aload_n 0) 1 69 := ⟨tX9_text_0_ok (68, .aload_n 0, 1) (List.mem_of_getElem? (i := 35) rfl), rfl⟩
theorem pX9_text_69 : At cX9_text 69 (.getfield 44) 3 72 := ⟨tX9_text_0_ok (69, .getfield 44, 3) (List.mem_of_getElem? (i := 36) rfl), rfl⟩
theorem pX9_text_72 : At cX9_text 72 (.getfield 194) 3 75 := ⟨tX9_text_0_ok (72, .getfield 194, 3) (List.mem_of_getElem? (i := 37) rfl), rfl⟩
theorem pX9_text_75 : At cX9_text 75 (.invokevirtual 195) 3 78 := ⟨tX9_text_0_ok (75, .invokevirtual 195, 3) (List.mem_of_getElem? (i := 38) rfl), rfl⟩
theorem pX9_text_78 : At cX9_text 78 (.aload_n 0) 1 79 := ⟨tX9_text_0_ok (78, .aload_n 0, 1) (List.mem_of_getElem? (i := 39) rfl), rfl⟩
theorem pX9_text_79 : At cX9_text 79 (.getfield 19) 3 82 := ⟨tX9_text_0_ok (79, .getfield 19, 3) (List.mem_of_getElem? (i := 40) rfl), rfl⟩
theorem pX9_text_82 : At cX9_text 82 (.invokevirtual 201) 3 85 := ⟨tX9_text_0_ok (82, .invokevirtual 201, 3) (List.mem_of_getElem? (i := 41) rfl), rfl⟩
theorem pX9_text_85 : At cX9_text 85 (.iconst 1) 1 86 := ⟨tX9_text_0_ok (85, .iconst 1, 1) (List.mem_of_getElem? (i := 42) rfl), rfl⟩
theorem pX9_text_86 : At cX9_text 86 (.ireturn) 1 87 := ⟨tX9_text_0_ok (86, .ireturn, 1) (List.mem_of_getElem? (i := 43) rfl), rfl⟩
def tX9_law_0 : List (Nat × Instr × Nat) := [(0, .iload_n 1, 1), (1, .invokestatic 180, 3), (4, .ifCond .ne 9, 3), (7, .aload_n 0, 1), (8, .iconst 1, 1), (9, .invokevirtual 80, 3), (12, .ireturn, 1), (13, .aload_n 0, 1), (14, .getfield 19, 3), (17, .iload_n 1, 1), (18, .invokevirtual 187, 3), (21, .iload_n 2, 1), (22, .iload_n 3, 1), (23, .iload 4, 2), (25, .invokevirtual 204, 3), (28, .ireturn, 1)]
theorem tX9_law_0_ok : ∀ q ∈ tX9_law_0, decode cX9_law q.1 = .ok (q.2.1, q.2.2) := by decide +kernel
theorem pX9_law_0 : At cX9_law 0 (.iload_n 1) 1 1 := ⟨tX9_law_0_ok (0, .iload_n 1, 1) (List.mem_of_getElem? (i := 0) rfl), rfl⟩
theorem pX9_law_1 : At cX9_law 1 (.invokestatic 180) 3 4 := ⟨tX9_law_0_ok (1, .invokestatic 180, 3) (List.mem_of_getElem? (i := 1) rfl), rfl⟩
theorem pX9_law_4 : Bt cX9_law 4 (.ifCond .ne 9) 9 13 7 := ⟨tX9_law_0_ok (4, .ifCond .ne 9, 3) (List.mem_of_getElem? (i := 2) rfl), by decide, rfl⟩
theorem pX9_law_7 : At cX9_law 7 (.aload_n 0) 1 8 := ⟨tX9_law_0_ok (7, .aload_n 0, 1) (List.mem_of_getElem? (i := 3) rfl), rfl⟩
theorem pX9_law_8 : At cX9_law 8 (.iconst 1) 1 9 := ⟨tX9_law_0_ok (8, .iconst 1, 1) (List.mem_of_getElem? (i := 4) rfl), rfl⟩
theorem pX9_law_9 : At cX9_law 9 (.invokevirtual 80) 3 12 := ⟨tX9_law_0_ok (9, .invokevirtual 80, 3) (List.mem_of_getElem? (i := 5) rfl), rfl⟩
theorem pX9_law_12 : At cX9_law 12 (.ireturn) 1 13 := ⟨tX9_law_0_ok (12, .ireturn, 1) (List.mem_of_getElem? (i := 6) rfl), rfl⟩
theorem pX9_law_13 : At cX9_law 13 (.aload_n 0) 1 14 := ⟨tX9_law_0_ok (13, .aload_n 0, 1) (List.mem_of_getElem? (i := 7) rfl), rfl⟩
theorem pX9_law_14 : At cX9_law 14 (.getfield 19) 3 17 := ⟨tX9_law_0_ok (14, .getfield 19, 3) (List.mem_of_getElem? (i := 8) rfl), rfl⟩
theorem pX9_law_17 : At cX9_law 17 (.iload_n 1) 1 18 := ⟨tX9_law_0_ok (17, .iload_n 1, 1) (List.mem_of_getElem? (i := 9) rfl), rfl⟩
theorem pX9_law_18 : At cX9_law 18 (.invokevirtual 187) 3 21 := ⟨tX9_law_0_ok (18, .invokevirtual 187, 3) (List.mem_of_getElem? (i := 10) rfl), rfl⟩
theorem pX9_law_21 : At cX9_law 21 (.iload_n 2) 1 22 := ⟨tX9_law_0_ok (21, .iload_n 2, 1) (List.mem_of_getElem? (i := 11) rfl), rfl⟩
theorem pX9_law_22 : At cX9_law 22 (.iload_n 3) 1 23 := ⟨tX9_law_0_ok (22, .iload_n 3, 1) (List.mem_of_getElem? (i := 12) rfl), rfl⟩
theorem pX9_law_23 : At cX9_law 23 (.iload 4) 2 25 := ⟨tX9_law_0_ok (23, .iload 4, 2) (List.mem_of_getElem? (i := 13) rfl), rfl⟩
theorem pX9_law_25 : At cX9_law 25 (.invokevirtual 204) 3 28 := ⟨tX9_law_0_ok (25, .invokevirtual 204, 3) (List.mem_of_getElem? (i := 14) rfl), rfl⟩
theorem pX9_law_28 : At cX9_law 28 (.ireturn) 1 29 := ⟨tX9_law_0_ok (28, .ireturn, 1) (List.mem_of_getElem? (i := 15) rfl), rfl⟩
def tX9_howManyRest_0 : List (Nat × Instr × Nat) := [(0, .iconst 0, 1), (1, .istore_n 1, 1), (2, .iconst 0, 1), (3, .istore_n 2, 1), (4, .iload_n 2, 1), (5, .aload_n 0, 1), (6, .getfield 10, 3), (9, .getfield 84, 3), (12, .if_icmp .ge 36, 3), (15, .iload_n 1, 1), (16, .aload_n 0, 1), (17, .getfield 37, 3), (20, .aload_n 0, 1), (21, .getfield 10, 3), (24, .getfield 88, 3), (27, .iload_n 2, 1), (28, .aaload, 1), (29, .invokevirtual 140, 3), (32, .ifCond .eq 7, 3), (35, .iconst 1, 1), (36, .goto 4, 3), (39, .iconst 0, 1), (40, .iadd, 1), (41, .istore_n 1, 1), (42, .iinc 2 1, 3), (45, .goto (-41), 3), (48, .iload_n 1, 1), (49, .ireturn, 1)]
theorem tX9_howManyRest_0_ok : ∀ q ∈ tX9_howManyRest_0, decode cX9_howManyRest q.1 = .ok (q.2.1, q.2.2) := by decide +kernel
theorem pX9_howManyRest_0 : At cX9_howManyRest 0 (.iconst 0) 1 1 := ⟨tX9_howManyRest_0_ok (0, .iconst 0, 1) (List.mem_of_getElem? (i := 0) rfl), rfl⟩
theorem pX9_howManyRest_1 : At cX9_howManyRest 1 (.istore_n 1) 1 2 := ⟨tX9_howManyRest_0_ok (1, .istore_n 1, 1) (List.mem_of_getElem? (i := 1) rfl), rfl⟩
theorem pX9_howManyRest_2 : At cX9_howManyRest 2 (.iconst 0) 1 3 := ⟨tX9_howManyRest_0_ok (2, .iconst 0, 1) (List.mem_of_getElem? (i := 2) rfl), rfl⟩
theorem pX9_howManyRest_3 : At cX9_howManyRest 3 (.istore_n 2) 1 4 := ⟨tX9_howManyRest_0_ok (3, .istore_n 2, 1) (List.mem_of_getElem? (i := 3) rfl), rfl⟩
theorem pX9_howManyRest_4 : At cX9_howManyRest 4 (.iload_n 2) 1 5 := ⟨tX9_howManyRest_0_ok (4, .iload_n 2, 1) (List.mem_of_getElem? (i := 4) rfl), rfl⟩
theorem pX9_howManyRest_5 : At cX9_howManyRest 5 (.aload_n 0) 1 6 := ⟨tX9_howManyRest_0_ok (5, .aload_n 0, 1) (List.mem_of_getElem? (i := 5) rfl), rfl⟩
theorem pX9_howManyRest_6 : At cX9_howManyRest 6 (.getfield 10) 3 9 := ⟨tX9_howManyRest_0_ok (6, .getfield 10, 3) (List.mem_of_getElem? (i := 6) rfl), rfl⟩
theorem pX9_howManyRest_9 : At cX9_howManyRest 9 (.getfield 84) 3 12 := ⟨tX9_howManyRest_0_ok (9, .getfield 84, 3) (List.mem_of_getElem? (i := 7) rfl), rfl⟩
theorem pX9_howManyRest_12 : Bt cX9_howManyRest 12 (.if_icmp .ge 36) 36 48 15 := ⟨tX9_howManyRest_0_ok (12, .if_icmp .ge 36, 3) (List.mem_of_getElem? (i := 8) rfl), by decide, rfl⟩
theorem pX9_howManyRest_15 : At cX9_howManyRest 15 (.iload_n 1) 1 16 := ⟨tX9_howManyRest_0_ok (15, .iload_n 1, 1) (List.mem_of_getElem? (i := 9) rfl), rfl⟩
theorem pX9_howManyRest_16 : At cX9_howManyRest 16 (.aload_n 0) 1 17 := ⟨tX9_howManyRest_0_ok (16, .aload_n 0, 1) (List.mem_of_getElem? (i := 10) rfl), rfl⟩
theorem pX9_howManyRest_17 : At cX9_howManyRest 17 (.getfield 37) 3 20 := ⟨tX9_howManyRest_0_ok (17, .getfield 37, 3) (List.mem_of_getElem? (i := 11) rfl), rfl⟩
theorem pX9_howManyRest_20 : At cX9_howManyRest 20 (.aload_n 0) 1 21 := ⟨tX9_howManyRest_0_ok (20, .aload_n 0, 1) (List.mem_of_getElem? (i := 12) rfl), rfl⟩
theorem pX9_howManyRest_21 : At cX9_howManyRest 21 (.getfield 10) 3 24 := ⟨tX9_howManyRest_0_ok (21, .getfield 10, 3) (List.mem_of_getElem? (i := 13) rfl), rfl⟩
theorem pX9_howManyRest_24 : At cX9_howManyRest 24 (.getfield 88) 3 27 := ⟨tX9_howManyRest_0_ok (24, .getfield 88, 3) (List.mem_of_getElem? (i := 14) rfl), rfl⟩
theorem pX9_howManyRest_27 : At cX9_howManyRest 27 (.iload_n 2) 1 28 := ⟨tX9_howManyRest_0_ok (27, .iload_n 2, 1) (List.mem_of_getElem? (i := 15) rfl), rfl⟩
theorem pX9_howManyRest_28 : At cX9_howManyRest 28 (.aaload) 1 29 := ⟨tX9_howManyRest_0_ok (28, .aaload, 1) (List.mem_of_getElem? (i := 16) rfl), rfl⟩
theorem pX9_howManyRest_29 : At cX9_howManyRest 29 (.invokevirtual 140) 3 32 := ⟨tX9_howManyRest_0_ok (29, .invokevirtual 140, 3) (List.mem_of_getElem? (i := 17) rfl), rfl⟩
theorem pX9_howManyRest_32 : Bt cX9_howManyRest 32 (.ifCond .eq 7) 7 39 35 := ⟨tX9_howManyRest_0_ok (32, .ifCond .eq 7, 3) (List.mem_of_getElem? (i := 18) rfl), by decide, rfl⟩
theorem pX9_howManyRest_35 : At cX9_howManyRest 35 (.iconst 1) 1 36 := ⟨tX9_howManyRest_0_ok (35, .iconst 1, 1) (List.mem_of_getElem? (i := 19) rfl), rfl⟩
theorem pX9_howManyRest_36 : Bt cX9_howManyRest 36 (.goto 4) 4 40 39 := ⟨tX9_howManyRest_0_ok (36, .goto 4, 3) (List.mem_of_getElem? (i := 20) rfl), by decide, rfl⟩
theorem pX9_howManyRest_39 : At cX9_howManyRest 39 (.iconst 0) 1 40 := ⟨tX9_howManyRest_0_ok (39, .iconst 0, 1) (List.mem_of_getElem? (i := 21) rfl), rfl⟩
theorem pX9_howManyRest_40 : At cX9_howManyRest 40 (.iadd) 1 41 := ⟨tX9_howManyRest_0_ok (40, .iadd, 1) (List.mem_of_getElem? (i := 22) rfl), rfl⟩
theorem pX9_howManyRest_41 : At cX9_howManyRest 41 (.istore_n 1) 1 42 := ⟨tX9_howManyRest_0_ok (41, .istore_n 1, 1) (List.mem_of_getElem? (i := 23) rfl), rfl⟩
theorem pX9_howManyRest_42 : At cX9_howManyRest 42 (.iinc 2 1) 3 45 := ⟨tX9_howManyRest_0_ok (42, .iinc 2 1, 3) (List.mem_of_getElem? (i := 24) rfl), rfl⟩
theorem pX9_howManyRest_45 : Bt cX9_howManyRest 45 (.goto (-41)) (-41) 4 48 := ⟨tX9_howManyRest_0_ok (45, .goto (-41), 3) (List.mem_of_getElem? (i := 25) rfl), by decide, rfl⟩
theorem pX9_howManyRest_48 : At cX9_howManyRest 48 (.iload_n 1) 1 49 := ⟨tX9_howManyRest_0_ok (48, .iload_n 1, 1) (List.mem_of_getElem? (i := 26) rfl), rfl⟩
theorem pX9_howManyRest_49 : At cX9_howManyRest 49 (.ireturn) 1 50 := ⟨tX9_howManyRest_0_ok (49, .ireturn, 1) (List.mem_of_getElem? (i := 27) rfl), rfl⟩
def tX9_steps_0 : List (Nat × Instr × Nat) := [(0, .iload_n 1, 1), (1, .iconst 1, 1), (2, .sipush 200, 3), (5, .invokestatic 104, 3), (8, .ifCond .ne 9, 3), (11, .aload_n 0, 1), (12, .iconst 1, 1), (13, .invokevirtual 80, 3), (16, .ireturn, 1), (17, .aload_n 0, 1), (18, .getfield 10, 3), (21, .getfield 166, 3), (24, .iload_n 1, 1), (25, .iadd, 1), (26, .sipush 9999, 3), (29, .if_icmp .le 9, 3), (32, .aload_n 0, 1), (33, .iconst 3, 1), (34, .invokevirtual 80, 3), (37, .ireturn, 1), (38, .iconst 0, 1), (39, .istore_n 2, 1), (40, .iload_n 2, 1), (41, .iload_n 1, 1), (42, .if_icmp .ge 20, 3), (45, .aload_n 0, 1), (46, .getfield 10, 3), (49, .aload_n 0, 1), (50, .getfield 19, 3), (53, .invokevirtual 207, 3), (56, .iinc 2 1, 3), (59, .goto (-19), 3), (62, .aload_n 0, 1), (63, .invokevirtual 210, 3), (66, .ireturn, 1)]
theorem tX9_steps_0_ok : ∀ q ∈ tX9_steps_0, decode cX9_steps q.1 = .ok (q.2.1, q.2.2) := by decide +kernel
theorem pX9_steps_0 : At cX9_steps 0 (.iload_n 1) 1 1 := ⟨tX9_steps_0_ok (0, .iload_n 1, 1) (List.mem_of_getElem? (i := 0) rfl), rfl⟩
theorem pX9_steps_1 : At cX9_steps 1 (.iconst 1) 1 2 := ⟨tX9_steps_0_ok (1, .iconst 1, 1) (List.mem_of_getElem? (i := 1) rfl), rfl⟩
theorem pX9_steps_2 : At cX9_steps 2 (.sipush 200) 3 5 := ⟨tX9_steps_0_ok (2, .sipush 200, 3) (List.mem_of_getElem? (i := 2) rfl), rfl⟩
theorem pX9_steps_5 : At cX9_steps 5 (.invokestatic 104) 3 8 := ⟨tX9_steps_0_ok (5, .invokestatic 104, 3) (List.mem_of_getElem? (i := 3) rfl), rfl⟩
theorem pX9_steps_8 : Bt cX9_steps 8 (.ifCond .ne 9) 9 17 11 := ⟨tX9_steps_0_ok (8, .ifCond .ne 9, 3) (List.mem_of_getElem? (i := 4) rfl), by decide, rfl⟩
theorem pX9_steps_11 : At cX9_steps 11 (.aload_n 0) 1 12 := ⟨tX9_steps_0_ok (11, .aload_n 0, 1) (List.mem_of_getElem? (i := 5) rfl), rfl⟩
theorem pX9_steps_12 : At cX9_steps 12 (.iconst 1) 1 13 := ⟨tX9_steps_0_ok (12, .iconst 1, 1) (List.mem_of_getElem? (i := 6) rfl), rfl⟩
theorem pX9_steps_13 : At cX9_steps 13 (.invokevirtual 80) 3 16 := ⟨tX9_steps_0_ok (13, .invokevirtual 80, 3) (List.mem_of_getElem? (i := 7) rfl), rfl⟩
theorem pX9_steps_16 : At cX9_steps 16 (.ireturn) 1 17 := ⟨tX9_steps_0_ok (16, .ireturn, 1) (List.mem_of_getElem? (i := 8) rfl), rfl⟩
theorem pX9_steps_17 : At cX9_steps 17 (.aload_n 0) 1 18 := ⟨tX9_steps_0_ok (17, .aload_n 0, 1) (List.mem_of_getElem? (i := 9) rfl), rfl⟩
theorem pX9_steps_18 : At cX9_steps 18 (.getfield 10) 3 21 := ⟨tX9_steps_0_ok (18, .getfield 10, 3) (List.mem_of_getElem? (i := 10) rfl), rfl⟩
theorem pX9_steps_21 : At cX9_steps 21 (.getfield 166) 3 24 := ⟨tX9_steps_0_ok (21, .getfield 166, 3) (List.mem_of_getElem? (i := 11) rfl), rfl⟩
theorem pX9_steps_24 : At cX9_steps 24 (.iload_n 1) 1 25 := ⟨tX9_steps_0_ok (24, .iload_n 1, 1) (List.mem_of_getElem? (i := 12) rfl), rfl⟩
theorem pX9_steps_25 : At cX9_steps 25 (.iadd) 1 26 := ⟨tX9_steps_0_ok (25, .iadd, 1) (List.mem_of_getElem? (i := 13) rfl), rfl⟩
theorem pX9_steps_26 : At cX9_steps 26 (.sipush 9999) 3 29 := ⟨tX9_steps_0_ok (26, .sipush 9999, 3) (List.mem_of_getElem? (i := 14) rfl), rfl⟩
theorem pX9_steps_29 : Bt cX9_steps 29 (.if_icmp .le 9) 9 38 32 := ⟨tX9_steps_0_ok (29, .if_icmp .le 9, 3) (List.mem_of_getElem? (i := 15) rfl), by decide, rfl⟩
theorem pX9_steps_32 : At cX9_steps 32 (.aload_n 0) 1 33 := ⟨tX9_steps_0_ok (32, .aload_n 0, 1) (List.mem_of_getElem? (i := 16) rfl), rfl⟩
theorem pX9_steps_33 : At cX9_steps 33 (.iconst 3) 1 34 := ⟨tX9_steps_0_ok (33, .iconst 3, 1) (List.mem_of_getElem? (i := 17) rfl), rfl⟩
theorem pX9_steps_34 : At cX9_steps 34 (.invokevirtual 80) 3 37 := ⟨tX9_steps_0_ok (34, .invokevirtual 80, 3) (List.mem_of_getElem? (i := 18) rfl), rfl⟩
theorem pX9_steps_37 : At cX9_steps 37 (.ireturn) 1 38 := ⟨tX9_steps_0_ok (37, .ireturn, 1) (List.mem_of_getElem? (i := 19) rfl), rfl⟩
theorem pX9_steps_38 : At cX9_steps 38 (.iconst 0) 1 39 := ⟨tX9_steps_0_ok (38, .iconst 0, 1) (List.mem_of_getElem? (i := 20) rfl), rfl⟩
theorem pX9_steps_39 : At cX9_steps 39 (.istore_n 2) 1 40 := ⟨tX9_steps_0_ok (39, .istore_n 2, 1) (List.mem_of_getElem? (i := 21) rfl), rfl⟩
theorem pX9_steps_40 : At cX9_steps 40 (.iload_n 2) 1 41 := ⟨tX9_steps_0_ok (40, .iload_n 2, 1) (List.mem_of_getElem? (i := 22) rfl), rfl⟩
theorem pX9_steps_41 : At cX9_steps 41 (.iload_n 1) 1 42 := ⟨tX9_steps_0_ok (41, .iload_n 1, 1) (List.mem_of_getElem? (i := 23) rfl), rfl⟩
theorem pX9_steps_42 : Bt cX9_steps 42 (.if_icmp .ge 20) 20 62 45 := ⟨tX9_steps_0_ok (42, .if_icmp .ge 20, 3) (List.mem_of_getElem? (i := 24) rfl), by decide, rfl⟩
theorem pX9_steps_45 : At cX9_steps 45 (.aload_n 0) 1 46 := ⟨tX9_steps_0_ok (45, .aload_n 0, 1) (List.mem_of_getElem? (i := 25) rfl), rfl⟩
theorem pX9_steps_46 : At cX9_steps 46 (.getfield 10) 3 49 := ⟨tX9_steps_0_ok (46, .getfield 10, 3) (List.mem_of_getElem? (i := 26) rfl), rfl⟩
theorem pX9_steps_49 : At cX9_steps 49 (.aload_n 0) 1 50 := ⟨tX9_steps_0_ok (49, .aload_n 0, 1) (List.mem_of_getElem? (i := 27) rfl), rfl⟩
theorem pX9_steps_50 : At cX9_steps 50 (.getfield 19) 3 53 := ⟨tX9_steps_0_ok (50, .getfield 19, 3) (List.mem_of_getElem? (i := 28) rfl), rfl⟩
theorem pX9_steps_53 : At cX9_steps 53 (.invokevirtual 207) 3 56 := ⟨tX9_steps_0_ok (53, .invokevirtual 207, 3) (List.mem_of_getElem? (i := 29) rfl), rfl⟩
theorem pX9_steps_56 : At cX9_steps 56 (.iinc 2 1) 3 59 := ⟨tX9_steps_0_ok (56, .iinc 2 1, 3) (List.mem_of_getElem? (i := 30) rfl), rfl⟩
theorem pX9_steps_59 : Bt cX9_steps 59 (.goto (-19)) (-19) 40 62 := ⟨tX9_steps_0_ok (59, .goto (-19), 3) (List.mem_of_getElem? (i := 31) rfl), by decide, rfl⟩
theorem pX9_steps_62 : At cX9_steps 62 (.aload_n 0) 1 63 := ⟨tX9_steps_0_ok (62, .aload_n 0, 1) (List.mem_of_getElem? (i := 32) rfl), rfl⟩
theorem pX9_steps_63 : At cX9_steps 63 (.invokevirtual 210) 3 66 := ⟨tX9_steps_0_ok (63, .invokevirtual 210, 3) (List.mem_of_getElem? (i := 33) rfl), rfl⟩
theorem pX9_steps_66 : At cX9_steps 66 (.ireturn) 1 67 := ⟨tX9_steps_0_ok (66, .ireturn, 1) (List.mem_of_getElem? (i := 34) rfl), rfl⟩
def tX9_loose_0 : List (Nat × Instr × Nat) := [(0, .iload_n 1, 1), (1, .iconst 1, 1), (2, .sipush 200, 3), (5, .invokestatic 104, 3), (8, .ifCond .ne 9, 3), (11, .aload_n 0, 1), (12, .iconst 1, 1), (13, .invokevirtual 80, 3), (16, .ireturn, 1), (17, .aload_n 0, 1), (18, .getfield 10, 3), (21, .getfield 166, 3), (24, .iload_n 1, 1), (25, .iadd, 1), (26, .sipush 9999, 3), (29, .if_icmp .le 9, 3), (32, .aload_n 0, 1), (33, .iconst 3, 1), (34, .invokevirtual 80, 3), (37, .ireturn, 1), (38, .iconst 0, 1), (39, .istore_n 2, 1), (40, .iload_n 2, 1), (41, .iload_n 1, 1), (42, .if_icmp .ge 31, 3), (45, .aload_n 0, 1), (46, .getfield 10, 3), (49, .aload_n 0, 1), (50, .getfield 19, 3), (53, .invokevirtual 213, 3), (56, .aload_n 0, 1), (57, .getfield 10, 3), (60, .aload_n 0, 1), (61, .getfield 19, 3), (64, .invokevirtual 207, 3), (67, .iinc 2 1, 3), (70, .goto (-30), 3), (73, .aload_n 0, 1), (74, .invokevirtual 210, 3), (77, .ireturn, 1)]
theorem tX9_loose_0_ok : ∀ q ∈ tX9_loose_0, decode cX9_loose q.1 = .ok (q.2.1, q.2.2) := by decide +kernel
theorem pX9_loose_0 : At cX9_loose 0 (.iload_n 1) 1 1 := ⟨tX9_loose_0_ok (0, .iload_n 1, 1) (List.mem_of_getElem? (i := 0) rfl), rfl⟩
theorem pX9_loose_1 : At cX9_loose 1 (.iconst 1) 1 2 := ⟨tX9_loose_0_ok (1, .iconst 1, 1) (List.mem_of_getElem? (i := 1) rfl), rfl⟩
theorem pX9_loose_2 : At cX9_loose 2 (.sipush 200) 3 5 := ⟨tX9_loose_0_ok (2, .sipush 200, 3) (List.mem_of_getElem? (i := 2) rfl), rfl⟩
theorem pX9_loose_5 : At cX9_loose 5 (.invokestatic 104) 3 8 := ⟨tX9_loose_0_ok (5, .invokestatic 104, 3) (List.mem_of_getElem? (i := 3) rfl), rfl⟩
theorem pX9_loose_8 : Bt cX9_loose 8 (.ifCond .ne 9) 9 17 11 := ⟨tX9_loose_0_ok (8, .ifCond .ne 9, 3) (List.mem_of_getElem? (i := 4) rfl), by decide, rfl⟩
theorem pX9_loose_11 : At cX9_loose 11 (.aload_n 0) 1 12 := ⟨tX9_loose_0_ok (11, .aload_n 0, 1) (List.mem_of_getElem? (i := 5) rfl), rfl⟩
theorem pX9_loose_12 : At cX9_loose 12 (.iconst 1) 1 13 := ⟨tX9_loose_0_ok (12, .iconst 1, 1) (List.mem_of_getElem? (i := 6) rfl), rfl⟩
theorem pX9_loose_13 : At cX9_loose 13 (.invokevirtual 80) 3 16 := ⟨tX9_loose_0_ok (13, .invokevirtual 80, 3) (List.mem_of_getElem? (i := 7) rfl), rfl⟩
theorem pX9_loose_16 : At cX9_loose 16 (.ireturn) 1 17 := ⟨tX9_loose_0_ok (16, .ireturn, 1) (List.mem_of_getElem? (i := 8) rfl), rfl⟩
theorem pX9_loose_17 : At cX9_loose 17 (.aload_n 0) 1 18 := ⟨tX9_loose_0_ok (17, .aload_n 0, 1) (List.mem_of_getElem? (i := 9) rfl), rfl⟩
theorem pX9_loose_18 : At cX9_loose 18 (.getfield 10) 3 21 := ⟨tX9_loose_0_ok (18, .getfield 10, 3) (List.mem_of_getElem? (i := 10) rfl), rfl⟩
theorem pX9_loose_21 : At cX9_loose 21 (.getfield 166) 3 24 := ⟨tX9_loose_0_ok (21, .getfield 166, 3) (List.mem_of_getElem? (i := 11) rfl), rfl⟩
theorem pX9_loose_24 : At cX9_loose 24 (.iload_n 1) 1 25 := ⟨tX9_loose_0_ok (24, .iload_n 1, 1) (List.mem_of_getElem? (i := 12) rfl), rfl⟩
theorem pX9_loose_25 : At cX9_loose 25 (.iadd) 1 26 := ⟨tX9_loose_0_ok (25, .iadd, 1) (List.mem_of_getElem? (i := 13) rfl), rfl⟩
theorem pX9_loose_26 : At cX9_loose 26 (.sipush 9999) 3 29 := ⟨tX9_loose_0_ok (26, .sipush 9999, 3) (List.mem_of_getElem? (i := 14) rfl), rfl⟩
theorem pX9_loose_29 : Bt cX9_loose 29 (.if_icmp .le 9) 9 38 32 := ⟨tX9_loose_0_ok (29, .if_icmp .le 9, 3) (List.mem_of_getElem? (i := 15) rfl), by decide, rfl⟩
theorem pX9_loose_32 : At cX9_loose 32 (.aload_n 0) 1 33 := ⟨tX9_loose_0_ok (32, .aload_n 0, 1) (List.mem_of_getElem? (i := 16) rfl), rfl⟩
theorem pX9_loose_33 : At cX9_loose 33 (.iconst 3) 1 34 := ⟨tX9_loose_0_ok (33, .iconst 3, 1) (List.mem_of_getElem? (i := 17) rfl), rfl⟩
theorem pX9_loose_34 : At cX9_loose 34 (.invokevirtual 80) 3 37 := ⟨tX9_loose_0_ok (34, .invokevirtual 80, 3) (List.mem_of_getElem? (i := 18) rfl), rfl⟩
theorem pX9_loose_37 : At cX9_loose 37 (.ireturn) 1 38 := ⟨tX9_loose_0_ok (37, .ireturn, 1) (List.mem_of_getElem? (i := 19) rfl), rfl⟩
theorem pX9_loose_38 : At cX9_loose 38 (.iconst 0) 1 39 := ⟨tX9_loose_0_ok (38, .iconst 0, 1) (List.mem_of_getElem? (i := 20) rfl), rfl⟩
theorem pX9_loose_39 : At cX9_loose 39 (.istore_n 2) 1 40 := ⟨tX9_loose_0_ok (39, .istore_n 2, 1) (List.mem_of_getElem? (i := 21) rfl), rfl⟩
theorem pX9_loose_40 : At cX9_loose 40 (.iload_n 2) 1 41 := ⟨tX9_loose_0_ok (40, .iload_n 2, 1) (List.mem_of_getElem? (i := 22) rfl), rfl⟩
theorem pX9_loose_41 : At cX9_loose 41 (.iload_n 1) 1 42 := ⟨tX9_loose_0_ok (41, .iload_n 1, 1) (List.mem_of_getElem? (i := 23) rfl), rfl⟩
theorem pX9_loose_42 : Bt cX9_loose 42 (.if_icmp .ge 31) 31 73 45 := ⟨tX9_loose_0_ok (42, .if_icmp .ge 31, 3) (List.mem_of_getElem? (i := 24) rfl), by decide, rfl⟩
theorem pX9_loose_45 : At cX9_loose 45 (.aload_n 0) 1 46 := ⟨tX9_loose_0_ok (45, .aload_n 0, 1) (List.mem_of_getElem? (i := 25) rfl), rfl⟩
theorem pX9_loose_46 : At cX9_loose 46 (.getfield 10) 3 49 := ⟨tX9_loose_0_ok (46, .getfield 10, 3) (List.mem_of_getElem? (i := 26) rfl), rfl⟩
theorem pX9_loose_49 : At cX9_loose 49 (.aload_n 0) 1 50 := ⟨tX9_loose_0_ok (49, .aload_n 0, 1) (List.mem_of_getElem? (i := 27) rfl), rfl⟩
theorem pX9_loose_50 : At cX9_loose 50 (.getfield 19) 3 53 := ⟨tX9_loose_0_ok (50, .getfield 19, 3) (List.mem_of_getElem? (i := 28) rfl), rfl⟩
theorem pX9_loose_53 : At cX9_loose 53 (.invokevirtual 213) 3 56 := ⟨tX9_loose_0_ok (53, .invokevirtual 213, 3) (List.mem_of_getElem? (i := 29) rfl), rfl⟩
theorem pX9_loose_56 : At cX9_loose 56 (.aload_n 0) 1 57 := ⟨tX9_loose_0_ok (56, .aload_n 0, 1) (List.mem_of_getElem? (i := 30) rfl), rfl⟩
theorem pX9_loose_57 : At cX9_loose 57 (.getfield 10) 3 60 := ⟨tX9_loose_0_ok (57, .getfield 10, 3) (List.mem_of_getElem? (i := 31) rfl), rfl⟩
theorem pX9_loose_60 : At cX9_loose 60 (.aload_n 0) 1 61 := ⟨tX9_loose_0_ok (60, .aload_n 0, 1) (List.mem_of_getElem? (i := 32) rfl), rfl⟩
theorem pX9_loose_61 : At cX9_loose 61 (.getfield 19) 3 64 := ⟨tX9_loose_0_ok (61, .getfield 19, 3) (List.mem_of_getElem? (i := 33) rfl), rfl⟩
theorem pX9_loose_64 : At cX9_loose 64 (.invokevirtual 207) 3 67 := ⟨tX9_loose_0_ok (64, .invokevirtual 207, 3) (List.mem_of_getElem? (i := 34) rfl), rfl⟩
theorem pX9_loose_67 : At cX9_loose 67 (.iinc 2 1) 3 70 := ⟨tX9_loose_0_ok (67, .iinc 2 1, 3) (List.mem_of_getElem? (i := 35) rfl), rfl⟩
theorem pX9_loose_70 : Bt cX9_loose 70 (.goto (-30)) (-30) 40 73 := ⟨tX9_loose_0_ok (70, .goto (-30), 3) (List.mem_of_getElem? (i := 36) rfl), by decide, rfl⟩
theorem pX9_loose_73 : At cX9_loose 73 (.aload_n 0) 1 74 := ⟨tX9_loose_0_ok (73, .aload_n 0, 1) (List.mem_of_getElem? (i := 37) rfl), rfl⟩
theorem pX9_loose_74 : At cX9_loose 74 (.invokevirtual 210) 3 77 := ⟨tX9_loose_0_ok (74, .invokevirtual 210, 3) (List.mem_of_getElem? (i := 38) rfl), rfl⟩
theorem pX9_loose_77 : At cX9_loose 77 (.ireturn) 1 78 := ⟨tX9_loose_0_ok (77, .ireturn, 1) (List.mem_of_getElem? (i := 39) rfl), rfl⟩
def tX9_then_0 : List (Nat × Instr × Nat) := [(0, .iload_n 1, 1), (1, .iconst 0, 1), (2, .sipush 200, 3), (5, .invokestatic 104, 3), (8, .ifCond .eq 20, 3), (11, .aload_n 0, 1), (12, .iload_n 2, 1), (13, .invokevirtual 101, 3), (16, .ifCond .eq 12, 3), (19, .iload_n 3, 1), (20, .iconst 0, 1), (21, .iconst 2, 1), (22, .invokestatic 104, 3), (25, .ifCond .ne 9, 3), (28, .aload_n 0, 1), (29, .iconst 1, 1), (30, .invokevirtual 80, 3), (33, .ireturn, 1), (34, .aload_n 0, 1), (35, .getfield 29, 3), (38, .aload_n 0, 1), (39, .getfield 10, 3), (42, .invokevirtual 216, 3), (45, .iconst 0, 1), (46, .istore 4, 2), (48, .iload 4, 2), (50, .iload_n 1, 1), (51, .if_icmp .ge 20, 3), (54, .aload_n 0, 1), (55, .getfield 29, 3), (58, .aload_n 0, 1), (59, .getfield 19, 3), (62, .invokevirtual 207, 3), (65, .iinc 4 1, 3), (68, .goto (-20), 3), (71, .iload_n 3, 1), (72, .iconst 2, 1), (73, .if_icmp .ne 11, 3), (76, .aload_n 0, 1), (77, .getfield 29, 3), (80, .getfield 220, 3), (83, .ireturn, 1), (84, .iload_n 3, 1), (85, .ifCond .ne 18, 3), (88, .aload_n 0, 1), (89, .getfield 29, 3), (92, .getfield 88, 3), (95, .iload_n 2, 1), (96, .aaload, 1), (97, .getfield 114, 3), (100, .goto 15, 3), (103, .aload_n 0, 1), (104, .getfield 29, 3), (107, .getfield 88, 3), (110, .iload_n 2, 1), (111, .aaload, 1), (112, .getfield 117, 3), (115, .ireturn, 1)]
theorem tX9_then_0_ok : ∀ q ∈ tX9_then_0, decode cX9_then q.1 = .ok (q.2.1, q.2.2) := by decide +kernel
theorem pX9_then_0 : At cX9_then 0 (.iload_n 1) 1 1 := ⟨tX9_then_0_ok (0, .iload_n 1, 1) (List.mem_of_getElem? (i := 0) rfl), rfl⟩
theorem pX9_then_1 : At cX9_then 1 (.iconst 0) 1 2 := ⟨tX9_then_0_ok (1, .iconst 0, 1) (List.mem_of_getElem? (i := 1) rfl), rfl⟩
theorem pX9_then_2 : At cX9_then 2 (.sipush 200) 3 5 := ⟨tX9_then_0_ok (2, .sipush 200, 3) (List.mem_of_getElem? (i := 2) rfl), rfl⟩
theorem pX9_then_5 : At cX9_then 5 (.invokestatic 104) 3 8 := ⟨tX9_then_0_ok (5, .invokestatic 104, 3) (List.mem_of_getElem? (i := 3) rfl), rfl⟩
theorem pX9_then_8 : Bt cX9_then 8 (.ifCond .eq 20) 20 28 11 := ⟨tX9_then_0_ok (8, .ifCond .eq 20, 3) (List.mem_of_getElem? (i := 4) rfl), by decide, rfl⟩
theorem pX9_then_11 : At cX9_then 11 (.aload_n 0) 1 12 := ⟨tX9_then_0_ok (11, .aload_n 0, 1) (List.mem_of_getElem? (i := 5) rfl), rfl⟩
theorem pX9_then_12 : At cX9_then 12 (.iload_n 2) 1 13 := ⟨tX9_then_0_ok (12, .iload_n 2, 1) (List.mem_of_getElem? (i := 6) rfl), rfl⟩
theorem pX9_then_13 : At cX9_then 13 (.invokevirtual 101) 3 16 := ⟨tX9_then_0_ok (13, .invokevirtual 101, 3) (List.mem_of_getElem? (i := 7) rfl), rfl⟩
theorem pX9_then_16 : Bt cX9_then 16 (.ifCond .eq 12) 12 28 19 := ⟨tX9_then_0_ok (16, .ifCond .eq 12, 3) (List.mem_of_getElem? (i := 8) rfl), by decide, rfl⟩
theorem pX9_then_19 : At cX9_then 19 (.iload_n 3) 1 20 := ⟨tX9_then_0_ok (19, .iload_n 3, 1) (List.mem_of_getElem? (i := 9) rfl), rfl⟩
theorem pX9_then_20 : At cX9_then 20 (.iconst 0) 1 21 := ⟨tX9_then_0_ok (20, .iconst 0, 1) (List.mem_of_getElem? (i := 10) rfl), rfl⟩
theorem pX9_then_21 : At cX9_then 21 (.iconst 2) 1 22 := ⟨tX9_then_0_ok (21, .iconst 2, 1) (List.mem_of_getElem? (i := 11) rfl), rfl⟩
theorem pX9_then_22 : At cX9_then 22 (.invokestatic 104) 3 25 := ⟨tX9_then_0_ok (22, .invokestatic 104, 3) (List.mem_of_getElem? (i := 12) rfl), rfl⟩
theorem pX9_then_25 : Bt cX9_then 25 (.ifCond .ne 9) 9 34 28 := ⟨tX9_then_0_ok (25, .ifCond .ne 9, 3) (List.mem_of_getElem? (i := 13) rfl), by decide, rfl⟩
theorem pX9_then_28 : At cX9_then 28 (.aload_n 0) 1 29 := ⟨tX9_then_0_ok (28, .aload_n 0, 1) (List.mem_of_getElem? (i := 14) rfl), rfl⟩
theorem pX9_then_29 : At cX9_then 29 (.iconst 1) 1 30 := ⟨tX9_then_0_ok (29, .iconst 1, 1) (List.mem_of_getElem? (i := 15) rfl), rfl⟩
theorem pX9_then_30 : At cX9_then 30 (.invokevirtual 80) 3 33 := ⟨tX9_then_0_ok (30, .invokevirtual 80, 3) (List.mem_of_getElem? (i := 16) rfl), rfl⟩
theorem pX9_then_33 : At cX9_then 33 (.ireturn) 1 34 := ⟨tX9_then_0_ok (33, .ireturn, 1) (List.mem_of_getElem? (i := 17) rfl), rfl⟩
theorem pX9_then_34 : At cX9_then 34 (.aload_n 0) 1 35 := ⟨tX9_then_0_ok (34, .aload_n 0, 1) (List.mem_of_getElem? (i := 18) rfl), rfl⟩
theorem pX9_then_35 : At cX9_then 35 (.getfield 29) 3 38 := ⟨tX9_then_0_ok (35, .getfield 29, 3) (List.mem_of_getElem? (i := 19) rfl), rfl⟩
theorem pX9_then_38 : At cX9_then 38 (.aload_n 0) 1 39 := ⟨tX9_then_0_ok (38, .aload_n 0, 1) (List.mem_of_getElem? (i := 20) rfl), rfl⟩
theorem pX9_then_39 : At cX9_then 39 (.getfield 10) 3 42 := ⟨tX9_then_0_ok (39, .getfield 10, 3) (List.mem_of_getElem? (i := 21) rfl), rfl⟩
theorem pX9_then_42 : At cX9_then 42 (.invokevirtual 216) 3 45 := ⟨tX9_then_0_ok (42, .invokevirtual 216, 3) (List.mem_of_getElem? (i := 22) rfl), rfl⟩
theorem pX9_then_45 : At cX9_then 45 (.iconst 0) 1 46 := ⟨tX9_then_0_ok (45, .iconst 0, 1) (List.mem_of_getElem? (i := 23) rfl), rfl⟩
theorem pX9_then_46 : At cX9_then 46 (.istore 4) 2 48 := ⟨tX9_then_0_ok (46, .istore 4, 2) (List.mem_of_getElem? (i := 24) rfl), rfl⟩
theorem pX9_then_48 : At cX9_then 48 (.iload 4) 2 50 := ⟨tX9_then_0_ok (48, .iload 4, 2) (List.mem_of_getElem? (i := 25) rfl), rfl⟩
theorem pX9_then_50 : At cX9_then 50 (.iload_n 1) 1 51 := ⟨tX9_then_0_ok (50, .iload_n 1, 1) (List.mem_of_getElem? (i := 26) rfl), rfl⟩
theorem pX9_then_51 : Bt cX9_then 51 (.if_icmp .ge 20) 20 71 54 := ⟨tX9_then_0_ok (51, .if_icmp .ge 20, 3) (List.mem_of_getElem? (i := 27) rfl), by decide, rfl⟩
theorem pX9_then_54 : At cX9_then 54 (.aload_n 0) 1 55 := ⟨tX9_then_0_ok (54, .aload_n 0, 1) (List.mem_of_getElem? (i := 28) rfl), rfl⟩
theorem pX9_then_55 : At cX9_then 55 (.getfield 29) 3 58 := ⟨tX9_then_0_ok (55, .getfield 29, 3) (List.mem_of_getElem? (i := 29) rfl), rfl⟩
theorem pX9_then_58 : At cX9_then 58 (.aload_n 0) 1 59 := ⟨tX9_then_0_ok (58, .aload_n 0, 1) (List.mem_of_getElem? (i := 30) rfl), rfl⟩
theorem pX9_then_59 : At cX9_then 59 (.getfield 19) 3 62 := ⟨tX9_then_0_ok (59, .getfield 19, 3) (List.mem_of_getElem? (i := 31) rfl), rfl⟩
theorem pX9_then_62 : At cX9_then 62 (.invokevirtual 207) 3 65 := ⟨tX9_then_0_ok (62, .invokevirtual 207, 3) (List.mem_of_getElem? (i := 32) rfl), rfl⟩
theorem pX9_then_65 : At cX9_then 65 (.iinc 4 1) 3 68 := ⟨tX9_then_0_ok (65, .iinc 4 1, 3) (List.mem_of_getElem? (i := 33) rfl), rfl⟩
theorem pX9_then_68 : Bt cX9_then 68 (.goto (-20)) (-20) 48 71 := ⟨tX9_then_0_ok (68, .goto (-20), 3) (List.mem_of_getElem? (i := 34) rfl), by decide, rfl⟩
theorem pX9_then_71 : At cX9_then 71 (.iload_n 3) 1 72 := ⟨tX9_then_0_ok (71, .iload_n 3, 1) (List.mem_of_getElem? (i := 35) rfl), rfl⟩
theorem pX9_then_72 : At cX9_then 72 (.iconst 2) 1 73 := ⟨tX9_then_0_ok (72, .iconst 2, 1) (List.mem_of_getElem? (i := 36) rfl), rfl⟩
theorem pX9_then_73 : Bt cX9_then 73 (.if_icmp .ne 11) 11 84 76 := ⟨tX9_then_0_ok (73, .if_icmp .ne 11, 3) (List.mem_of_getElem? (i := 37) rfl), by decide, rfl⟩
theorem pX9_then_76 : At cX9_then 76 (.aload_n 0) 1 77 := ⟨tX9_then_0_ok (76, .aload_n 0, 1) (List.mem_of_getElem? (i := 38) rfl), rfl⟩
theorem pX9_then_77 : At cX9_then 77 (.getfield 29) 3 80 := ⟨tX9_then_0_ok (77, .getfield 29, 3) (List.mem_of_getElem? (i := 39) rfl), rfl⟩
theorem pX9_then_80 : At cX9_then 80 (.getfield 220) 3 83 := ⟨tX9_then_0_ok (80, .getfield 220, 3) (List.mem_of_getElem? (i := 40) rfl), rfl⟩
theorem pX9_then_83 : At cX9_then 83 (.ireturn) 1 84 := ⟨tX9_then_0_ok (83, .ireturn, 1) (List.mem_of_getElem? (i := 41) rfl), rfl⟩
theorem pX9_then_84 : At cX9_then 84 (.iload_n 3) 1 85 := ⟨tX9_then_0_ok (84, .iload_n 3, 1) (List.mem_of_getElem? (i := 42) rfl), rfl⟩
theorem pX9_then_85 : Bt cX9_then 85 (.ifCond .ne 18) 18 103 88 := ⟨tX9_then_0_ok (85, .ifCond .ne 18, 3) (List.mem_of_getElem? (i := 43) rfl), by decide, rfl⟩
theorem pX9_then_88 : At cX9_then 88 (.aload_n 0) 1 89 := ⟨tX9_then_0_ok (88, .aload_n 0, 1) (List.mem_of_getElem? (i := 44) rfl), rfl⟩
theorem pX9_then_89 : At cX9_then 89 (.getfield 29) 3 92 := ⟨tX9_then_0_ok (89, .getfield 29, 3) (List.mem_of_getElem? (i := 45) rfl), rfl⟩
theorem pX9_then_92 : At cX9_then 92 (.getfield 88) 3 95 := ⟨tX9_then_0_ok (92, .getfield 88, 3) (List.mem_of_getElem? (i := 46) rfl), rfl⟩
theorem pX9_then_95 : At cX9_then 95 (.iload_n 2) 1 96 := ⟨tX9_then_0_ok (95, .iload_n 2, 1) (List.mem_of_getElem? (i := 47) rfl), rfl⟩
theorem pX9_then_96 : At cX9_then 96 (.aaload) 1 97 := ⟨tX9_then_0_ok (96, .aaload, 1) (List.mem_of_getElem? (i := 48) rfl), rfl⟩
theorem pX9_then_97 : At cX9_then 97 (.getfield 114) 3 100 := ⟨tX9_then_0_ok (97, .getfield 114, 3) (List.mem_of_getElem? (i := 49) rfl), rfl⟩
theorem pX9_then_100 : Bt cX9_then 100 (.goto 15) 15 115 103 := ⟨tX9_then_0_ok (100, .goto 15, 3) (List.mem_of_getElem? (i := 50) rfl), by decide, rfl⟩
theorem pX9_then_103 : At cX9_then 103 (.aload_n 0) 1 104 := ⟨tX9_then_0_ok (103, .aload_n 0, 1) (List.mem_of_getElem? (i := 51) rfl), rfl⟩
theorem pX9_then_104 : At cX9_then 104 (.getfield 29) 3 107 := ⟨tX9_then_0_ok (104, .getfield 29, 3) (List.mem_of_getElem? (i := 52) rfl), rfl⟩
theorem pX9_then_107 : At cX9_then 107 (.getfield 88) 3 110 := ⟨tX9_then_0_ok (107, .getfield 88, 3) (List.mem_of_getElem? (i := 53) rfl), rfl⟩
theorem pX9_then_110 : At cX9_then 110 (.iload_n 2) 1 111 := ⟨tX9_then_0_ok (110, .iload_n 2, 1) (List.mem_of_getElem? (i := 54) rfl), rfl⟩
theorem pX9_then_111 : At cX9_then 111 (.aaload) 1 112 := ⟨tX9_then_0_ok (111, .aaload, 1) (List.mem_of_getElem? (i := 55) rfl), rfl⟩
theorem pX9_then_112 : At cX9_then 112 (.getfield 117) 3 115 := ⟨tX9_then_0_ok (112, .getfield 117, 3) (List.mem_of_getElem? (i := 56) rfl), rfl⟩
theorem pX9_then_115 : At cX9_then 115 (.ireturn) 1 116 := ⟨tX9_then_0_ok (115, .ireturn, 1) (List.mem_of_getElem? (i := 57) rfl), rfl⟩
def tX9_rests_0 : List (Nat × Instr × Nat) := [(0, .aload_n 0, 1), (1, .iload_n 1, 1), (2, .invokevirtual 101, 3), (5, .ifCond .eq 12, 3), (8, .iload_n 2, 1), (9, .iconst 0, 1), (10, .iconst 1, 1), (11, .invokestatic 104, 3), (14, .ifCond .ne 9, 3), (17, .aload_n 0, 1), (18, .iconst 1, 1), (19, .invokevirtual 80, 3), (22, .ireturn, 1), (23, .aload_n 0, 1), (24, .getfield 37, 3), (27, .aload_n 0, 1), (28, .getfield 10, 3), (31, .getfield 88, 3), (34, .iload_n 1, 1), (35, .aaload, 1), (36, .invokevirtual 223, 3), (39, .istore_n 3, 1), (40, .iload_n 3, 1), (41, .ifCond .ge 9, 3), (44, .aload_n 0, 1), (45, .iconst 2, 1), (46, .invokevirtual 80, 3), (49, .ireturn, 1), (50, .iload_n 2, 1), (51, .ifCond .ne 7, 3), (54, .iload_n 3, 1), (55, .goto 13, 3), (58, .aload_n 0, 1), (59, .getfield 37, 3), (62, .getfield 226, 3), (65, .getfield 114, 3), (68, .ireturn, 1)]
theorem tX9_rests_0_ok : ∀ q ∈ tX9_rests_0, decode cX9_rests q.1 = .ok (q.2.1, q.2.2) := by decide +kernel
theorem pX9_rests_0 : At cX9_rests 0 (.aload_n 0) 1 1 := ⟨tX9_rests_0_ok (0, .aload_n 0, 1) (List.mem_of_getElem? (i := 0) rfl), rfl⟩
theorem pX9_rests_1 : At cX9_rests 1 (.iload_n 1) 1 2 := ⟨tX9_rests_0_ok (1, .iload_n 1, 1) (List.mem_of_getElem? (i := 1) rfl), rfl⟩
theorem pX9_rests_2 : At cX9_rests 2 (.invokevirtual 101) 3 5 := ⟨tX9_rests_0_ok (2, .invokevirtual 101, 3) (List.mem_of_getElem? (i := 2) rfl), rfl⟩
theorem pX9_rests_5 : Bt cX9_rests 5 (.ifCond .eq 12) 12 17 8 := ⟨tX9_rests_0_ok (5, .ifCond .eq 12, 3) (List.mem_of_getElem? (i := 3) rfl), by decide, rfl⟩
theorem pX9_rests_8 : At cX9_rests 8 (.iload_n 2) 1 9 := ⟨tX9_rests_0_ok (8, .iload_n 2, 1) (List.mem_of_getElem? (i := 4) rfl), rfl⟩
theorem pX9_rests_9 : At cX9_rests 9 (.iconst 0) 1 10 := ⟨tX9_rests_0_ok (9, .iconst 0, 1) (List.mem_of_getElem? (i := 5) rfl), rfl⟩
theorem pX9_rests_10 : At cX9_rests 10 (.iconst 1) 1 11 := ⟨tX9_rests_0_ok (10, .iconst 1, 1) (List.mem_of_getElem? (i := 6) rfl), rfl⟩
theorem pX9_rests_11 : At cX9_rests 11 (.invokestatic 104) 3 14 := ⟨tX9_rests_0_ok (11, .invokestatic 104, 3) (List.mem_of_getElem? (i := 7) rfl), rfl⟩
theorem pX9_rests_14 : Bt cX9_rests 14 (.ifCond .ne 9) 9 23 17 := ⟨tX9_rests_0_ok (14, .ifCond .ne 9, 3) (List.mem_of_getElem? (i := 8) rfl), by decide, rfl⟩
theorem pX9_rests_17 : At cX9_rests 17 (.aload_n 0) 1 18 := ⟨tX9_rests_0_ok (17, .aload_n 0, 1) (List.mem_of_getElem? (i := 9) rfl), rfl⟩
theorem pX9_rests_18 : At cX9_rests 18 (.iconst 1) 1 19 := ⟨tX9_rests_0_ok (18, .iconst 1, 1) (List.mem_of_getElem? (i := 10) rfl), rfl⟩
theorem pX9_rests_19 : At cX9_rests 19 (.invokevirtual 80) 3 22 := ⟨tX9_rests_0_ok (19, .invokevirtual 80, 3) (List.mem_of_getElem? (i := 11) rfl), rfl⟩
theorem pX9_rests_22 : At cX9_rests 22 (.ireturn) 1 23 := ⟨tX9_rests_0_ok (22, .ireturn, 1) (List.mem_of_getElem? (i := 12) rfl), rfl⟩
theorem pX9_rests_23 : At cX9_rests 23 (.aload_n 0) 1 24 := ⟨tX9_rests_0_ok (23, .aload_n 0, 1) (List.mem_of_getElem? (i := 13) rfl), rfl⟩
theorem pX9_rests_24 : At cX9_rests 24 (.getfield 37) 3 27 := ⟨tX9_rests_0_ok (24, .getfield 37, 3) (List.mem_of_getElem? (i := 14) rfl), rfl⟩
theorem pX9_rests_27 : At cX9_rests 27 (.aload_n 0) 1 28 := ⟨tX9_rests_0_ok (27, .aload_n 0, 1) (List.mem_of_getElem? (i := 15) rfl), rfl⟩
theorem pX9_rests_28 : At cX9_rests 28 (.getfield 10) 3 31 := ⟨tX9_rests_0_ok (28, .getfield 10, 3) (List.mem_of_getElem? (i := 16) rfl), rfl⟩
theorem pX9_rests_31 : At cX9_rests 31 (.getfield 88) 3 34 := ⟨tX9_rests_0_ok (31, .getfield 88, 3) (List.mem_of_getElem? (i := 17) rfl), rfl⟩
theorem pX9_rests_34 : At cX9_rests 34 (.iload_n 1) 1 35 := ⟨tX9_rests_0_ok (34, .iload_n 1, 1) (List.mem_of_getElem? (i := 18) rfl), rfl⟩
theorem pX9_rests_35 : At cX9_rests 35 (.aaload) 1 36 := ⟨tX9_rests_0_ok (35, .aaload, 1) (List.mem_of_getElem? (i := 19) rfl), rfl⟩
theorem pX9_rests_36 : At cX9_rests 36 (.invokevirtual 223) 3 39 := ⟨tX9_rests_0_ok (36, .invokevirtual 223, 3) (List.mem_of_getElem? (i := 20) rfl), rfl⟩
theorem pX9_rests_39 : At cX9_rests 39 (.istore_n 3) 1 40 := ⟨tX9_rests_0_ok (39, .istore_n 3, 1) (List.mem_of_getElem? (i := 21) rfl), rfl⟩
theorem pX9_rests_40 : At cX9_rests 40 (.iload_n 3) 1 41 := ⟨tX9_rests_0_ok (40, .iload_n 3, 1) (List.mem_of_getElem? (i := 22) rfl), rfl⟩
theorem pX9_rests_41 : Bt cX9_rests 41 (.ifCond .ge 9) 9 50 44 := ⟨tX9_rests_0_ok (41, .ifCond .ge 9, 3) (List.mem_of_getElem? (i := 23) rfl), by decide, rfl⟩
theorem pX9_rests_44 : At cX9_rests 44 (.aload_n 0) 1 45 := ⟨tX9_rests_0_ok (44, .aload_n 0, 1) (List.mem_of_getElem? (i := 24) rfl), rfl⟩
theorem pX9_rests_45 : At cX9_rests 45 (.iconst 2) 1 46 := ⟨tX9_rests_0_ok (45, .iconst 2, 1) (List.mem_of_getElem? (i := 25) rfl), rfl⟩
theorem pX9_rests_46 : At cX9_rests 46 (.invokevirtual 80) 3 49 := ⟨tX9_rests_0_ok (46, .invokevirtual 80, 3) (List.mem_of_getElem? (i := 26) rfl), rfl⟩
theorem pX9_rests_49 : At cX9_rests 49 (.ireturn) 1 50 := ⟨tX9_rests_0_ok (49, .ireturn, 1) (List.mem_of_getElem? (i := 27) rfl), rfl⟩
theorem pX9_rests_50 : At cX9_rests 50 (.iload_n 2) 1 51 := ⟨tX9_rests_0_ok (50, .iload_n 2, 1) (List.mem_of_getElem? (i := 28) rfl), rfl⟩
theorem pX9_rests_51 : Bt cX9_rests 51 (.ifCond .ne 7) 7 58 54 := ⟨tX9_rests_0_ok (51, .ifCond .ne 7, 3) (List.mem_of_getElem? (i := 29) rfl), by decide, rfl⟩
theorem pX9_rests_54 : At cX9_rests 54 (.iload_n 3) 1 55 := ⟨tX9_rests_0_ok (54, .iload_n 3, 1) (List.mem_of_getElem? (i := 30) rfl), rfl⟩
theorem pX9_rests_55 : Bt cX9_rests 55 (.goto 13) 13 68 58 := ⟨tX9_rests_0_ok (55, .goto 13, 3) (List.mem_of_getElem? (i := 31) rfl), by decide, rfl⟩
theorem pX9_rests_58 : At cX9_rests 58 (.aload_n 0) 1 59 := ⟨tX9_rests_0_ok (58, .aload_n 0, 1) (List.mem_of_getElem? (i := 32) rfl), rfl⟩
theorem pX9_rests_59 : At cX9_rests 59 (.getfield 37) 3 62 := ⟨tX9_rests_0_ok (59, .getfield 37, 3) (List.mem_of_getElem? (i := 33) rfl), rfl⟩
theorem pX9_rests_62 : At cX9_rests 62 (.getfield 226) 3 65 := ⟨tX9_rests_0_ok (62, .getfield 226, 3) (List.mem_of_getElem? (i := 34) rfl), rfl⟩
theorem pX9_rests_65 : At cX9_rests 65 (.getfield 114) 3 68 := ⟨tX9_rests_0_ok (65, .getfield 114, 3) (List.mem_of_getElem? (i := 35) rfl), rfl⟩
theorem pX9_rests_68 : At cX9_rests 68 (.ireturn) 1 69 := ⟨tX9_rests_0_ok (68, .ireturn, 1) (List.mem_of_getElem? (i := 36) rfl), rfl⟩
def tX9_isMiddle_0 : List (Nat × Instr × Nat) := [(0, .iload_n 0, 1), (1, .bipush 16, 2), (3, .bipush 24, 2), (5, .invokestatic 104, 3), (8, .ireturn, 1)]
theorem tX9_isMiddle_0_ok : ∀ q ∈ tX9_isMiddle_0, decode cX9_isMiddle q.1 = .ok (q.2.1, q.2.2) := by decide +kernel
theorem pX9_isMiddle_0 : At cX9_isMiddle 0 (.iload_n 0) 1 1 := ⟨tX9_isMiddle_0_ok (0, .iload_n 0, 1) (List.mem_of_getElem? (i := 0) rfl), rfl⟩
theorem pX9_isMiddle_1 : At cX9_isMiddle 1 (.bipush 16) 2 3 := ⟨tX9_isMiddle_0_ok (1, .bipush 16, 2) (List.mem_of_getElem? (i := 1) rfl), rfl⟩
theorem pX9_isMiddle_3 : At cX9_isMiddle 3 (.bipush 24) 2 5 := ⟨tX9_isMiddle_0_ok (3, .bipush 24, 2) (List.mem_of_getElem? (i := 2) rfl), rfl⟩
theorem pX9_isMiddle_5 : At cX9_isMiddle 5 (.invokestatic 104) 3 8 := ⟨tX9_isMiddle_0_ok (5, .invokestatic 104, 3) (List.mem_of_getElem? (i := 3) rfl), rfl⟩
theorem pX9_isMiddle_8 : At cX9_isMiddle 8 (.ireturn) 1 9 := ⟨tX9_isMiddle_0_ok (8, .ireturn, 1) (List.mem_of_getElem? (i := 4) rfl), rfl⟩
def tX9_first_0 : List (Nat × Instr × Nat) := [(0, .iconst (-1), 1), (1, .istore_n 1, 1), (2, .sipush 201, 3), (5, .istore_n 2, 1), (6, .iconst 0, 1), (7, .istore_n 3, 1), (8, .iload_n 3, 1), (9, .aload_n 0, 1), (10, .getfield 10, 3), (13, .getfield 84, 3), (16, .if_icmp .ge 59, 3), (19, .aload_n 0, 1), (20, .getfield 37, 3), (23, .aload_n 0, 1), (24, .getfield 10, 3), (27, .getfield 88, 3), (30, .iload_n 3, 1), (31, .aaload, 1), (32, .invokevirtual 223, 3), (35, .istore 4, 2), (37, .iload 4, 2), (39, .ifCond .lt 30, 3), (42, .iload 4, 2), (44, .iload_n 2, 1), (45, .if_icmp .ge 24, 3), (48, .aload_n 0, 1), (49, .getfield 37, 3), (52, .getfield 226, 3), (55, .getfield 114, 3), (58, .invokestatic 230, 3), (61, .ifCond .eq 8, 3), (64, .iload_n 3, 1), (65, .istore_n 1, 1), (66, .iload 4, 2), (68, .istore_n 2, 1), (69, .iinc 3 1, 3), (72, .goto (-64), 3), (75, .iload_n 1, 1), (76, .ifCond .ge 11, 3), (79, .aload_n 0, 1), (80, .iconst 2, 1), (81, .invokevirtual 80, 3), (84, .goto 4, 3), (87, .iload_n 1, 1), (88, .ireturn, 1)]
theorem tX9_first_0_ok : ∀ q ∈ tX9_first_0, decode cX9_first q.1 = .ok (q.2.1, q.2.2) := by decide +kernel
theorem pX9_first_0 : At cX9_first 0 (.iconst (-1)) 1 1 := ⟨tX9_first_0_ok (0, .iconst (-1), 1) (List.mem_of_getElem? (i := 0) rfl), rfl⟩
theorem pX9_first_1 : At cX9_first 1 (.istore_n 1) 1 2 := ⟨tX9_first_0_ok (1, .istore_n 1, 1) (List.mem_of_getElem? (i := 1) rfl), rfl⟩
theorem pX9_first_2 : At cX9_first 2 (.sipush 201) 3 5 := ⟨tX9_first_0_ok (2, .sipush 201, 3) (List.mem_of_getElem? (i := 2) rfl), rfl⟩
theorem pX9_first_5 : At cX9_first 5 (.istore_n 2) 1 6 := ⟨tX9_first_0_ok (5, .istore_n 2, 1) (List.mem_of_getElem? (i := 3) rfl), rfl⟩
theorem pX9_first_6 : At cX9_first 6 (.iconst 0) 1 7 := ⟨tX9_first_0_ok (6, .iconst 0, 1) (List.mem_of_getElem? (i := 4) rfl), rfl⟩
theorem pX9_first_7 : At cX9_first 7 (.istore_n 3) 1 8 := ⟨tX9_first_0_ok (7, .istore_n 3, 1) (List.mem_of_getElem? (i := 5) rfl), rfl⟩
theorem pX9_first_8 : At cX9_first 8 (.iload_n 3) 1 9 := ⟨tX9_first_0_ok (8, .iload_n 3, 1) (List.mem_of_getElem? (i := 6) rfl), rfl⟩
theorem pX9_first_9 : At cX9_first 9 (.aload_n 0) 1 10 := ⟨tX9_first_0_ok (9, .aload_n 0, 1) (List.mem_of_getElem? (i := 7) rfl), rfl⟩
theorem pX9_first_10 : At cX9_first 10 (.getfield 10) 3 13 := ⟨tX9_first_0_ok (10, .getfield 10, 3) (List.mem_of_getElem? (i := 8) rfl), rfl⟩
theorem pX9_first_13 : At cX9_first 13 (.getfield 84) 3 16 := ⟨tX9_first_0_ok (13, .getfield 84, 3) (List.mem_of_getElem? (i := 9) rfl), rfl⟩
theorem pX9_first_16 : Bt cX9_first 16 (.if_icmp .ge 59) 59 75 19 := ⟨tX9_first_0_ok (16, .if_icmp .ge 59, 3) (List.mem_of_getElem? (i := 10) rfl), by decide, rfl⟩
theorem pX9_first_19 : At cX9_first 19 (.aload_n 0) 1 20 := ⟨tX9_first_0_ok (19, .aload_n 0, 1) (List.mem_of_getElem? (i := 11) rfl), rfl⟩
theorem pX9_first_20 : At cX9_first 20 (.getfield 37) 3 23 := ⟨tX9_first_0_ok (20, .getfield 37, 3) (List.mem_of_getElem? (i := 12) rfl), rfl⟩
theorem pX9_first_23 : At cX9_first 23 (.aload_n 0) 1 24 := ⟨tX9_first_0_ok (23, .aload_n 0, 1) (List.mem_of_getElem? (i := 13) rfl), rfl⟩
theorem pX9_first_24 : At cX9_first 24 (.getfield 10) 3 27 := ⟨tX9_first_0_ok (24, .getfield 10, 3) (List.mem_of_getElem? (i := 14) rfl), rfl⟩
theorem pX9_first_27 : At cX9_first 27 (.getfield 88) 3 30 := ⟨tX9_first_0_ok (27, .getfield 88, 3) (List.mem_of_getElem? (i := 15) rfl), rfl⟩
theorem pX9_first_30 : At cX9_first 30 (.iload_n 3) 1 31 := ⟨tX9_first_0_ok (30, .iload_n 3, 1) (List.mem_of_getElem? (i := 16) rfl), rfl⟩
theorem pX9_first_31 : At cX9_first 31 (.aaload) 1 32 := ⟨tX9_first_0_ok (31, .aaload, 1) (List.mem_of_getElem? (i := 17) rfl), rfl⟩
theorem pX9_first_32 : At cX9_first 32 (.invokevirtual 223) 3 35 := ⟨tX9_first_0_ok (32, .invokevirtual 223, 3) (List.mem_of_getElem? (i := 18) rfl), rfl⟩
theorem pX9_first_35 : At cX9_first 35 (.istore 4) 2 37 := ⟨tX9_first_0_ok (35, .istore 4, 2) (List.mem_of_getElem? (i := 19) rfl), rfl⟩
theorem pX9_first_37 : At cX9_first 37 (.iload 4) 2 39 := ⟨tX9_first_0_ok (37, .iload 4, 2) (List.mem_of_getElem? (i := 20) rfl), rfl⟩
theorem pX9_first_39 : Bt cX9_first 39 (.ifCond .lt 30) 30 69 42 := ⟨tX9_first_0_ok (39, .ifCond .lt 30, 3) (List.mem_of_getElem? (i := 21) rfl), by decide, rfl⟩
theorem pX9_first_42 : At cX9_first 42 (.iload 4) 2 44 := ⟨tX9_first_0_ok (42, .iload 4, 2) (List.mem_of_getElem? (i := 22) rfl), rfl⟩
theorem pX9_first_44 : At cX9_first 44 (.iload_n 2) 1 45 := ⟨tX9_first_0_ok (44, .iload_n 2, 1) (List.mem_of_getElem? (i := 23) rfl), rfl⟩
theorem pX9_first_45 : Bt cX9_first 45 (.if_icmp .ge 24) 24 69 48 := ⟨tX9_first_0_ok (45, .if_icmp .ge 24, 3) (List.mem_of_getElem? (i := 24) rfl), by decide, rfl⟩
theorem pX9_first_48 : At cX9_first 48 (.aload_n 0) 1 49 := ⟨tX9_first_0_ok (48, .aload_n 0, 1) (List.mem_of_getElem? (i := 25) rfl), rfl⟩
theorem pX9_first_49 : At cX9_first 49 (.getfield 37) 3 52 := ⟨tX9_first_0_ok (49, .getfield 37, 3) (List.mem_of_getElem? (i := 26) rfl), rfl⟩
theorem pX9_first_52 : At cX9_first 52 (.getfield 226) 3 55 := ⟨tX9_first_0_ok (52, .getfield 226, 3) (List.mem_of_getElem? (i := 27) rfl), rfl⟩
theorem pX9_first_55 : At cX9_first 55 (.getfield 114) 3 58 := ⟨tX9_first_0_ok (55, .getfield 114, 3) (List.mem_of_getElem? (i := 28) rfl), rfl⟩
theorem pX9_first_58 : At cX9_first 58 (.invokestatic 230) 3 61 := ⟨tX9_first_0_ok (58, .invokestatic 230, 3) (List.mem_of_getElem? (i := 29) rfl), rfl⟩
theorem pX9_first_61 : Bt cX9_first 61 (.ifCond .eq 8) 8 69 64 := ⟨tX9_first_0_ok (61, .ifCond .eq 8, 3) (List.mem_of_getElem? (i := 30) rfl), by decide, rfl⟩
theorem pX9_first_64 : At cX9_first 64 (.iload_n 3) 1 65 := ⟨tX9_first_0_ok (64, .iload_n 3, 1) (List.mem_of_getElem? (i := 31) rfl), rfl⟩
theorem pX9_first_65 : At cX9_first 65 (.istore_n 1) 1 66 := ⟨tX9_first_0_ok (65, .istore_n 1, 1) (List.mem_of_getElem? (i := 32) rfl), rfl⟩
theorem pX9_first_66 : At cX9_first 66 (.iload 4) 2 68 := ⟨tX9_first_0_ok (66, .iload 4, 2) (List.mem_of_getElem? (i := 33) rfl), rfl⟩
theorem pX9_first_68 : At cX9_first 68 (.istore_n 2) 1 69 := ⟨tX9_first_0_ok (68, .istore_n 2, 1) (List.mem_of_getElem? (i := 34) rfl), rfl⟩
theorem pX9_first_69 : At cX9_first 69 (.iinc 3 1) 3 72 := ⟨tX9_first_0_ok (69, .iinc 3 1, 3) (List.mem_of_getElem? (i := 35) rfl), rfl⟩
theorem pX9_first_72 : Bt cX9_first 72 (.goto (-64)) (-64) 8 75 := ⟨tX9_first_0_ok (72, .goto (-64), 3) (List.mem_of_getElem? (i := 36) rfl), by decide, rfl⟩
theorem pX9_first_75 : At cX9_first 75 (.iload_n 1) 1 76 := ⟨tX9_first_0_ok (75, .iload_n 1, 1) (List.mem_of_getElem? (i := 37) rfl), rfl⟩
theorem pX9_first_76 : Bt cX9_first 76 (.ifCond .ge 11) 11 87 79 := ⟨tX9_first_0_ok (76, .ifCond .ge 11, 3) (List.mem_of_getElem? (i := 38) rfl), by decide, rfl⟩
theorem pX9_first_79 : At cX9_first 79 (.aload_n 0) 1 80 := ⟨tX9_first_0_ok (79, .aload_n 0, 1) (List.mem_of_getElem? (i := 39) rfl), rfl⟩
theorem pX9_first_80 : At cX9_first 80 (.iconst 2) 1 81 := ⟨tX9_first_0_ok (80, .iconst 2, 1) (List.mem_of_getElem? (i := 40) rfl), rfl⟩
theorem pX9_first_81 : At cX9_first 81 (.invokevirtual 80) 3 84 := ⟨tX9_first_0_ok (81, .invokevirtual 80, 3) (List.mem_of_getElem? (i := 41) rfl), rfl⟩
theorem pX9_first_84 : Bt cX9_first 84 (.goto 4) 4 88 87 := ⟨tX9_first_0_ok (84, .goto 4, 3) (List.mem_of_getElem? (i := 42) rfl), by decide, rfl⟩
theorem pX9_first_87 : At cX9_first 87 (.iload_n 1) 1 88 := ⟨tX9_first_0_ok (87, .iload_n 1, 1) (List.mem_of_getElem? (i := 43) rfl), rfl⟩
theorem pX9_first_88 : At cX9_first 88 (.ireturn) 1 89 := ⟨tX9_first_0_ok (88, .ireturn, 1) (List.mem_of_getElem? (i := 44) rfl), rfl⟩
def tX9_over_0 : List (Nat × Instr × Nat) := [(0, .aload_n 0, 1), (1, .iload_n 1, 1), (2, .invokevirtual 101, 3), (5, .ifCond .eq 17, 3), (8, .iload_n 2, 1), (9, .invokestatic 160, 3), (12, .ifCond .eq 10, 3), (15, .iload_n 3, 1), (16, .invokestatic 148, 3), (19, .ifCond .ne 9, 3), (22, .aload_n 0, 1), (23, .iconst 1, 1), (24, .invokevirtual 80, 3), (27, .ireturn, 1), (28, .aload_n 0, 1), (29, .getfield 37, 3), (32, .aload_n 0, 1), (33, .getfield 10, 3), (36, .getfield 88, 3), (39, .iload_n 1, 1), (40, .aaload, 1), (41, .iload_n 2, 1), (42, .iload_n 3, 1), (43, .invokevirtual 233, 3), (46, .istore 4, 2), (48, .iload 4, 2), (50, .ifCond .ge 11, 3), (53, .aload_n 0, 1), (54, .iconst 2, 1), (55, .invokevirtual 80, 3), (58, .goto 5, 3), (61, .iload 4, 2), (63, .ireturn, 1)]
theorem tX9_over_0_ok : ∀ q ∈ tX9_over_0, decode cX9_over q.1 = .ok (q.2.1, q.2.2) := by decide +kernel
theorem pX9_over_0 : At cX9_over 0 (.aload_n 0) 1 1 := ⟨tX9_over_0_ok (0, .aload_n 0, 1) (List.mem_of_getElem? (i := 0) rfl), rfl⟩
theorem pX9_over_1 : At cX9_over 1 (.iload_n 1) 1 2 := ⟨tX9_over_0_ok (1, .iload_n 1, 1) (List.mem_of_getElem? (i := 1) rfl), rfl⟩
theorem pX9_over_2 : At cX9_over 2 (.invokevirtual 101) 3 5 := ⟨tX9_over_0_ok (2, .invokevirtual 101, 3) (List.mem_of_getElem? (i := 2) rfl), rfl⟩
theorem pX9_over_5 : Bt cX9_over 5 (.ifCond .eq 17) 17 22 8 := ⟨tX9_over_0_ok (5, .ifCond .eq 17, 3) (List.mem_of_getElem? (i := 3) rfl), by decide, rfl⟩
theorem pX9_over_8 : At cX9_over 8 (.iload_n 2) 1 9 := ⟨tX9_over_0_ok (8, .iload_n 2, 1) (List.mem_of_getElem? (i := 4) rfl), rfl⟩
theorem pX9_over_9 : At cX9_over 9 (.invokestatic 160) 3 12 := ⟨tX9_over_0_ok (9, .invokestatic 160, 3) (List.mem_of_getElem? (i := 5) rfl), rfl⟩
theorem pX9_over_12 : Bt cX9_over 12 (.ifCond .eq 10) 10 22 15 := ⟨tX9_over_0_ok (12, .ifCond .eq 10, 3) (List.mem_of_getElem? (i := 6) rfl), by decide, rfl⟩
theorem pX9_over_15 : At cX9_over 15 (.iload_n 3) 1 16 := ⟨tX9_over_0_ok (15, .iload_n 3, 1) (List.mem_of_getElem? (i := 7) rfl), rfl⟩
theorem pX9_over_16 : At cX9_over 16 (.invokestatic 148) 3 19 := ⟨tX9_over_0_ok (16, .invokestatic 148, 3) (List.mem_of_getElem? (i := 8) rfl), rfl⟩
theorem pX9_over_19 : Bt cX9_over 19 (.ifCond .ne 9) 9 28 22 := ⟨tX9_over_0_ok (19, .ifCond .ne 9, 3) (List.mem_of_getElem? (i := 9) rfl), by decide, rfl⟩
theorem pX9_over_22 : At cX9_over 22 (.aload_n 0) 1 23 := ⟨tX9_over_0_ok (22, .aload_n 0, 1) (List.mem_of_getElem? (i := 10) rfl), rfl⟩
theorem pX9_over_23 : At cX9_over 23 (.iconst 1) 1 24 := ⟨tX9_over_0_ok (23, .iconst 1, 1) (List.mem_of_getElem? (i := 11) rfl), rfl⟩
theorem pX9_over_24 : At cX9_over 24 (.invokevirtual 80) 3 27 := ⟨tX9_over_0_ok (24, .invokevirtual 80, 3) (List.mem_of_getElem? (i := 12) rfl), rfl⟩
theorem pX9_over_27 : At cX9_over 27 (.ireturn) 1 28 := ⟨tX9_over_0_ok (27, .ireturn, 1) (List.mem_of_getElem? (i := 13) rfl), rfl⟩
theorem pX9_over_28 : At cX9_over 28 (.aload_n 0) 1 29 := ⟨tX9_over_0_ok (28, .aload_n 0, 1) (List.mem_of_getElem? (i := 14) rfl), rfl⟩
theorem pX9_over_29 : At cX9_over 29 (.getfield 37) 3 32 := ⟨tX9_over_0_ok (29, .getfield 37, 3) (List.mem_of_getElem? (i := 15) rfl), rfl⟩
theorem pX9_over_32 : At cX9_over 32 (.aload_n 0) 1 33 := ⟨tX9_over_0_ok (32, .aload_n 0, 1) (List.mem_of_getElem? (i := 16) rfl), rfl⟩
theorem pX9_over_33 : At cX9_over 33 (.getfield 10) 3 36 := ⟨tX9_over_0_ok (33, .getfield 10, 3) (List.mem_of_getElem? (i := 17) rfl), rfl⟩
theorem pX9_over_36 : At cX9_over 36 (.getfield 88) 3 39 := ⟨tX9_over_0_ok (36, .getfield 88, 3) (List.mem_of_getElem? (i := 18) rfl), rfl⟩
theorem pX9_over_39 : At cX9_over 39 (.iload_n 1) 1 40 := ⟨tX9_over_0_ok (39, .iload_n 1, 1) (List.mem_of_getElem? (i := 19) rfl), rfl⟩
theorem pX9_over_40 : At cX9_over 40 (.aaload) 1 41 := ⟨tX9_over_0_ok (40, .aaload, 1) (List.mem_of_getElem? (i := 20) rfl), rfl⟩
theorem pX9_over_41 : At cX9_over 41 (.iload_n 2) 1 42 := ⟨tX9_over_0_ok (41, .iload_n 2, 1) (List.mem_of_getElem? (i := 21) rfl), rfl⟩
theorem pX9_over_42 : At cX9_over 42 (.iload_n 3) 1 43 := ⟨tX9_over_0_ok (42, .iload_n 3, 1) (List.mem_of_getElem? (i := 22) rfl), rfl⟩
theorem pX9_over_43 : At cX9_over 43 (.invokevirtual 233) 3 46 := ⟨tX9_over_0_ok (43, .invokevirtual 233, 3) (List.mem_of_getElem? (i := 23) rfl), rfl⟩
theorem pX9_over_46 : At cX9_over 46 (.istore 4) 2 48 := ⟨tX9_over_0_ok (46, .istore 4, 2) (List.mem_of_getElem? (i := 24) rfl), rfl⟩
theorem pX9_over_48 : At cX9_over 48 (.iload 4) 2 50 := ⟨tX9_over_0_ok (48, .iload 4, 2) (List.mem_of_getElem? (i := 25) rfl), rfl⟩
theorem pX9_over_50 : Bt cX9_over 50 (.ifCond .ge 11) 11 61 53 := ⟨tX9_over_0_ok (50, .ifCond .ge 11, 3) (List.mem_of_getElem? (i := 26) rfl), by decide, rfl⟩
theorem pX9_over_53 : At cX9_over 53 (.aload_n 0) 1 54 := ⟨tX9_over_0_ok (53, .aload_n 0, 1) (List.mem_of_getElem? (i := 27) rfl), rfl⟩
theorem pX9_over_54 : At cX9_over 54 (.iconst 2) 1 55 := ⟨tX9_over_0_ok (54, .iconst 2, 1) (List.mem_of_getElem? (i := 28) rfl), rfl⟩
theorem pX9_over_55 : At cX9_over 55 (.invokevirtual 80) 3 58 := ⟨tX9_over_0_ok (55, .invokevirtual 80, 3) (List.mem_of_getElem? (i := 29) rfl), rfl⟩
theorem pX9_over_58 : Bt cX9_over 58 (.goto 5) 5 63 61 := ⟨tX9_over_0_ok (58, .goto 5, 3) (List.mem_of_getElem? (i := 30) rfl), by decide, rfl⟩
theorem pX9_over_61 : At cX9_over 61 (.iload 4) 2 63 := ⟨tX9_over_0_ok (61, .iload 4, 2) (List.mem_of_getElem? (i := 31) rfl), rfl⟩
theorem pX9_over_63 : At cX9_over 63 (.ireturn) 1 64 := ⟨tX9_over_0_ok (63, .ireturn, 1) (List.mem_of_getElem? (i := 32) rfl), rfl⟩
def tX9_pushBySize_0 : List (Nat × Instr × Nat) := [(0, .iload_n 0, 1), (1, .iconst 2, 1), (2, .irem, 1), (3, .iconst 1, 1), (4, .if_icmp .ne 12, 3), (7, .iload_n 0, 1), (8, .iconst 1, 1), (9, .iadd, 1), (10, .ineg, 1), (11, .iconst 2, 1), (12, .idiv, 1), (13, .goto 6, 3), (16, .iload_n 0, 1), (17, .iconst 2, 1), (18, .idiv, 1), (19, .ireturn, 1)]
theorem tX9_pushBySize_0_ok : ∀ q ∈ tX9_pushBySize_0, decode cX9_pushBySize q.1 = .ok (q.2.1, q.2.2) := by decide +kernel
theorem pX9_pushBySize_0 : At cX9_pushBySize 0 (.iload_n 0) 1 1 := ⟨tX9_pushBySize_0_ok (0, .iload_n 0, 1) (List.mem_of_getElem? (i := 0) rfl), rfl⟩
theorem pX9_pushBySize_1 : At cX9_pushBySize 1 (.iconst 2) 1 2 := ⟨tX9_pushBySize_0_ok (1, .iconst 2, 1) (List.mem_of_getElem? (i := 1) rfl), rfl⟩
theorem pX9_pushBySize_2 : At cX9_pushBySize 2 (.irem) 1 3 := ⟨tX9_pushBySize_0_ok (2, .irem, 1) (List.mem_of_getElem? (i := 2) rfl), rfl⟩
theorem pX9_pushBySize_3 : At cX9_pushBySize 3 (.iconst 1) 1 4 := ⟨tX9_pushBySize_0_ok (3, .iconst 1, 1) (List.mem_of_getElem? (i := 3) rfl), rfl⟩
theorem pX9_pushBySize_4 : Bt cX9_pushBySize 4 (.if_icmp .ne 12) 12 16 7 := ⟨tX9_pushBySize_0_ok (4, .if_icmp .ne 12, 3) (List.mem_of_getElem? (i := 4) rfl), by decide, rfl⟩
theorem pX9_pushBySize_7 : At cX9_pushBySize 7 (.iload_n 0) 1 8 := ⟨tX9_pushBySize_0_ok (7, .iload_n 0, 1) (List.mem_of_getElem? (i := 5) rfl), rfl⟩
theorem pX9_pushBySize_8 : At cX9_pushBySize 8 (.iconst 1) 1 9 := ⟨tX9_pushBySize_0_ok (8, .iconst 1, 1) (List.mem_of_getElem? (i := 6) rfl), rfl⟩
theorem pX9_pushBySize_9 : At cX9_pushBySize 9 (.iadd) 1 10 := ⟨tX9_pushBySize_0_ok (9, .iadd, 1) (List.mem_of_getElem? (i := 7) rfl), rfl⟩
theorem pX9_pushBySize_10 : At cX9_pushBySize 10 (.ineg) 1 11 := ⟨tX9_pushBySize_0_ok (10, .ineg, 1) (List.mem_of_getElem? (i := 8) rfl), rfl⟩
theorem pX9_pushBySize_11 : At cX9_pushBySize 11 (.iconst 2) 1 12 := ⟨tX9_pushBySize_0_ok (11, .iconst 2, 1) (List.mem_of_getElem? (i := 9) rfl), rfl⟩
theorem pX9_pushBySize_12 : At cX9_pushBySize 12 (.idiv) 1 13 := ⟨tX9_pushBySize_0_ok (12, .idiv, 1) (List.mem_of_getElem? (i := 10) rfl), rfl⟩
theorem pX9_pushBySize_13 : Bt cX9_pushBySize 13 (.goto 6) 6 19 16 := ⟨tX9_pushBySize_0_ok (13, .goto 6, 3) (List.mem_of_getElem? (i := 11) rfl), by decide, rfl⟩
theorem pX9_pushBySize_16 : At cX9_pushBySize 16 (.iload_n 0) 1 17 := ⟨tX9_pushBySize_0_ok (16, .iload_n 0, 1) (List.mem_of_getElem? (i := 12) rfl), rfl⟩
theorem pX9_pushBySize_17 : At cX9_pushBySize 17 (.iconst 2) 1 18 := ⟨tX9_pushBySize_0_ok (17, .iconst 2, 1) (List.mem_of_getElem? (i := 13) rfl), rfl⟩
theorem pX9_pushBySize_18 : At cX9_pushBySize 18 (.idiv) 1 19 := ⟨tX9_pushBySize_0_ok (18, .idiv, 1) (List.mem_of_getElem? (i := 14) rfl), rfl⟩
theorem pX9_pushBySize_19 : At cX9_pushBySize 19 (.ireturn) 1 20 := ⟨tX9_pushBySize_0_ok (19, .ireturn, 1) (List.mem_of_getElem? (i := 15) rfl), rfl⟩
def tX9_soonest_0 : List (Nat × Instr × Nat) := [(0, .aload_n 0, 1), (1, .iload_n 1, 1), (2, .invokevirtual 101, 3), (5, .ifCond .eq 19, 3), (8, .iload_n 2, 1), (9, .invokestatic 160, 3), (12, .ifCond .eq 12, 3), (15, .iload_n 3, 1), (16, .iconst 0, 1), (17, .iconst 1, 1), (18, .invokestatic 104, 3), (21, .ifCond .ne 9, 3), (24, .aload_n 0, 1), (25, .iconst 1, 1), (26, .invokevirtual 80, 3), (29, .ireturn, 1), (30, .iconst 0, 1), (31, .istore 4, 2), (33, .iconst (-1), 1), (34, .istore 5, 2), (36, .iconst 0, 1), (37, .istore 6, 2), (39, .iload 6, 2), (41, .bipush 18, 2), (43, .if_icmp .gt 61, 3), (46, .aload_n 0, 1), (47, .getfield 37, 3), (50, .aload_n 0, 1), (51, .getfield 10, 3), (54, .getfield 88, 3), (57, .iload_n 1, 1), (58, .aaload, 1), (59, .iload_n 2, 1), (60, .iload 6, 2), (62, .invokestatic 237, 3), (65, .invokevirtual 233, 3), (68, .istore 7, 2), (70, .iload 7, 2), (72, .ifCond .lt 26, 3), (75, .iload 5, 2), (77, .ifCond .lt 10, 3), (80, .iload 7, 2), (82, .iload 5, 2), (84, .if_icmp .ge 14, 3), (87, .iload 6, 2), (89, .invokestatic 237, 3), (92, .istore 4, 2), (94, .iload 7, 2), (96, .istore 5, 2), (98, .iinc 6 1, 3), (101, .goto (-62), 3), (104, .iload 5, 2), (106, .ifCond .ge 9, 3), (109, .aload_n 0, 1), (110, .iconst 2, 1), (111, .invokevirtual 80, 3), (114, .ireturn, 1), (115, .iload_n 3, 1), (116, .ifCond .ne 8, 3), (119, .iload 4, 2), (121, .goto 5, 3), (124, .iload 5, 2), (126, .ireturn, 1)]
theorem tX9_soonest_0_ok : ∀ q ∈ tX9_soonest_0, decode cX9_soonest q.1 = .ok (q.2.1, q.2.2) := by decide +kernel
theorem pX9_soonest_0 : At cX9_soonest 0 (.aload_n 0) 1 1 := ⟨tX9_soonest_0_ok (0, .aload_n 0, 1) (List.mem_of_getElem? (i := 0) rfl), rfl⟩
theorem pX9_soonest_1 : At cX9_soonest 1 (.iload_n 1) 1 2 := ⟨tX9_soonest_0_ok (1, .iload_n 1, 1) (List.mem_of_getElem? (i := 1) rfl), rfl⟩
theorem pX9_soonest_2 : At cX9_soonest 2 (.invokevirtual 101) 3 5 := ⟨tX9_soonest_0_ok (2, .invokevirtual 101, 3) (List.mem_of_getElem? (i := 2) rfl), rfl⟩
theorem pX9_soonest_5 : Bt cX9_soonest 5 (.ifCond .eq 19) 19 24 8 := ⟨tX9_soonest_0_ok (5, .ifCond .eq 19, 3) (List.mem_of_getElem? (i := 3) rfl), by decide, rfl⟩
theorem pX9_soonest_8 : At cX9_soonest 8 (.iload_n 2) 1 9 := ⟨tX9_soonest_0_ok (8, .iload_n 2, 1) (List.mem_of_getElem? (i := 4) rfl), rfl⟩
theorem pX9_soonest_9 : At cX9_soonest 9 (.invokestatic 160) 3 12 := ⟨tX9_soonest_0_ok (9, .invokestatic 160, 3) (List.mem_of_getElem? (i := 5) rfl), rfl⟩
theorem pX9_soonest_12 : Bt cX9_soonest 12 (.ifCond .eq 12) 12 24 15 := ⟨tX9_soonest_0_ok (12, .ifCond .eq 12, 3) (List.mem_of_getElem? (i := 6) rfl), by decide, rfl⟩
theorem pX9_soonest_15 : At cX9_soonest 15 (.iload_n 3) 1 16 := ⟨tX9_soonest_0_ok (15, .iload_n 3, 1) (List.mem_of_getElem? (i := 7) rfl), rfl⟩
theorem pX9_soonest_16 : At cX9_soonest 16 (.iconst 0) 1 17 := ⟨tX9_soonest_0_ok (16, .iconst 0, 1) (List.mem_of_getElem? (i := 8) rfl), rfl⟩
theorem pX9_soonest_17 : At cX9_soonest 17 (.iconst 1) 1 18 := ⟨tX9_soonest_0_ok (17, .iconst 1, 1) (List.mem_of_getElem? (i := 9) rfl), rfl⟩
theorem pX9_soonest_18 : At cX9_soonest 18 (.invokestatic 104) 3 21 := ⟨tX9_soonest_0_ok (18, .invokestatic 104, 3) (List.mem_of_getElem? (i := 10) rfl), rfl⟩
theorem pX9_soonest_21 : Bt cX9_soonest 21 (.ifCond .ne 9) 9 30 24 := ⟨tX9_soonest_0_ok (21, .ifCond .ne 9, 3) (List.mem_of_getElem? (i := 11) rfl), by decide, rfl⟩
theorem pX9_soonest_24 : At cX9_soonest 24 (.aload_n 0) 1 25 := ⟨tX9_soonest_0_ok (24, .aload_n 0, 1) (List.mem_of_getElem? (i := 12) rfl), rfl⟩
theorem pX9_soonest_25 : At cX9_soonest 25 (.iconst 1) 1 26 := ⟨tX9_soonest_0_ok (25, .iconst 1, 1) (List.mem_of_getElem? (i := 13) rfl), rfl⟩
theorem pX9_soonest_26 : At cX9_soonest 26 (.invokevirtual 80) 3 29 := ⟨tX9_soonest_0_ok (26, .invokevirtual 80, 3) (List.mem_of_getElem? (i := 14) rfl), rfl⟩
theorem pX9_soonest_29 : At cX9_soonest 29 (.ireturn) 1 30 := ⟨tX9_soonest_0_ok (29, .ireturn, 1) (List.mem_of_getElem? (i := 15) rfl), rfl⟩
theorem pX9_soonest_30 : At cX9_soonest 30 (.iconst 0) 1 31 := ⟨tX9_soonest_0_ok (30, .iconst 0, 1) (List.mem_of_getElem? (i := 16) rfl), rfl⟩
theorem pX9_soonest_31 : At cX9_soonest 31 (.istore 4) 2 33 := ⟨tX9_soonest_0_ok (31, .istore 4, 2) (List.mem_of_getElem? (i := 17) rfl), rfl⟩
theorem pX9_soonest_33 : At cX9_soonest 33 (.iconst (-1)) 1 34 := ⟨tX9_soonest_0_ok (33, .iconst (-1), 1) (List.mem_of_getElem? (i := 18) rfl), rfl⟩
theorem pX9_soonest_34 : At cX9_soonest 34 (.istore 5) 2 36 := ⟨tX9_soonest_0_ok (34, .istore 5, 2) (List.mem_of_getElem? (i := 19) rfl), rfl⟩
theorem pX9_soonest_36 : At cX9_soonest 36 (.iconst 0) 1 37 := ⟨tX9_soonest_0_ok (36, .iconst 0, 1) (List.mem_of_getElem? (i := 20) rfl), rfl⟩
theorem pX9_soonest_37 : At cX9_soonest 37 (.istore 6) 2 39 := ⟨tX9_soonest_0_ok (37, .istore 6, 2) (List.mem_of_getElem? (i := 21) rfl), rfl⟩
theorem pX9_soonest_39 : At cX9_soonest 39 (.iload 6) 2 41 := ⟨tX9_soonest_0_ok (39, .iload 6, 2) (List.mem_of_getElem? (i := 22) rfl), rfl⟩
theorem pX9_soonest_41 : At cX9_soonest 41 (.bipush 18) 2 43 := ⟨tX9_soonest_0_ok (41, .bipush 18, 2) (List.mem_of_getElem? (i := 23) rfl), rfl⟩
theorem pX9_soonest_43 : Bt cX9_soonest 43 (.if_icmp .gt 61) 61 104 46 := ⟨tX9_soonest_0_ok (43, .if_icmp .gt 61, 3) (List.mem_of_getElem? (i := 24) rfl), by decide, rfl⟩
theorem pX9_soonest_46 : At cX9_soonest 46 (.aload_n 0) 1 47 := ⟨tX9_soonest_0_ok (46, .aload_n 0, 1) (List.mem_of_getElem? (i := 25) rfl), rfl⟩
theorem pX9_soonest_47 : At cX9_soonest 47 (.getfield 37) 3 50 := ⟨tX9_soonest_0_ok (47, .getfield 37, 3) (List.mem_of_getElem? (i := 26) rfl), rfl⟩
theorem pX9_soonest_50 : At cX9_soonest 50 (.aload_n 0) 1 51 := ⟨tX9_soonest_0_ok (50, .aload_n 0, 1) (List.mem_of_getElem? (i := 27) rfl), rfl⟩
theorem pX9_soonest_51 : At cX9_soonest 51 (.getfield 10) 3 54 := ⟨tX9_soonest_0_ok (51, .getfield 10, 3) (List.mem_of_getElem? (i := 28) rfl), rfl⟩
theorem pX9_soonest_54 : At cX9_soonest 54 (.getfield 88) 3 57 := ⟨tX9_soonest_0_ok (54, .getfield 88, 3) (List.mem_of_getElem? (i := 29) rfl), rfl⟩
theorem pX9_soonest_57 : At cX9_soonest 57 (.iload_n 1) 1 58 := ⟨tX9_soonest_0_ok (57, .iload_n 1, 1) (List.mem_of_getElem? (i := 30) rfl), rfl⟩
theorem pX9_soonest_58 : At cX9_soonest 58 (.aaload) 1 59 := ⟨tX9_soonest_0_ok (58, .aaload, 1) (List.mem_of_getElem? (i := 31) rfl), rfl⟩
theorem pX9_soonest_59 : At cX9_soonest 59 (.iload_n 2) 1 60 := ⟨tX9_soonest_0_ok (59, .iload_n 2, 1) (List.mem_of_getElem? (i := 32) rfl), rfl⟩
theorem pX9_soonest_60 : At cX9_soonest 60 (.iload 6) 2 62 := ⟨tX9_soonest_0_ok (60, .iload 6, 2) (List.mem_of_getElem? (i := 33) rfl), rfl⟩
theorem pX9_soonest_62 : At cX9_soonest 62 (.invokestatic 237) 3 65 := ⟨tX9_soonest_0_ok (62, .invokestatic 237, 3) (List.mem_of_getElem? (i := 34) rfl), rfl⟩
theorem pX9_soonest_65 : At cX9_soonest 65 (.invokevirtual 233) 3 68 := ⟨tX9_soonest_0_ok (65, .invokevirtual 233, 3) (List.mem_of_getElem? (i := 35) rfl), rfl⟩
theorem pX9_soonest_68 : At cX9_soonest 68 (.istore 7) 2 70 := ⟨tX9_soonest_0_ok (68, .istore 7, 2) (List.mem_of_getElem? (i := 36) rfl), rfl⟩
theorem pX9_soonest_70 : At cX9_soonest 70 (.iload 7) 2 72 := ⟨tX9_soonest_0_ok (70, .iload 7, 2) (List.mem_of_getElem? (i := 37) rfl), rfl⟩
theorem pX9_soonest_72 : Bt cX9_soonest 72 (.ifCond .lt 26) 26 98 75 := ⟨tX9_soonest_0_ok (72, .ifCond .lt 26, 3) (List.mem_of_getElem? (i := 38) rfl), by decide, rfl⟩
theorem pX9_soonest_75 : At cX9_soonest 75 (.iload 5) 2 77 := ⟨tX9_soonest_0_ok (75, .iload 5, 2) (List.mem_of_getElem? (i := 39) rfl), rfl⟩
theorem pX9_soonest_77 : Bt cX9_soonest 77 (.ifCond .lt 10) 10 87 80 := ⟨tX9_soonest_0_ok (77, .ifCond .lt 10, 3) (List.mem_of_getElem? (i := 40) rfl), by decide, rfl⟩
theorem pX9_soonest_80 : At cX9_soonest 80 (.iload 7) 2 82 := ⟨tX9_soonest_0_ok (80, .iload 7, 2) (List.mem_of_getElem? (i := 41) rfl), rfl⟩
theorem pX9_soonest_82 : At cX9_soonest 82 (.iload 5) 2 84 := ⟨tX9_soonest_0_ok (82, .iload 5, 2) (List.mem_of_getElem? (i := 42) rfl), rfl⟩
theorem pX9_soonest_84 : Bt cX9_soonest 84 (.if_icmp .ge 14) 14 98 87 := ⟨tX9_soonest_0_ok (84, .if_icmp .ge 14, 3) (List.mem_of_getElem? (i := 43) rfl), by decide, rfl⟩
theorem pX9_soonest_87 : At cX9_soonest 87 (.iload 6) 2 89 := ⟨tX9_soonest_0_ok (87, .iload 6, 2) (List.mem_of_getElem? (i := 44) rfl), rfl⟩
theorem pX9_soonest_89 : At cX9_soonest 89 (.invokestatic 237) 3 92 := ⟨tX9_soonest_0_ok (89, .invokestatic 237, 3) (List.mem_of_getElem? (i := 45) rfl), rfl⟩
theorem pX9_soonest_92 : At cX9_soonest 92 (.istore 4) 2 94 := ⟨tX9_soonest_0_ok (92, .istore 4, 2) (List.mem_of_getElem? (i := 46) rfl), rfl⟩
theorem pX9_soonest_94 : At cX9_soonest 94 (.iload 7) 2 96 := ⟨tX9_soonest_0_ok (94, .iload 7, 2) (List.mem_of_getElem? (i := 47) rfl), rfl⟩
theorem pX9_soonest_96 : At cX9_soonest 96 (.istore 5) 2 98 := ⟨tX9_soonest_0_ok (96, .istore 5, 2) (List.mem_of_getElem? (i := 48) rfl), rfl⟩
theorem pX9_soonest_98 : At cX9_soonest 98 (.iinc 6 1) 3 101 := ⟨tX9_soonest_0_ok (98, .iinc 6 1, 3) (List.mem_of_getElem? (i := 49) rfl), rfl⟩
theorem pX9_soonest_101 : Bt cX9_soonest 101 (.goto (-62)) (-62) 39 104 := ⟨tX9_soonest_0_ok (101, .goto (-62), 3) (List.mem_of_getElem? (i := 50) rfl), by decide, rfl⟩
theorem pX9_soonest_104 : At cX9_soonest 104 (.iload 5) 2 106 := ⟨tX9_soonest_0_ok (104, .iload 5, 2) (List.mem_of_getElem? (i := 51) rfl), rfl⟩
theorem pX9_soonest_106 : Bt cX9_soonest 106 (.ifCond .ge 9) 9 115 109 := ⟨tX9_soonest_0_ok (106, .ifCond .ge 9, 3) (List.mem_of_getElem? (i := 52) rfl), by decide, rfl⟩
theorem pX9_soonest_109 : At cX9_soonest 109 (.aload_n 0) 1 110 := ⟨tX9_soonest_0_ok (109, .aload_n 0, 1) (List.mem_of_getElem? (i := 53) rfl), rfl⟩
theorem pX9_soonest_110 : At cX9_soonest 110 (.iconst 2) 1 111 := ⟨tX9_soonest_0_ok (110, .iconst 2, 1) (List.mem_of_getElem? (i := 54) rfl), rfl⟩
theorem pX9_soonest_111 : At cX9_soonest 111 (.invokevirtual 80) 3 114 := ⟨tX9_soonest_0_ok (111, .invokevirtual 80, 3) (List.mem_of_getElem? (i := 55) rfl), rfl⟩
theorem pX9_soonest_114 : At cX9_soonest 114 (.ireturn) 1 115 := ⟨tX9_soonest_0_ok (114, .ireturn, 1) (List.mem_of_getElem? (i := 56) rfl), rfl⟩
theorem pX9_soonest_115 : At cX9_soonest 115 (.iload_n 3) 1 116 := ⟨tX9_soonest_0_ok (115, .iload_n 3, 1) (List.mem_of_getElem? (i := 57) rfl), rfl⟩
theorem pX9_soonest_116 : Bt cX9_soonest 116 (.ifCond .ne 8) 8 124 119 := ⟨tX9_soonest_0_ok (116, .ifCond .ne 8, 3) (List.mem_of_getElem? (i := 58) rfl), by decide, rfl⟩
theorem pX9_soonest_119 : At cX9_soonest 119 (.iload 4) 2 121 := ⟨tX9_soonest_0_ok (119, .iload 4, 2) (List.mem_of_getElem? (i := 59) rfl), rfl⟩
theorem pX9_soonest_121 : Bt cX9_soonest 121 (.goto 5) 5 126 124 := ⟨tX9_soonest_0_ok (121, .goto 5, 3) (List.mem_of_getElem? (i := 60) rfl), by decide, rfl⟩
theorem pX9_soonest_124 : At cX9_soonest 124 (.iload 5) 2 126 := ⟨tX9_soonest_0_ok (124, .iload 5, 2) (List.mem_of_getElem? (i := 61) rfl), rfl⟩
theorem pX9_soonest_126 : At cX9_soonest 126 (.ireturn) 1 127 := ⟨tX9_soonest_0_ok (126, .ireturn, 1) (List.mem_of_getElem? (i := 62) rfl), rfl⟩
def tX9_least_0 : List (Nat × Instr × Nat) := [(0, .aload_n 0, 1), (1, .iload_n 1, 1), (2, .invokevirtual 101, 3), (5, .ifCond .eq 10, 3), (8, .iload_n 2, 1), (9, .invokestatic 160, 3), (12, .ifCond .ne 9, 3), (15, .aload_n 0, 1), (16, .iconst 1, 1), (17, .invokevirtual 80, 3), (20, .ireturn, 1), (21, .iconst 0, 1), (22, .istore_n 3, 1), (23, .iload_n 3, 1), (24, .bipush 18, 2), (26, .if_icmp .gt 38, 3), (29, .aload_n 0, 1), (30, .getfield 37, 3), (33, .aload_n 0, 1), (34, .getfield 10, 3), (37, .getfield 88, 3), (40, .iload_n 1, 1), (41, .aaload, 1), (42, .iload_n 2, 1), (43, .iload_n 3, 1), (44, .invokestatic 237, 3), (47, .invokevirtual 233, 3), (50, .ifCond .lt 8, 3), (53, .iload_n 3, 1), (54, .invokestatic 237, 3), (57, .ireturn, 1), (58, .iinc 3 1, 3), (61, .goto (-38), 3), (64, .aload_n 0, 1), (65, .iconst 2, 1), (66, .invokevirtual 80, 3), (69, .ireturn, 1)]
theorem tX9_least_0_ok : ∀ q ∈ tX9_least_0, decode cX9_least q.1 = .ok (q.2.1, q.2.2) := by decide +kernel
theorem pX9_least_0 : At cX9_least 0 (.aload_n 0) 1 1 := ⟨tX9_least_0_ok (0, .aload_n 0, 1) (List.mem_of_getElem? (i := 0) rfl), rfl⟩
theorem pX9_least_1 : At cX9_least 1 (.iload_n 1) 1 2 := ⟨tX9_least_0_ok (1, .iload_n 1, 1) (List.mem_of_getElem? (i := 1) rfl), rfl⟩
theorem pX9_least_2 : At cX9_least 2 (.invokevirtual 101) 3 5 := ⟨tX9_least_0_ok (2, .invokevirtual 101, 3) (List.mem_of_getElem? (i := 2) rfl), rfl⟩
theorem pX9_least_5 : Bt cX9_least 5 (.ifCond .eq 10) 10 15 8 := ⟨tX9_least_0_ok (5, .ifCond .eq 10, 3) (List.mem_of_getElem? (i := 3) rfl), by decide, rfl⟩
theorem pX9_least_8 : At cX9_least 8 (.iload_n 2) 1 9 := ⟨tX9_least_0_ok (8, .iload_n 2, 1) (List.mem_of_getElem? (i := 4) rfl), rfl⟩
theorem pX9_least_9 : At cX9_least 9 (.invokestatic 160) 3 12 := ⟨tX9_least_0_ok (9, .invokestatic 160, 3) (List.mem_of_getElem? (i := 5) rfl), rfl⟩
theorem pX9_least_12 : Bt cX9_least 12 (.ifCond .ne 9) 9 21 15 := ⟨tX9_least_0_ok (12, .ifCond .ne 9, 3) (List.mem_of_getElem? (i := 6) rfl), by decide, rfl⟩
theorem pX9_least_15 : At cX9_least 15 (.aload_n 0) 1 16 := ⟨tX9_least_0_ok (15, .aload_n 0, 1) (List.mem_of_getElem? (i := 7) rfl), rfl⟩
theorem pX9_least_16 : At cX9_least 16 (.iconst 1) 1 17 := ⟨tX9_least_0_ok (16, .iconst 1, 1) (List.mem_of_getElem? (i := 8) rfl), rfl⟩
theorem pX9_least_17 : At cX9_least 17 (.invokevirtual 80) 3 20 := ⟨tX9_least_0_ok (17, .invokevirtual 80, 3) (List.mem_of_getElem? (i := 9) rfl), rfl⟩
theorem pX9_least_20 : At cX9_least 20 (.ireturn) 1 21 := ⟨tX9_least_0_ok (20, .ireturn, 1) (List.mem_of_getElem? (i := 10) rfl), rfl⟩
theorem pX9_least_21 : At cX9_least 21 (.iconst 0) 1 22 := ⟨tX9_least_0_ok (21, .iconst 0, 1) (List.mem_of_getElem? (i := 11) rfl), rfl⟩
theorem pX9_least_22 : At cX9_least 22 (.istore_n 3) 1 23 := ⟨tX9_least_0_ok (22, .istore_n 3, 1) (List.mem_of_getElem? (i := 12) rfl), rfl⟩
theorem pX9_least_23 : At cX9_least 23 (.iload_n 3) 1 24 := ⟨tX9_least_0_ok (23, .iload_n 3, 1) (List.mem_of_getElem? (i := 13) rfl), rfl⟩
theorem pX9_least_24 : At cX9_least 24 (.bipush 18) 2 26 := ⟨tX9_least_0_ok (24, .bipush 18, 2) (List.mem_of_getElem? (i := 14) rfl), rfl⟩
theorem pX9_least_26 : Bt cX9_least 26 (.if_icmp .gt 38) 38 64 29 := ⟨tX9_least_0_ok (26, .if_icmp .gt 38, 3) (List.mem_of_getElem? (i := 15) rfl), by decide, rfl⟩
theorem pX9_least_29 : At cX9_least 29 (.aload_n 0) 1 30 := ⟨tX9_least_0_ok (29, .aload_n 0, 1) (List.mem_of_getElem? (i := 16) rfl), rfl⟩
theorem pX9_least_30 : At cX9_least 30 (.getfield 37) 3 33 := ⟨tX9_least_0_ok (30, .getfield 37, 3) (List.mem_of_getElem? (i := 17) rfl), rfl⟩
theorem pX9_least_33 : At cX9_least 33 (.aload_n 0) 1 34 := ⟨tX9_least_0_ok (33, .aload_n 0, 1) (List.mem_of_getElem? (i := 18) rfl), rfl⟩
theorem pX9_least_34 : At cX9_least 34 (.getfield 10) 3 37 := ⟨tX9_least_0_ok (34, .getfield 10, 3) (List.mem_of_getElem? (i := 19) rfl), rfl⟩
theorem pX9_least_37 : At cX9_least 37 (.getfield 88) 3 40 := ⟨tX9_least_0_ok (37, .getfield 88, 3) (List.mem_of_getElem? (i := 20) rfl), rfl⟩
theorem pX9_least_40 : At cX9_least 40 (.iload_n 1) 1 41 := ⟨tX9_least_0_ok (40, .iload_n 1, 1) (List.mem_of_getElem? (i := 21) rfl), rfl⟩
theorem pX9_least_41 : At cX9_least 41 (.aaload) 1 42 := ⟨tX9_least_0_ok (41, .aaload, 1) (List.mem_of_getElem? (i := 22) rfl), rfl⟩
theorem pX9_least_42 : At cX9_least 42 (.iload_n 2) 1 43 := ⟨tX9_least_0_ok (42, .iload_n 2, 1) (List.mem_of_getElem? (i := 23) rfl), rfl⟩
theorem pX9_least_43 : At cX9_least 43 (.iload_n 3) 1 44 := ⟨tX9_least_0_ok (43, .iload_n 3, 1) (List.mem_of_getElem? (i := 24) rfl), rfl⟩
theorem pX9_least_44 : At cX9_least 44 (.invokestatic 237) 3 47 := ⟨tX9_least_0_ok (44, .invokestatic 237, 3) (List.mem_of_getElem? (i := 25) rfl), rfl⟩
theorem pX9_least_47 : At cX9_least 47 (.invokevirtual 233) 3 50 := ⟨tX9_least_0_ok (47, .invokevirtual 233, 3) (List.mem_of_getElem? (i := 26) rfl), rfl⟩
theorem pX9_least_50 : Bt cX9_least 50 (.ifCond .lt 8) 8 58 53 := ⟨tX9_least_0_ok (50, .ifCond .lt 8, 3) (List.mem_of_getElem? (i := 27) rfl), by decide, rfl⟩
theorem pX9_least_53 : At cX9_least 53 (.iload_n 3) 1 54 := ⟨tX9_least_0_ok (53, .iload_n 3, 1) (List.mem_of_getElem? (i := 28) rfl), rfl⟩
theorem pX9_least_54 : At cX9_least 54 (.invokestatic 237) 3 57 := ⟨tX9_least_0_ok (54, .invokestatic 237, 3) (List.mem_of_getElem? (i := 29) rfl), rfl⟩
theorem pX9_least_57 : At cX9_least 57 (.ireturn) 1 58 := ⟨tX9_least_0_ok (57, .ireturn, 1) (List.mem_of_getElem? (i := 30) rfl), rfl⟩
theorem pX9_least_58 : At cX9_least 58 (.iinc 3 1) 3 61 := ⟨tX9_least_0_ok (58, .iinc 3 1, 3) (List.mem_of_getElem? (i := 31) rfl), rfl⟩
theorem pX9_least_61 : Bt cX9_least 61 (.goto (-38)) (-38) 23 64 := ⟨tX9_least_0_ok (61, .goto (-38), 3) (List.mem_of_getElem? (i := 32) rfl), by decide, rfl⟩
theorem pX9_least_64 : At cX9_least 64 (.aload_n 0) 1 65 := ⟨tX9_least_0_ok (64, .aload_n 0, 1) (List.mem_of_getElem? (i := 33) rfl), rfl⟩
theorem pX9_least_65 : At cX9_least 65 (.iconst 2) 1 66 := ⟨tX9_least_0_ok (65, .iconst 2, 1) (List.mem_of_getElem? (i := 34) rfl), rfl⟩
theorem pX9_least_66 : At cX9_least 66 (.invokevirtual 80) 3 69 := ⟨tX9_least_0_ok (66, .invokevirtual 80, 3) (List.mem_of_getElem? (i := 35) rfl), rfl⟩
theorem pX9_least_69 : At cX9_least 69 (.ireturn) 1 70 := ⟨tX9_least_0_ok (69, .ireturn, 1) (List.mem_of_getElem? (i := 36) rfl), rfl⟩
def tX9_lifts_0 : List (Nat × Instr × Nat) := [(0, .iload_n 1, 1), (1, .bipush (-2), 2), (3, .aload_n 0, 1), (4, .getfield 10, 3), (7, .getfield 84, 3), (10, .iconst 1, 1), (11, .isub, 1), (12, .invokestatic 104, 3), (15, .ifCond .ne 9, 3), (18, .aload_n 0, 1), (19, .iconst 1, 1), (20, .invokevirtual 80, 3), (23, .ireturn, 1), (24, .aload_n 0, 1), (25, .getfield 51, 3), (28, .aload_n 0, 1), (29, .getfield 10, 3), (32, .invokevirtual 240, 3), (35, .iload_n 1, 1), (36, .bipush (-2), 2), (38, .if_icmp .ne 11, 3), (41, .aload_n 0, 1), (42, .getfield 51, 3), (45, .getfield 243, 3), (48, .ireturn, 1), (49, .iload_n 1, 1), (50, .iconst (-1), 1), (51, .if_icmp .ne 13, 3), (54, .aload_n 0, 1), (55, .getfield 51, 3), (58, .getfield 246, 3), (61, .goto 12, 3), (64, .aload_n 0, 1), (65, .getfield 51, 3), (68, .getfield 249, 3), (71, .iload_n 1, 1), (72, .iaload, 1), (73, .ireturn, 1)]
theorem tX9_lifts_0_ok : ∀ q ∈ tX9_lifts_0, decode cX9_lifts q.1 = .ok (q.2.1, q.2.2) := by decide +kernel
theorem pX9_lifts_0 : At cX9_lifts 0 (.iload_n 1) 1 1 := ⟨tX9_lifts_0_ok (0, .iload_n 1, 1) (List.mem_of_getElem? (i := 0) rfl), rfl⟩
theorem pX9_lifts_1 : At cX9_lifts 1 (.bipush (-2)) 2 3 := ⟨tX9_lifts_0_ok (1, .bipush (-2), 2) (List.mem_of_getElem? (i := 1) rfl), rfl⟩
theorem pX9_lifts_3 : At cX9_lifts 3 (.aload_n 0) 1 4 := ⟨tX9_lifts_0_ok (3, .aload_n 0, 1) (List.mem_of_getElem? (i := 2) rfl), rfl⟩
theorem pX9_lifts_4 : At cX9_lifts 4 (.getfield 10) 3 7 := ⟨tX9_lifts_0_ok (4, .getfield 10, 3) (List.mem_of_getElem? (i := 3) rfl), rfl⟩
theorem pX9_lifts_7 : At cX9_lifts 7 (.getfield 84) 3 10 := ⟨tX9_lifts_0_ok (7, .getfield 84, 3) (List.mem_of_getElem? (i := 4) rfl), rfl⟩
theorem pX9_lifts_10 : At cX9_lifts 10 (.iconst 1) 1 11 := ⟨tX9_lifts_0_ok (10, .iconst 1, 1) (List.mem_of_getElem? (i := 5) rfl), rfl⟩
theorem pX9_lifts_11 : At cX9_lifts 11 (.isub) 1 12 := ⟨tX9_lifts_0_ok (11, .isub, 1) (List.mem_of_getElem? (i := 6) rfl), rfl⟩
theorem pX9_lifts_12 : At cX9_lifts 12 (.invokestatic 104) 3 15 := ⟨tX9_lifts_0_ok (12, .invokestatic 104, 3) (List.mem_of_getElem? (i := 7) rfl), rfl⟩
theorem pX9_lifts_15 : Bt cX9_lifts 15 (.ifCond .ne 9) 9 24 18 := ⟨tX9_lifts_0_ok (15, .ifCond .ne 9, 3) (List.mem_of_getElem? (i := 8) rfl), by decide, rfl⟩
theorem pX9_lifts_18 : At cX9_lifts 18 (.aload_n 0) 1 19 := ⟨tX9_lifts_0_ok (18, .aload_n 0, 1) (List.mem_of_getElem? (i := 9) rfl), rfl⟩
theorem pX9_lifts_19 : At cX9_lifts 19 (.iconst 1) 1 20 := ⟨tX9_lifts_0_ok (19, .iconst 1, 1) (List.mem_of_getElem? (i := 10) rfl), rfl⟩
theorem pX9_lifts_20 : At cX9_lifts 20 (.invokevirtual 80) 3 23 := ⟨tX9_lifts_0_ok (20, .invokevirtual 80, 3) (List.mem_of_getElem? (i := 11) rfl), rfl⟩
theorem pX9_lifts_23 : At cX9_lifts 23 (.ireturn) 1 24 := ⟨tX9_lifts_0_ok (23, .ireturn, 1) (List.mem_of_getElem? (i := 12) rfl), rfl⟩
theorem pX9_lifts_24 : At cX9_lifts 24 (.aload_n 0) 1 25 := ⟨tX9_lifts_0_ok (24, .aload_n 0, 1) (List.mem_of_getElem? (i := 13) rfl), rfl⟩
theorem pX9_lifts_25 : At cX9_lifts 25 (.getfield 51) 3 28 := ⟨tX9_lifts_0_ok (25, .getfield 51, 3) (List.mem_of_getElem? (i := 14) rfl), rfl⟩
theorem pX9_lifts_28 : At cX9_lifts 28 (.aload_n 0) 1 29 := ⟨tX9_lifts_0_ok (28, .aload_n 0, 1) (List.mem_of_getElem? (i := 15) rfl), rfl⟩
theorem pX9_lifts_29 : At cX9_lifts 29 (.getfield 10) 3 32 := ⟨tX9_lifts_0_ok (29, .getfield 10, 3) (List.mem_of_getElem? (i := 16) rfl), rfl⟩
theorem pX9_lifts_32 : At cX9_lifts 32 (.invokevirtual 240) 3 35 := ⟨tX9_lifts_0_ok (32, .invokevirtual 240, 3) (List.mem_of_getElem? (i := 17) rfl), rfl⟩
theorem pX9_lifts_35 : At cX9_lifts 35 (.iload_n 1) 1 36 := ⟨tX9_lifts_0_ok (35, .iload_n 1, 1) (List.mem_of_getElem? (i := 18) rfl), rfl⟩
theorem pX9_lifts_36 : At cX9_lifts 36 (.bipush (-2)) 2 38 := ⟨tX9_lifts_0_ok (36, .bipush (-2), 2) (List.mem_of_getElem? (i := 19) rfl), rfl⟩
theorem pX9_lifts_38 : Bt cX9_lifts 38 (.if_icmp .ne 11) 11 49 41 := ⟨tX9_lifts_0_ok (38, .if_icmp .ne 11, 3) (List.mem_of_getElem? (i := 20) rfl), by decide, rfl⟩
theorem pX9_lifts_41 : At cX9_lifts 41 (.aload_n 0) 1 42 := ⟨tX9_lifts_0_ok (41, .aload_n 0, 1) (List.mem_of_getElem? (i := 21) rfl), rfl⟩
theorem pX9_lifts_42 : At cX9_lifts 42 (.getfield 51) 3 45 := ⟨tX9_lifts_0_ok (42, .getfield 51, 3) (List.mem_of_getElem? (i := 22) rfl), rfl⟩
theorem pX9_lifts_45 : At cX9_lifts 45 (.getfield 243) 3 48 := ⟨tX9_lifts_0_ok (45, .getfield 243, 3) (List.mem_of_getElem? (i := 23) rfl), rfl⟩
theorem pX9_lifts_48 : At cX9_lifts 48 (.ireturn) 1 49 := ⟨tX9_lifts_0_ok (48, .ireturn, 1) (List.mem_of_getElem? (i := 24) rfl), rfl⟩
theorem pX9_lifts_49 : At cX9_lifts 49 (.iload_n 1) 1 50 := ⟨tX9_lifts_0_ok (49, .iload_n 1, 1) (List.mem_of_getElem? (i := 25) rfl), rfl⟩
theorem pX9_lifts_50 : At cX9_lifts 50 (.iconst (-1)) 1 51 := ⟨tX9_lifts_0_ok (50, .iconst (-1), 1) (List.mem_of_getElem? (i := 26) rfl), rfl⟩
theorem pX9_lifts_51 : Bt cX9_lifts 51 (.if_icmp .ne 13) 13 64 54 := ⟨tX9_lifts_0_ok (51, .if_icmp .ne 13, 3) (List.mem_of_getElem? (i := 27) rfl), by decide, rfl⟩
theorem pX9_lifts_54 : At cX9_lifts 54 (.aload_n 0) 1 55 := ⟨tX9_lifts_0_ok (54, .aload_n 0, 1) (List.mem_of_getElem? (i := 28) rfl), rfl⟩
theorem pX9_lifts_55 : At cX9_lifts 55 (.getfield 51) 3 58 := ⟨tX9_lifts_0_ok (55, .getfield 51, 3) (List.mem_of_getElem? (i := 29) rfl), rfl⟩
theorem pX9_lifts_58 : At cX9_lifts 58 (.getfield 246) 3 61 := ⟨tX9_lifts_0_ok (58, .getfield 246, 3) (List.mem_of_getElem? (i := 30) rfl), rfl⟩
theorem pX9_lifts_61 : Bt cX9_lifts 61 (.goto 12) 12 73 64 := ⟨tX9_lifts_0_ok (61, .goto 12, 3) (List.mem_of_getElem? (i := 31) rfl), by decide, rfl⟩
theorem pX9_lifts_64 : At cX9_lifts 64 (.aload_n 0) 1 65 := ⟨tX9_lifts_0_ok (64, .aload_n 0, 1) (List.mem_of_getElem? (i := 32) rfl), rfl⟩
theorem pX9_lifts_65 : At cX9_lifts 65 (.getfield 51) 3 68 := ⟨tX9_lifts_0_ok (65, .getfield 51, 3) (List.mem_of_getElem? (i := 33) rfl), rfl⟩
theorem pX9_lifts_68 : At cX9_lifts 68 (.getfield 249) 3 71 := ⟨tX9_lifts_0_ok (68, .getfield 249, 3) (List.mem_of_getElem? (i := 34) rfl), rfl⟩
theorem pX9_lifts_71 : At cX9_lifts 71 (.iload_n 1) 1 72 := ⟨tX9_lifts_0_ok (71, .iload_n 1, 1) (List.mem_of_getElem? (i := 35) rfl), rfl⟩
theorem pX9_lifts_72 : At cX9_lifts 72 (.iaload) 1 73 := ⟨tX9_lifts_0_ok (72, .iaload, 1) (List.mem_of_getElem? (i := 36) rfl), rfl⟩
theorem pX9_lifts_73 : At cX9_lifts 73 (.ireturn) 1 74 := ⟨tX9_lifts_0_ok (73, .ireturn, 1) (List.mem_of_getElem? (i := 37) rfl), rfl⟩
def tX9_isSheet_0 : List (Nat × Instr × Nat) := [(0, .iload_n 0, 1), (1, .iconst 0, 1), (2, .iconst 3, 1), (3, .invokestatic 104, 3), (6, .ireturn, 1)]
theorem tX9_isSheet_0_ok : ∀ q ∈ tX9_isSheet_0, decode cX9_isSheet q.1 = .ok (q.2.1, q.2.2) := by decide +kernel
theorem pX9_isSheet_0 : At cX9_isSheet 0 (.iload_n 0) 1 1 := ⟨tX9_isSheet_0_ok (0, .iload_n 0, 1) (List.mem_of_getElem? (i := 0) rfl), rfl⟩
theorem pX9_isSheet_1 : At cX9_isSheet 1 (.iconst 0) 1 2 := ⟨tX9_isSheet_0_ok (1, .iconst 0, 1) (List.mem_of_getElem? (i := 1) rfl), rfl⟩
theorem pX9_isSheet_2 : At cX9_isSheet 2 (.iconst 3) 1 3 := ⟨tX9_isSheet_0_ok (2, .iconst 3, 1) (List.mem_of_getElem? (i := 2) rfl), rfl⟩
theorem pX9_isSheet_3 : At cX9_isSheet 3 (.invokestatic 104) 3 6 := ⟨tX9_isSheet_0_ok (3, .invokestatic 104, 3) (List.mem_of_getElem? (i := 3) rfl), rfl⟩
theorem pX9_isSheet_6 : At cX9_isSheet 6 (.ireturn) 1 7 := ⟨tX9_isSheet_0_ok (6, .ireturn, 1) (List.mem_of_getElem? (i := 4) rfl), rfl⟩
def tX9_rolled_0 : List (Nat × Instr × Nat) := [(0, .aload_n 0, 1), (1, .iload_n 1, 1), (2, .invokevirtual 101, 3), (5, .ifCond .eq 19, 3), (8, .iload_n 2, 1), (9, .invokestatic 252, 3), (12, .ifCond .eq 12, 3), (15, .iload_n 3, 1), (16, .iconst 0, 1), (17, .iconst 1, 1), (18, .invokestatic 104, 3), (21, .ifCond .ne 9, 3), (24, .aload_n 0, 1), (25, .iconst 1, 1), (26, .invokevirtual 80, 3), (29, .ireturn, 1), (30, .aload_n 0, 1), (31, .getfield 64, 3), (34, .iload_n 2, 1), (35, .aaload, 1), (36, .invokevirtual 255, 3), (39, .ifCond .eq 9, 3), (42, .aload_n 0, 1), (43, .iconst 2, 1), (44, .invokevirtual 80, 3), (47, .ireturn, 1), (48, .iconst 0, 1), (49, .istore 4, 2), (51, .iconst 0, 1), (52, .istore 5, 2), (54, .bipush (-9), 2), (56, .istore 6, 2), (58, .iload 6, 2), (60, .bipush 9, 2), (62, .if_icmp .gt 53, 3), (65, .aload_n 0, 1), (66, .getfield 37, 3), (69, .aload_n 0, 1), (70, .getfield 10, 3), (73, .getfield 88, 3), (76, .iload_n 1, 1), (77, .aaload, 1), (78, .iload 6, 2), (80, .aload_n 0, 1), (81, .getfield 64, 3), (84, .iload_n 2, 1), (85, .aaload, 1), (86, .invokevirtual 259, 3), (89, .ifCond .eq 20, 3), (92, .iload 5, 2), (94, .ifCond .ne 8, 3), (97, .iload 6, 2), (99, .goto 5, 3), (102, .iload 4, 2), (104, .istore 4, 2), (106, .iinc 5 1, 3), (109, .iinc 6 1, 3), (112, .goto (-54), 3), (115, .iload 5, 2), (117, .ifCond .ne 9, 3), (120, .aload_n 0, 1), (121, .iconst 2, 1), (122, .invokevirtual 80, 3), (125, .ireturn, 1), (126, .iload_n 3, 1), (127, .ifCond .ne 8, 3), (130, .iload 4, 2), (132, .goto 5, 3), (135, .iload 5, 2), (137, .ireturn, 1)]
theorem tX9_rolled_0_ok : ∀ q ∈ tX9_rolled_0, decode cX9_rolled q.1 = .ok (q.2.1, q.2.2) := by decide +kernel
theorem pX9_rolled_0 : At cX9_rolled 0 (.aload_n 0) 1 1 := ⟨tX9_rolled_0_ok (0, .aload_n 0, 1) (List.mem_of_getElem? (i := 0) rfl), rfl⟩
theorem pX9_rolled_1 : At cX9_rolled 1 (.iload_n 1) 1 2 := ⟨tX9_rolled_0_ok (1, .iload_n 1, 1) (List.mem_of_getElem? (i := 1) rfl), rfl⟩
theorem pX9_rolled_2 : At cX9_rolled 2 (.invokevirtual 101) 3 5 := ⟨tX9_rolled_0_ok (2, .invokevirtual 101, 3) (List.mem_of_getElem? (i := 2) rfl), rfl⟩
theorem pX9_rolled_5 : Bt cX9_rolled 5 (.ifCond .eq 19) 19 24 8 := ⟨tX9_rolled_0_ok (5, .ifCond .eq 19, 3) (List.mem_of_getElem? (i := 3) rfl), by decide, rfl⟩
theorem pX9_rolled_8 : At cX9_rolled 8 (.iload_n 2) 1 9 := ⟨tX9_rolled_0_ok (8, .iload_n 2, 1) (List.mem_of_getElem? (i := 4) rfl), rfl⟩
theorem pX9_rolled_9 : At cX9_rolled 9 (.invokestatic 252) 3 12 := ⟨tX9_rolled_0_ok (9, .invokestatic 252, 3) (List.mem_of_getElem? (i := 5) rfl), rfl⟩
theorem pX9_rolled_12 : Bt cX9_rolled 12 (.ifCond .eq 12) 12 24 15 := ⟨tX9_rolled_0_ok (12, .ifCond .eq 12, 3) (List.mem_of_getElem? (i := 6) rfl), by decide, rfl⟩
theorem pX9_rolled_15 : At cX9_rolled 15 (.iload_n 3) 1 16 := ⟨tX9_rolled_0_ok (15, .iload_n 3, 1) (List.mem_of_getElem? (i := 7) rfl), rfl⟩
theorem pX9_rolled_16 : At cX9_rolled 16 (.iconst 0) 1 17 := ⟨tX9_rolled_0_ok (16, .iconst 0, 1) (List.mem_of_getElem? (i := 8) rfl), rfl⟩
theorem pX9_rolled_17 : At cX9_rolled 17 (.iconst 1) 1 18 := ⟨tX9_rolled_0_ok (17, .iconst 1, 1) (List.mem_of_getElem? (i := 9) rfl), rfl⟩
theorem pX9_rolled_18 : At cX9_rolled 18 (.invokestatic 104) 3 21 := ⟨tX9_rolled_0_ok (18, .invokestatic 104, 3) (List.mem_of_getElem? (i := 10) rfl), rfl⟩
theorem pX9_rolled_21 : Bt cX9_rolled 21 (.ifCond .ne 9) 9 30 24 := ⟨tX9_rolled_0_ok (21, .ifCond .ne 9, 3) (List.mem_of_getElem? (i := 11) rfl), by decide, rfl⟩
theorem pX9_rolled_24 : At cX9_rolled 24 (.aload_n 0) 1 25 := ⟨tX9_rolled_0_ok (24, .aload_n 0, 1) (List.mem_of_getElem? (i := 12) rfl), rfl⟩
theorem pX9_rolled_25 : At cX9_rolled 25 (.iconst 1) 1 26 := ⟨tX9_rolled_0_ok (25, .iconst 1, 1) (List.mem_of_getElem? (i := 13) rfl), rfl⟩
theorem pX9_rolled_26 : At cX9_rolled 26 (.invokevirtual 80) 3 29 := ⟨tX9_rolled_0_ok (26, .invokevirtual 80, 3) (List.mem_of_getElem? (i := 14) rfl), rfl⟩
theorem pX9_rolled_29 : At cX9_rolled 29 (.ireturn) 1 30 := ⟨tX9_rolled_0_ok (29, .ireturn, 1) (List.mem_of_getElem? (i := 15) rfl), rfl⟩
theorem pX9_rolled_30 : At cX9_rolled 30 (.aload_n 0) 1 31 := ⟨tX9_rolled_0_ok (30, .aload_n 0, 1) (List.mem_of_getElem? (i := 16) rfl), rfl⟩
theorem pX9_rolled_31 : At cX9_rolled 31 (.getfield 64) 3 34 := ⟨tX9_rolled_0_ok (31, .getfield 64, 3) (List.mem_of_getElem? (i := 17) rfl), rfl⟩
theorem pX9_rolled_34 : At cX9_rolled 34 (.iload_n 2) 1 35 := ⟨tX9_rolled_0_ok (34, .iload_n 2, 1) (List.mem_of_getElem? (i := 18) rfl), rfl⟩
theorem pX9_rolled_35 : At cX9_rolled 35 (.aaload) 1 36 := ⟨tX9_rolled_0_ok (35, .aaload, 1) (List.mem_of_getElem? (i := 19) rfl), rfl⟩
theorem pX9_rolled_36 : At cX9_rolled 36 (.invokevirtual 255) 3 39 := ⟨tX9_rolled_0_ok (36, .invokevirtual 255, 3) (List.mem_of_getElem? (i := 20) rfl), rfl⟩
theorem pX9_rolled_39 : Bt cX9_rolled 39 (.ifCond .eq 9) 9 48 42 := ⟨tX9_rolled_0_ok (39, .ifCond .eq 9, 3) (List.mem_of_getElem? (i := 21) rfl), by decide, rfl⟩
theorem pX9_rolled_42 : At cX9_rolled 42 (.aload_n 0) 1 43 := ⟨tX9_rolled_0_ok (42, .aload_n 0, 1) (List.mem_of_getElem? (i := 22) rfl), rfl⟩
theorem pX9_rolled_43 : At cX9_rolled 43 (.iconst 2) 1 44 := ⟨tX9_rolled_0_ok (43, .iconst 2, 1) (List.mem_of_getElem? (i := 23) rfl), rfl⟩
theorem pX9_rolled_44 : At cX9_rolled 44 (.invokevirtual 80) 3 47 := ⟨tX9_rolled_0_ok (44, .invokevirtual 80, 3) (List.mem_of_getElem? (i := 24) rfl), rfl⟩
theorem pX9_rolled_47 : At cX9_rolled 47 (.ireturn) 1 48 := ⟨tX9_rolled_0_ok (47, .ireturn, 1) (List.mem_of_getElem? (i := 25) rfl), rfl⟩
theorem pX9_rolled_48 : At cX9_rolled 48 (.iconst 0) 1 49 := ⟨tX9_rolled_0_ok (48, .iconst 0, 1) (List.mem_of_getElem? (i := 26) rfl), rfl⟩
theorem pX9_rolled_49 : At cX9_rolled 49 (.istore 4) 2 51 := ⟨tX9_rolled_0_ok (49, .istore 4, 2) (List.mem_of_getElem? (i := 27) rfl), rfl⟩
theorem pX9_rolled_51 : At cX9_rolled 51 (.iconst 0) 1 52 := ⟨tX9_rolled_0_ok (51, .iconst 0, 1) (List.mem_of_getElem? (i := 28) rfl), rfl⟩
theorem pX9_rolled_52 : At cX9_rolled 52 (.istore 5) 2 54 := ⟨tX9_rolled_0_ok (52, .istore 5, 2) (List.mem_of_getElem? (i := 29) rfl), rfl⟩
theorem pX9_rolled_54 : At cX9_rolled 54 (.bipush (-9)) 2 56 := ⟨tX9_rolled_0_ok (54, .bipush (-9), 2) (List.mem_of_getElem? (i := 30) rfl), rfl⟩
theorem pX9_rolled_56 : At cX9_rolled 56 (.istore 6) 2 58 := ⟨tX9_rolled_0_ok (56, .istore 6, 2) (List.mem_of_getElem? (i := 31) rfl), rfl⟩
theorem pX9_rolled_58 : At cX9_rolled 58 (.iload 6) 2 60 := ⟨tX9_rolled_0_ok (58, .iload 6, 2) (List.mem_of_getElem? (i := 32) rfl), rfl⟩
theorem pX9_rolled_60 : At cX9_rolled 60 (.bipush 9) 2 62 := ⟨tX9_rolled_0_ok (60, .bipush 9, 2) (List.mem_of_getElem? (i := 33) rfl), rfl⟩
theorem pX9_rolled_62 : Bt cX9_rolled 62 (.if_icmp .gt 53) 53 115 65 := ⟨tX9_rolled_0_ok (62, .if_icmp .gt 53, 3) (List.mem_of_getElem? (i := 34) rfl), by decide, rfl⟩
theorem pX9_rolled_65 : At cX9_rolled 65 (.aload_n 0) 1 66 := ⟨tX9_rolled_0_ok (65, .aload_n 0, 1) (List.mem_of_getElem? (i := 35) rfl), rfl⟩
theorem pX9_rolled_66 : At cX9_rolled 66 (.getfield 37) 3 69 := ⟨tX9_rolled_0_ok (66, .getfield 37, 3) (List.mem_of_getElem? (i := 36) rfl), rfl⟩
theorem pX9_rolled_69 : At cX9_rolled 69 (.aload_n 0) 1 70 := ⟨tX9_rolled_0_ok (69, .aload_n 0, 1) (List.mem_of_getElem? (i := 37) rfl), rfl⟩
theorem pX9_rolled_70 : At cX9_rolled 70 (.getfield 10) 3 73 := ⟨tX9_rolled_0_ok (70, .getfield 10, 3) (List.mem_of_getElem? (i := 38) rfl), rfl⟩
theorem pX9_rolled_73 : At cX9_rolled 73 (.getfield 88) 3 76 := ⟨tX9_rolled_0_ok (73, .getfield 88, 3) (List.mem_of_getElem? (i := 39) rfl), rfl⟩
theorem pX9_rolled_76 : At cX9_rolled 76 (.iload_n 1) 1 77 := ⟨tX9_rolled_0_ok (76, .iload_n 1, 1) (List.mem_of_getElem? (i := 40) rfl), rfl⟩
theorem pX9_rolled_77 : At cX9_rolled 77 (.aaload) 1 78 := ⟨tX9_rolled_0_ok (77, .aaload, 1) (List.mem_of_getElem? (i := 41) rfl), rfl⟩
theorem pX9_rolled_78 : At cX9_rolled 78 (.iload 6) 2 80 := ⟨tX9_rolled_0_ok (78, .iload 6, 2) (List.mem_of_getElem? (i := 42) rfl), rfl⟩
theorem pX9_rolled_80 : At cX9_rolled 80 (.aload_n 0) 1 81 := ⟨tX9_rolled_0_ok (80, .aload_n 0, 1) (List.mem_of_getElem? (i := 43) rfl), rfl⟩
theorem pX9_rolled_81 : At cX9_rolled 81 (.getfield 64) 3 84 := ⟨tX9_rolled_0_ok (81, .getfield 64, 3) (List.mem_of_getElem? (i := 44) rfl), rfl⟩
theorem pX9_rolled_84 : At cX9_rolled 84 (.iload_n 2) 1 85 := ⟨tX9_rolled_0_ok (84, .iload_n 2, 1) (List.mem_of_getElem? (i := 45) rfl), rfl⟩
theorem pX9_rolled_85 : At cX9_rolled 85 (.aaload) 1 86 := ⟨tX9_rolled_0_ok (85, .aaload, 1) (List.mem_of_getElem? (i := 46) rfl), rfl⟩
theorem pX9_rolled_86 : At cX9_rolled 86 (.invokevirtual 259) 3 89 := ⟨tX9_rolled_0_ok (86, .invokevirtual 259, 3) (List.mem_of_getElem? (i := 47) rfl), rfl⟩
theorem pX9_rolled_89 : Bt cX9_rolled 89 (.ifCond .eq 20) 20 109 92 := ⟨tX9_rolled_0_ok (89, .ifCond .eq 20, 3) (List.mem_of_getElem? (i := 48) rfl), by decide, rfl⟩
theorem pX9_rolled_92 : At cX9_rolled 92 (.iload 5) 2 94 := ⟨tX9_rolled_0_ok (92, .iload 5, 2) (List.mem_of_getElem? (i := 49) rfl), rfl⟩
theorem pX9_rolled_94 : Bt cX9_rolled 94 (.ifCond .ne 8) 8 102 97 := ⟨tX9_rolled_0_ok (94, .ifCond .ne 8, 3) (List.mem_of_getElem? (i := 50) rfl), by decide, rfl⟩
theorem pX9_rolled_97 : At cX9_rolled 97 (.iload 6) 2 99 := ⟨tX9_rolled_0_ok (97, .iload 6, 2) (List.mem_of_getElem? (i := 51) rfl), rfl⟩
theorem pX9_rolled_99 : Bt cX9_rolled 99 (.goto 5) 5 104 102 := ⟨tX9_rolled_0_ok (99, .goto 5, 3) (List.mem_of_getElem? (i := 52) rfl), by decide, rfl⟩
theorem pX9_rolled_102 : At cX9_rolled 102 (.iload 4) 2 104 := ⟨tX9_rolled_0_ok (102, .iload 4, 2) (List.mem_of_getElem? (i := 53) rfl), rfl⟩
theorem pX9_rolled_104 : At cX9_rolled 104 (.istore 4) 2 106 := ⟨tX9_rolled_0_ok (104, .istore 4, 2) (List.mem_of_getElem? (i := 54) rfl), rfl⟩
theorem pX9_rolled_106 : At cX9_rolled 106 (.iinc 5 1) 3 109 := ⟨tX9_rolled_0_ok (106, .iinc 5 1, 3) (List.mem_of_getElem? (i := 55) rfl), rfl⟩
theorem pX9_rolled_109 : At cX9_rolled 109 (.iinc 6 1) 3 112 := ⟨tX9_rolled_0_ok (109, .iinc 6 1, 3) (List.mem_of_getElem? (i := 56) rfl), rfl⟩
theorem pX9_rolled_112 : Bt cX9_rolled 112 (.goto (-54)) (-54) 58 115 := ⟨tX9_rolled_0_ok (112, .goto (-54), 3) (List.mem_of_getElem? (i := 57) rfl), by decide, rfl⟩
theorem pX9_rolled_115 : At cX9_rolled 115 (.iload 5) 2 117 := ⟨tX9_rolled_0_ok (115, .iload 5, 2) (List.mem_of_getElem? (i := 58) rfl), rfl⟩
theorem pX9_rolled_117 : Bt cX9_rolled 117 (.ifCond .ne 9) 9 126 120 := ⟨tX9_rolled_0_ok (117, .ifCond .ne 9, 3) (List.mem_of_getElem? (i := 59) rfl), by decide, rfl⟩
theorem pX9_rolled_120 : At cX9_rolled 120 (.aload_n 0) 1 121 := ⟨tX9_rolled_0_ok (120, .aload_n 0, 1) (List.mem_of_getElem? (i := 60) rfl), rfl⟩
theorem pX9_rolled_121 : At cX9_rolled 121 (.iconst 2) 1 122 := ⟨tX9_rolled_0_ok (121, .iconst 2, 1) (List.mem_of_getElem? (i := 61) rfl), rfl⟩
theorem pX9_rolled_122 : At cX9_rolled 122 (.invokevirtual 80) 3 125 := ⟨tX9_rolled_0_ok (122, .invokevirtual 80, 3) (List.mem_of_getElem? (i := 62) rfl), rfl⟩
theorem pX9_rolled_125 : At cX9_rolled 125 (.ireturn) 1 126 := ⟨tX9_rolled_0_ok (125, .ireturn, 1) (List.mem_of_getElem? (i := 63) rfl), rfl⟩
theorem pX9_rolled_126 : At cX9_rolled 126 (.iload_n 3) 1 127 := ⟨tX9_rolled_0_ok (126, .iload_n 3, 1) (List.mem_of_getElem? (i := 64) rfl), rfl⟩
theorem pX9_rolled_127 : Bt cX9_rolled 127 (.ifCond .ne 8) 8 135 130 := ⟨tX9_rolled_0_ok (127, .ifCond .ne 8, 3) (List.mem_of_getElem? (i := 65) rfl), by decide, rfl⟩
theorem pX9_rolled_130 : At cX9_rolled 130 (.iload 4) 2 132 := ⟨tX9_rolled_0_ok (130, .iload 4, 2) (List.mem_of_getElem? (i := 66) rfl), rfl⟩
theorem pX9_rolled_132 : Bt cX9_rolled 132 (.goto 5) 5 137 135 := ⟨tX9_rolled_0_ok (132, .goto 5, 3) (List.mem_of_getElem? (i := 67) rfl), by decide, rfl⟩
theorem pX9_rolled_135 : At cX9_rolled 135 (.iload 5) 2 137 := ⟨tX9_rolled_0_ok (135, .iload 5, 2) (List.mem_of_getElem? (i := 68) rfl), rfl⟩
theorem pX9_rolled_137 : At cX9_rolled 137 (.ireturn) 1 138 := ⟨tX9_rolled_0_ok (137, .ireturn, 1) (List.mem_of_getElem? (i := 69) rfl), rfl⟩
def tX9_whose_0 : List (Nat × Instr × Nat) := [(0, .aload_n 0, 1), (1, .iload_n 1, 1), (2, .invokevirtual 101, 3), (5, .ifCond .eq 10, 3), (8, .iload_n 2, 1), (9, .invokestatic 252, 3), (12, .ifCond .ne 9, 3), (15, .aload_n 0, 1), (16, .iconst 1, 1), (17, .invokevirtual 80, 3), (20, .ireturn, 1), (21, .aload_n 0, 1), (22, .getfield 64, 3), (25, .iload_n 2, 1), (26, .aaload, 1), (27, .invokevirtual 255, 3), (30, .ifCond .eq 9, 3), (33, .aload_n 0, 1), (34, .iconst 2, 1), (35, .invokevirtual 80, 3), (38, .ireturn, 1), (39, .iconst 0, 1), (40, .istore_n 3, 1), (41, .iload_n 3, 1), (42, .bipush 7, 2), (44, .if_icmp .ge 37, 3), (47, .aload_n 0, 1), (48, .getfield 37, 3), (51, .aload_n 0, 1), (52, .getfield 10, 3), (55, .getfield 88, 3), (58, .iload_n 1, 1), (59, .aaload, 1), (60, .iload_n 3, 1), (61, .aload_n 0, 1), (62, .getfield 64, 3), (65, .iload_n 2, 1), (66, .aaload, 1), (67, .invokevirtual 263, 3), (70, .ifCond .eq 5, 3), (73, .iload_n 3, 1), (74, .ireturn, 1), (75, .iinc 3 1, 3), (78, .goto (-37), 3), (81, .aload_n 0, 1), (82, .iconst 2, 1), (83, .invokevirtual 80, 3), (86, .ireturn, 1)]
theorem tX9_whose_0_ok : ∀ q ∈ tX9_whose_0, decode cX9_whose q.1 = .ok (q.2.1, q.2.2) := by decide +kernel
theorem pX9_whose_0 : At cX9_whose 0 (.aload_n 0) 1 1 := ⟨tX9_whose_0_ok (0, .aload_n 0, 1) (List.mem_of_getElem? (i := 0) rfl), rfl⟩
theorem pX9_whose_1 : At cX9_whose 1 (.iload_n 1) 1 2 := ⟨tX9_whose_0_ok (1, .iload_n 1, 1) (List.mem_of_getElem? (i := 1) rfl), rfl⟩
theorem pX9_whose_2 : At cX9_whose 2 (.invokevirtual 101) 3 5 := ⟨tX9_whose_0_ok (2, .invokevirtual 101, 3) (List.mem_of_getElem? (i := 2) rfl), rfl⟩
theorem pX9_whose_5 : Bt cX9_whose 5 (.ifCond .eq 10) 10 15 8 := ⟨tX9_whose_0_ok (5, .ifCond .eq 10, 3) (List.mem_of_getElem? (i := 3) rfl), by decide, rfl⟩
theorem pX9_whose_8 : At cX9_whose 8 (.iload_n 2) 1 9 := ⟨tX9_whose_0_ok (8, .iload_n 2, 1) (List.mem_of_getElem? (i := 4) rfl), rfl⟩
theorem pX9_whose_9 : At cX9_whose 9 (.invokestatic 252) 3 12 := ⟨tX9_whose_0_ok (9, .invokestatic 252, 3) (List.mem_of_getElem? (i := 5) rfl), rfl⟩
theorem pX9_whose_12 : Bt cX9_whose 12 (.ifCond .ne 9) 9 21 15 := ⟨tX9_whose_0_ok (12, .ifCond .ne 9, 3) (List.mem_of_getElem? (i := 6) rfl), by decide, rfl⟩
theorem pX9_whose_15 : At cX9_whose 15 (.aload_n 0) 1 16 := ⟨tX9_whose_0_ok (15, .aload_n 0, 1) (List.mem_of_getElem? (i := 7) rfl), rfl⟩
theorem pX9_whose_16 : At cX9_whose 16 (.iconst 1) 1 17 := ⟨tX9_whose_0_ok (16, .iconst 1, 1) (List.mem_of_getElem? (i := 8) rfl), rfl⟩
theorem pX9_whose_17 : At cX9_whose 17 (.invokevirtual 80) 3 20 := ⟨tX9_whose_0_ok (17, .invokevirtual 80, 3) (List.mem_of_getElem? (i := 9) rfl), rfl⟩
theorem pX9_whose_20 : At cX9_whose 20 (.ireturn) 1 21 := ⟨tX9_whose_0_ok (20, .ireturn, 1) (List.mem_of_getElem? (i := 10) rfl), rfl⟩
theorem pX9_whose_21 : At cX9_whose 21 (.aload_n 0) 1 22 := ⟨tX9_whose_0_ok (21, .aload_n 0, 1) (List.mem_of_getElem? (i := 11) rfl), rfl⟩
theorem pX9_whose_22 : At cX9_whose 22 (.getfield 64) 3 25 := ⟨tX9_whose_0_ok (22, .getfield 64, 3) (List.mem_of_getElem? (i := 12) rfl), rfl⟩
theorem pX9_whose_25 : At cX9_whose 25 (.iload_n 2) 1 26 := ⟨tX9_whose_0_ok (25, .iload_n 2, 1) (List.mem_of_getElem? (i := 13) rfl), rfl⟩
theorem pX9_whose_26 : At cX9_whose 26 (.aaload) 1 27 := ⟨tX9_whose_0_ok (26, .aaload, 1) (List.mem_of_getElem? (i := 14) rfl), rfl⟩
theorem pX9_whose_27 : At cX9_whose 27 (.invokevirtual 255) 3 30 := ⟨tX9_whose_0_ok (27, .invokevirtual 255, 3) (List.mem_of_getElem? (i := 15) rfl), rfl⟩
theorem pX9_whose_30 : Bt cX9_whose 30 (.ifCond .eq 9) 9 39 33 := ⟨tX9_whose_0_ok (30, .ifCond .eq 9, 3) (List.mem_of_getElem? (i := 16) rfl), by decide, rfl⟩
theorem pX9_whose_33 : At cX9_whose 33 (.aload_n 0) 1 34 := ⟨tX9_whose_0_ok (33, .aload_n 0, 1) (List.mem_of_getElem? (i := 17) rfl), rfl⟩
theorem pX9_whose_34 : At cX9_whose 34 (.iconst 2) 1 35 := ⟨tX9_whose_0_ok (34, .iconst 2, 1) (List.mem_of_getElem? (i := 18) rfl), rfl⟩
theorem pX9_whose_35 : At cX9_whose 35 (.invokevirtual 80) 3 38 := ⟨tX9_whose_0_ok (35, .invokevirtual 80, 3) (List.mem_of_getElem? (i := 19) rfl), rfl⟩
theorem pX9_whose_38 : At cX9_whose 38 (.ireturn) 1 39 := ⟨tX9_whose_0_ok (38, .ireturn, 1) (List.mem_of_getElem? (i := 20) rfl), rfl⟩
theorem pX9_whose_39 : At cX9_whose 39 (.iconst 0) 1 40 := ⟨tX9_whose_0_ok (39, .iconst 0, 1) (List.mem_of_getElem? (i := 21) rfl), rfl⟩
theorem pX9_whose_40 : At cX9_whose 40 (.istore_n 3) 1 41 := ⟨tX9_whose_0_ok (40, .istore_n 3, 1) (List.mem_of_getElem? (i := 22) rfl), rfl⟩
theorem pX9_whose_41 : At cX9_whose 41 (.iload_n 3) 1 42 := ⟨tX9_whose_0_ok (41, .iload_n 3, 1) (List.mem_of_getElem? (i := 23) rfl), rfl⟩
theorem pX9_whose_42 : At cX9_whose 42 (.bipush 7) 2 44 := ⟨tX9_whose_0_ok (42, .bipush 7, 2) (List.mem_of_getElem? (i := 24) rfl), rfl⟩
theorem pX9_whose_44 : Bt cX9_whose 44 (.if_icmp .ge 37) 37 81 47 := ⟨tX9_whose_0_ok (44, .if_icmp .ge 37, 3) (List.mem_of_getElem? (i := 25) rfl), by decide, rfl⟩
theorem pX9_whose_47 : At cX9_whose 47 (.aload_n 0) 1 48 := ⟨tX9_whose_0_ok (47, .aload_n 0, 1) (List.mem_of_getElem? (i := 26) rfl), rfl⟩
theorem pX9_whose_48 : At cX9_whose 48 (.getfield 37) 3 51 := ⟨tX9_whose_0_ok (48, .getfield 37, 3) (List.mem_of_getElem? (i := 27) rfl), rfl⟩
theorem pX9_whose_51 : At cX9_whose 51 (.aload_n 0) 1 52 := ⟨tX9_whose_0_ok (51, .aload_n 0, 1) (List.mem_of_getElem? (i := 28) rfl), rfl⟩
theorem pX9_whose_52 : At cX9_whose 52 (.getfield 10) 3 55 := ⟨tX9_whose_0_ok (52, .getfield 10, 3) (List.mem_of_getElem? (i := 29) rfl), rfl⟩
theorem pX9_whose_55 : At cX9_whose 55 (.getfield 88) 3 58 := ⟨tX9_whose_0_ok (55, .getfield 88, 3) (List.mem_of_getElem? (i := 30) rfl), rfl⟩
theorem pX9_whose_58 : At cX9_whose 58 (.iload_n 1) 1 59 := ⟨tX9_whose_0_ok (58, .iload_n 1, 1) (List.mem_of_getElem? (i := 31) rfl), rfl⟩
theorem pX9_whose_59 : At cX9_whose 59 (.aaload) 1 60 := ⟨tX9_whose_0_ok (59, .aaload, 1) (List.mem_of_getElem? (i := 32) rfl), rfl⟩
theorem pX9_whose_60 : At cX9_whose 60 (.iload_n 3) 1 61 := ⟨tX9_whose_0_ok (60, .iload_n 3, 1) (List.mem_of_getElem? (i := 33) rfl), rfl⟩
theorem pX9_whose_61 : At cX9_whose 61 (.aload_n 0) 1 62 := ⟨tX9_whose_0_ok (61, .aload_n 0, 1) (List.mem_of_getElem? (i := 34) rfl), rfl⟩
theorem pX9_whose_62 : At cX9_whose 62 (.getfield 64) 3 65 := ⟨tX9_whose_0_ok (62, .getfield 64, 3) (List.mem_of_getElem? (i := 35) rfl), rfl⟩
theorem pX9_whose_65 : At cX9_whose 65 (.iload_n 2) 1 66 := ⟨tX9_whose_0_ok (65, .iload_n 2, 1) (List.mem_of_getElem? (i := 36) rfl), rfl⟩
theorem pX9_whose_66 : At cX9_whose 66 (.aaload) 1 67 := ⟨tX9_whose_0_ok (66, .aaload, 1) (List.mem_of_getElem? (i := 37) rfl), rfl⟩
theorem pX9_whose_67 : At cX9_whose 67 (.invokevirtual 263) 3 70 := ⟨tX9_whose_0_ok (67, .invokevirtual 263, 3) (List.mem_of_getElem? (i := 38) rfl), rfl⟩
theorem pX9_whose_70 : Bt cX9_whose 70 (.ifCond .eq 5) 5 75 73 := ⟨tX9_whose_0_ok (70, .ifCond .eq 5, 3) (List.mem_of_getElem? (i := 39) rfl), by decide, rfl⟩
theorem pX9_whose_73 : At cX9_whose 73 (.iload_n 3) 1 74 := ⟨tX9_whose_0_ok (73, .iload_n 3, 1) (List.mem_of_getElem? (i := 40) rfl), rfl⟩
theorem pX9_whose_74 : At cX9_whose 74 (.ireturn) 1 75 := ⟨tX9_whose_0_ok (74, .ireturn, 1) (List.mem_of_getElem? (i := 41) rfl), rfl⟩
theorem pX9_whose_75 : At cX9_whose 75 (.iinc 3 1) 3 78 := ⟨tX9_whose_0_ok (75, .iinc 3 1, 3) (List.mem_of_getElem? (i := 42) rfl), rfl⟩
theorem pX9_whose_78 : Bt cX9_whose 78 (.goto (-37)) (-37) 41 81 := ⟨tX9_whose_0_ok (78, .goto (-37), 3) (List.mem_of_getElem? (i := 43) rfl), by decide, rfl⟩
theorem pX9_whose_81 : At cX9_whose 81 (.aload_n 0) 1 82 := ⟨tX9_whose_0_ok (81, .aload_n 0, 1) (List.mem_of_getElem? (i := 44) rfl), rfl⟩
theorem pX9_whose_82 : At cX9_whose 82 (.iconst 2) 1 83 := ⟨tX9_whose_0_ok (82, .iconst 2, 1) (List.mem_of_getElem? (i := 45) rfl), rfl⟩
theorem pX9_whose_83 : At cX9_whose 83 (.invokevirtual 80) 3 86 := ⟨tX9_whose_0_ok (83, .invokevirtual 80, 3) (List.mem_of_getElem? (i := 46) rfl), rfl⟩
theorem pX9_whose_86 : At cX9_whose 86 (.ireturn) 1 87 := ⟨tX9_whose_0_ok (86, .ireturn, 1) (List.mem_of_getElem? (i := 47) rfl), rfl⟩
def tX9_odds_0 : List (Nat × Instr × Nat) := [(0, .aload_n 0, 1), (1, .iload_n 1, 1), (2, .invokevirtual 101, 3), (5, .ifCond .eq 29, 3), (8, .iload_n 2, 1), (9, .invokestatic 160, 3), (12, .ifCond .eq 22, 3), (15, .iload_n 3, 1), (16, .iconst 0, 1), (17, .iconst 5, 1), (18, .invokestatic 104, 3), (21, .ifCond .eq 13, 3), (24, .iload 4, 2), (26, .iconst 0, 1), (27, .iconst 1, 1), (28, .invokestatic 104, 3), (31, .ifCond .ne 9, 3), (34, .aload_n 0, 1), (35, .iconst 1, 1), (36, .invokevirtual 80, 3), (39, .ireturn, 1), (40, .iconst 1, 1), (41, .istore 5, 2), (43, .iconst 0, 1), (44, .istore 6, 2), (46, .iload 6, 2), (48, .iload_n 3, 1), (49, .if_icmp .ge 15, 3), (52, .iload 5, 2), (54, .iconst 3, 1), (55, .imul, 1), (56, .istore 5, 2), (58, .iinc 6 1, 3), (61, .goto (-15), 3), (64, .aload_n 0, 1), (65, .getfield 37, 3), (68, .aload_n 0, 1), (69, .getfield 10, 3), (72, .getfield 88, 3), (75, .iload_n 1, 1), (76, .aaload, 1), (77, .iload_n 2, 1), (78, .iload_n 3, 1), (79, .iload 5, 2), (81, .invokevirtual 266, 3), (84, .istore 6, 2), (86, .iconst 0, 1), (87, .istore 7, 2), (89, .iload 7, 2), (91, .iload_n 3, 1), (92, .if_icmp .ge 28, 3), (95, .iload 6, 2), (97, .iconst 3, 1), (98, .irem, 1), (99, .ifCond .ne 21, 3), (102, .iload 6, 2), (104, .iconst 3, 1), (105, .idiv, 1), (106, .istore 6, 2), (108, .iload 5, 2), (110, .iconst 3, 1), (111, .idiv, 1), (112, .istore 5, 2), (114, .iinc 7 1, 3), (117, .goto (-28), 3), (120, .iload 4, 2), (122, .ifCond .ne 8, 3), (125, .iload 6, 2), (127, .goto 5, 3), (130, .iload 5, 2), (132, .ireturn, 1)]
theorem tX9_odds_0_ok : ∀ q ∈ tX9_odds_0, decode cX9_odds q.1 = .ok (q.2.1, q.2.2) := by decide +kernel
theorem pX9_odds_0 : At cX9_odds 0 (.aload_n 0) 1 1 := ⟨tX9_odds_0_ok (0, .aload_n 0, 1) (List.mem_of_getElem? (i := 0) rfl), rfl⟩
theorem pX9_odds_1 : At cX9_odds 1 (.iload_n 1) 1 2 := ⟨tX9_odds_0_ok (1, .iload_n 1, 1) (List.mem_of_getElem? (i := 1) rfl), rfl⟩
theorem pX9_odds_2 : At cX9_odds 2 (.invokevirtual 101) 3 5 := ⟨tX9_odds_0_ok (2, .invokevirtual 101, 3) (List.mem_of_getElem? (i := 2) rfl), rfl⟩
theorem pX9_odds_5 : Bt cX9_odds 5 (.ifCond .eq 29) 29 34 8 := ⟨tX9_odds_0_ok (5, .ifCond .eq 29, 3) (List.mem_of_getElem? (i := 3) rfl), by decide, rfl⟩
theorem pX9_odds_8 : At cX9_odds 8 (.iload_n 2) 1 9 := ⟨tX9_odds_0_ok (8, .iload_n 2, 1) (List.mem_of_getElem? (i := 4) rfl), rfl⟩
theorem pX9_odds_9 : At cX9_odds 9 (.invokestatic 160) 3 12 := ⟨tX9_odds_0_ok (9, .invokestatic 160, 3) (List.mem_of_getElem? (i := 5) rfl), rfl⟩
theorem pX9_odds_12 : Bt cX9_odds 12 (.ifCond .eq 22) 22 34 15 := ⟨tX9_odds_0_ok (12, .ifCond .eq 22, 3) (List.mem_of_getElem? (i := 6) rfl), by decide, rfl⟩
theorem pX9_odds_15 : At cX9_odds 15 (.iload_n 3) 1 16 := ⟨tX9_odds_0_ok (15, .iload_n 3, 1) (List.mem_of_getElem? (i := 7) rfl), rfl⟩
theorem pX9_odds_16 : At cX9_odds 16 (.iconst 0) 1 17 := ⟨tX9_odds_0_ok (16, .iconst 0, 1) (List.mem_of_getElem? (i := 8) rfl), rfl⟩
theorem pX9_odds_17 : At cX9_odds 17 (.iconst 5) 1 18 := ⟨tX9_odds_0_ok (17, .iconst 5, 1) (List.mem_of_getElem? (i := 9) rfl), rfl⟩
theorem pX9_odds_18 : At cX9_odds 18 (.invokestatic 104) 3 21 := ⟨tX9_odds_0_ok (18, .invokestatic 104, 3) (List.mem_of_getElem? (i := 10) rfl), rfl⟩
theorem pX9_odds_21 : Bt cX9_odds 21 (.ifCond .eq 13) 13 34 24 := ⟨tX9_odds_0_ok (21, .ifCond .eq 13, 3) (List.mem_of_getElem? (i := 11) rfl), by decide, rfl⟩
theorem pX9_odds_24 : At cX9_odds 24 (.iload 4) 2 26 := ⟨tX9_odds_0_ok (24, .iload 4, 2) (List.mem_of_getElem? (i := 12) rfl), rfl⟩
theorem pX9_odds_26 : At cX9_odds 26 (.iconst 0) 1 27 := ⟨tX9_odds_0_ok (26, .iconst 0, 1) (List.mem_of_getElem? (i := 13) rfl), rfl⟩
theorem pX9_odds_27 : At cX9_odds 27 (.iconst 1) 1 28 := ⟨tX9_odds_0_ok (27, .iconst 1, 1) (List.mem_of_getElem? (i := 14) rfl), rfl⟩
theorem pX9_odds_28 : At cX9_odds 28 (.invokestatic 104) 3 31 := ⟨tX9_odds_0_ok (28, .invokestatic 104, 3) (List.mem_of_getElem? (i := 15) rfl), rfl⟩
theorem pX9_odds_31 : Bt cX9_odds 31 (.ifCond .ne 9) 9 40 34 := ⟨tX9_odds_0_ok (31, .ifCond .ne 9, 3) (List.mem_of_getElem? (i := 16) rfl), by decide, rfl⟩
theorem pX9_odds_34 : At cX9_odds 34 (.aload_n 0) 1 35 := ⟨tX9_odds_0_ok (34, .aload_n 0, 1) (List.mem_of_getElem? (i := 17) rfl), rfl⟩
theorem pX9_odds_35 : At cX9_odds 35 (.iconst 1) 1 36 := ⟨tX9_odds_0_ok (35, .iconst 1, 1) (List.mem_of_getElem? (i := 18) rfl), rfl⟩
theorem pX9_odds_36 : At cX9_odds 36 (.invokevirtual 80) 3 39 := ⟨tX9_odds_0_ok (36, .invokevirtual 80, 3) (List.mem_of_getElem? (i := 19) rfl), rfl⟩
theorem pX9_odds_39 : At cX9_odds 39 (.ireturn) 1 40 := ⟨tX9_odds_0_ok (39, .ireturn, 1) (List.mem_of_getElem? (i := 20) rfl), rfl⟩
theorem pX9_odds_40 : At cX9_odds 40 (.iconst 1) 1 41 := ⟨tX9_odds_0_ok (40, .iconst 1, 1) (List.mem_of_getElem? (i := 21) rfl), rfl⟩
theorem pX9_odds_41 : At cX9_odds 41 (.istore 5) 2 43 := ⟨tX9_odds_0_ok (41, .istore 5, 2) (List.mem_of_getElem? (i := 22) rfl), rfl⟩
theorem pX9_odds_43 : At cX9_odds 43 (.iconst 0) 1 44 := ⟨tX9_odds_0_ok (43, .iconst 0, 1) (List.mem_of_getElem? (i := 23) rfl), rfl⟩
theorem pX9_odds_44 : At cX9_odds 44 (.istore 6) 2 46 := ⟨tX9_odds_0_ok (44, .istore 6, 2) (List.mem_of_getElem? (i := 24) rfl), rfl⟩
theorem pX9_odds_46 : At cX9_odds 46 (.iload 6) 2 48 := ⟨tX9_odds_0_ok (46, .iload 6, 2) (List.mem_of_getElem? (i := 25) rfl), rfl⟩
theorem pX9_odds_48 : At cX9_odds 48 (.iload_n 3) 1 49 := ⟨tX9_odds_0_ok (48, .iload_n 3, 1) (List.mem_of_getElem? (i := 26) rfl), rfl⟩
theorem pX9_odds_49 : Bt cX9_odds 49 (.if_icmp .ge 15) 15 64 52 := ⟨tX9_odds_0_ok (49, .if_icmp .ge 15, 3) (List.mem_of_getElem? (i := 27) rfl), by decide, rfl⟩
theorem pX9_odds_52 : At cX9_odds 52 (.iload 5) 2 54 := ⟨tX9_odds_0_ok (52, .iload 5, 2) (List.mem_of_getElem? (i := 28) rfl), rfl⟩
theorem pX9_odds_54 : At cX9_odds 54 (.iconst 3) 1 55 := ⟨tX9_odds_0_ok (54, .iconst 3, 1) (List.mem_of_getElem? (i := 29) rfl), rfl⟩
theorem pX9_odds_55 : At cX9_odds 55 (.imul) 1 56 := ⟨tX9_odds_0_ok (55, .imul, 1) (List.mem_of_getElem? (i := 30) rfl), rfl⟩
theorem pX9_odds_56 : At cX9_odds 56 (.istore 5) 2 58 := ⟨tX9_odds_0_ok (56, .istore 5, 2) (List.mem_of_getElem? (i := 31) rfl), rfl⟩
theorem pX9_odds_58 : At cX9_odds 58 (.iinc 6 1) 3 61 := ⟨tX9_odds_0_ok (58, .iinc 6 1, 3) (List.mem_of_getElem? (i := 32) rfl), rfl⟩
theorem pX9_odds_61 : Bt cX9_odds 61 (.goto (-15)) (-15) 46 64 := ⟨tX9_odds_0_ok (61, .goto (-15), 3) (List.mem_of_getElem? (i := 33) rfl), by decide, rfl⟩
theorem pX9_odds_64 : At cX9_odds 64 (.aload_n 0) 1 65 := ⟨tX9_odds_0_ok (64, .aload_n 0, 1) (List.mem_of_getElem? (i := 34) rfl), rfl⟩
theorem pX9_odds_65 : At cX9_odds 65 (.getfield 37) 3 68 := ⟨tX9_odds_0_ok (65, .getfield 37, 3) (List.mem_of_getElem? (i := 35) rfl), rfl⟩
theorem pX9_odds_68 : At cX9_odds 68 (.aload_n 0) 1 69 := ⟨tX9_odds_0_ok (68, .aload_n 0, 1) (List.mem_of_getElem? (i := 36) rfl), rfl⟩
theorem pX9_odds_69 : At cX9_odds 69 (.getfield 10) 3 72 := ⟨tX9_odds_0_ok (69, .getfield 10, 3) (List.mem_of_getElem? (i := 37) rfl), rfl⟩
theorem pX9_odds_72 : At cX9_odds 72 (.getfield 88) 3 75 := ⟨tX9_odds_0_ok (72, .getfield 88, 3) (List.mem_of_getElem? (i := 38) rfl), rfl⟩
theorem pX9_odds_75 : At cX9_odds 75 (.iload_n 1) 1 76 := ⟨tX9_odds_0_ok (75, .iload_n 1, 1) (List.mem_of_getElem? (i := 39) rfl), rfl⟩
theorem pX9_odds_76 : At cX9_odds 76 (.aaload) 1 77 := ⟨tX9_odds_0_ok (76, .aaload, 1) (List.mem_of_getElem? (i := 40) rfl), rfl⟩
theorem pX9_odds_77 : At cX9_odds 77 (.iload_n 2) 1 78 := ⟨tX9_odds_0_ok (77, .iload_n 2, 1) (List.mem_of_getElem? (i := 41) rfl), rfl⟩
theorem pX9_odds_78 : At cX9_odds 78 (.iload_n 3) 1 79 := ⟨tX9_odds_0_ok (78, .iload_n 3, 1) (List.mem_of_getElem? (i := 42) rfl), rfl⟩
theorem pX9_odds_79 : At cX9_odds 79 (.iload 5) 2 81 := ⟨tX9_odds_0_ok (79, .iload 5, 2) (List.mem_of_getElem? (i := 43) rfl), rfl⟩
theorem pX9_odds_81 : At cX9_odds 81 (.invokevirtual 266) 3 84 := ⟨tX9_odds_0_ok (81, .invokevirtual 266, 3) (List.mem_of_getElem? (i := 44) rfl), rfl⟩
theorem pX9_odds_84 : At cX9_odds 84 (.istore 6) 2 86 := ⟨tX9_odds_0_ok (84, .istore 6, 2) (List.mem_of_getElem? (i := 45) rfl), rfl⟩
theorem pX9_odds_86 : At cX9_odds 86 (.iconst 0) 1 87 := ⟨tX9_odds_0_ok (86, .iconst 0, 1) (List.mem_of_getElem? (i := 46) rfl), rfl⟩
theorem pX9_odds_87 : At cX9_odds 87 (.istore 7) 2 89 := ⟨tX9_odds_0_ok (87, .istore 7, 2) (List.mem_of_getElem? (i := 47) rfl), rfl⟩
theorem pX9_odds_89 : At cX9_odds 89 (.iload 7) 2 91 := ⟨tX9_odds_0_ok (89, .iload 7, 2) (List.mem_of_getElem? (i := 48) rfl), rfl⟩
theorem pX9_odds_91 : At cX9_odds 91 (.iload_n 3) 1 92 := ⟨tX9_odds_0_ok (91, .iload_n 3, 1) (List.mem_of_getElem? (i := 49) rfl), rfl⟩
theorem pX9_odds_92 : Bt cX9_odds 92 (.if_icmp .ge 28) 28 120 95 := ⟨tX9_odds_0_ok (92, .if_icmp .ge 28, 3) (List.mem_of_getElem? (i := 50) rfl), by decide, rfl⟩
theorem pX9_odds_95 : At cX9_odds 95 (.iload 6) 2 97 := ⟨tX9_odds_0_ok (95, .iload 6, 2) (List.mem_of_getElem? (i := 51) rfl), rfl⟩
theorem pX9_odds_97 : At cX9_odds 97 (.iconst 3) 1 98 := ⟨tX9_odds_0_ok (97, .iconst 3, 1) (List.mem_of_getElem? (i := 52) rfl), rfl⟩
theorem pX9_odds_98 : At cX9_odds 98 (.irem) 1 99 := ⟨tX9_odds_0_ok (98, .irem, 1) (List.mem_of_getElem? (i := 53) rfl), rfl⟩
theorem pX9_odds_99 : Bt cX9_odds 99 (.ifCond .ne 21) 21 120 102 := ⟨tX9_odds_0_ok (99, .ifCond .ne 21, 3) (List.mem_of_getElem? (i := 54) rfl), by decide, rfl⟩
theorem pX9_odds_102 : At cX9_odds 102 (.iload 6) 2 104 := ⟨tX9_odds_0_ok (102, .iload 6, 2) (List.mem_of_getElem? (i := 55) rfl), rfl⟩
theorem pX9_odds_104 : At cX9_odds 104 (.iconst 3) 1 105 := ⟨tX9_odds_0_ok (104, .iconst 3, 1) (List.mem_of_getElem? (i := 56) rfl), rfl⟩
theorem pX9_odds_105 : At cX9_odds 105 (.idiv) 1 106 := ⟨tX9_odds_0_ok (105, .idiv, 1) (List.mem_of_getElem? (i := 57) rfl), rfl⟩
theorem pX9_odds_106 : At cX9_odds 106 (.istore 6) 2 108 := ⟨tX9_odds_0_ok (106, .istore 6, 2) (List.mem_of_getElem? (i := 58) rfl), rfl⟩
theorem pX9_odds_108 : At cX9_odds 108 (.iload 5) 2 110 := ⟨tX9_odds_0_ok (108, .iload 5, 2) (List.mem_of_getElem? (i := 59) rfl), rfl⟩
theorem pX9_odds_110 : At cX9_odds 110 (.iconst 3) 1 111 := ⟨tX9_odds_0_ok (110, .iconst 3, 1) (List.mem_of_getElem? (i := 60) rfl), rfl⟩
theorem pX9_odds_111 : At cX9_odds 111 (.idiv) 1 112 := ⟨tX9_odds_0_ok (111, .idiv, 1) (List.mem_of_getElem? (i := 61) rfl), rfl⟩
theorem pX9_odds_112 : At cX9_odds 112 (.istore 5) 2 114 := ⟨tX9_odds_0_ok (112, .istore 5, 2) (List.mem_of_getElem? (i := 62) rfl), rfl⟩
theorem pX9_odds_114 : At cX9_odds 114 (.iinc 7 1) 3 117 := ⟨tX9_odds_0_ok (114, .iinc 7 1, 3) (List.mem_of_getElem? (i := 63) rfl), rfl⟩
theorem pX9_odds_117 : Bt cX9_odds 117 (.goto (-28)) (-28) 89 120 := ⟨tX9_odds_0_ok (117, .goto (-28), 3) (List.mem_of_getElem? (i := 64) rfl), by decide, rfl⟩
theorem pX9_odds_120 : At cX9_odds 120 (.iload 4) 2 122 := ⟨tX9_odds_0_ok (120, .iload 4, 2) (List.mem_of_getElem? (i := 65) rfl), rfl⟩
theorem pX9_odds_122 : Bt cX9_odds 122 (.ifCond .ne 8) 8 130 125 := ⟨tX9_odds_0_ok (122, .ifCond .ne 8, 3) (List.mem_of_getElem? (i := 66) rfl), by decide, rfl⟩
theorem pX9_odds_125 : At cX9_odds 125 (.iload 6) 2 127 := ⟨tX9_odds_0_ok (125, .iload 6, 2) (List.mem_of_getElem? (i := 67) rfl), rfl⟩
theorem pX9_odds_127 : Bt cX9_odds 127 (.goto 5) 5 132 130 := ⟨tX9_odds_0_ok (127, .goto 5, 3) (List.mem_of_getElem? (i := 68) rfl), by decide, rfl⟩
theorem pX9_odds_130 : At cX9_odds 130 (.iload 5) 2 132 := ⟨tX9_odds_0_ok (130, .iload 5, 2) (List.mem_of_getElem? (i := 69) rfl), rfl⟩
theorem pX9_odds_132 : At cX9_odds 132 (.ireturn) 1 133 := ⟨tX9_odds_0_ok (132, .ireturn, 1) (List.mem_of_getElem? (i := 70) rfl), rfl⟩
def tX9_seed_0 : List (Nat × Instr × Nat) := [(0, .aload_n 0, 1), (1, .getfield 19, 3), (4, .getfield 270, 3), (7, .istore_n 2, 1), (8, .aload_n 0, 1), (9, .getfield 19, 3), (12, .iload_n 1, 1), (13, .putfield 270, 3), (16, .iload_n 2, 1), (17, .ireturn, 1)]
theorem tX9_seed_0_ok : ∀ q ∈ tX9_seed_0, decode cX9_seed q.1 = .ok (q.2.1, q.2.2) := by decide +kernel
theorem pX9_seed_0 : At cX9_seed 0 (.aload_n 0) 1 1 := ⟨tX9_seed_0_ok (0, .aload_n 0, 1) (List.mem_of_getElem? (i := 0) rfl), rfl⟩
theorem pX9_seed_1 : At cX9_seed 1 (.getfield 19) 3 4 := ⟨tX9_seed_0_ok (1, .getfield 19, 3) (List.mem_of_getElem? (i := 1) rfl), rfl⟩
theorem pX9_seed_4 : At cX9_seed 4 (.getfield 270) 3 7 := ⟨tX9_seed_0_ok (4, .getfield 270, 3) (List.mem_of_getElem? (i := 2) rfl), rfl⟩
theorem pX9_seed_7 : At cX9_seed 7 (.istore_n 2) 1 8 := ⟨tX9_seed_0_ok (7, .istore_n 2, 1) (List.mem_of_getElem? (i := 3) rfl), rfl⟩
theorem pX9_seed_8 : At cX9_seed 8 (.aload_n 0) 1 9 := ⟨tX9_seed_0_ok (8, .aload_n 0, 1) (List.mem_of_getElem? (i := 4) rfl), rfl⟩
theorem pX9_seed_9 : At cX9_seed 9 (.getfield 19) 3 12 := ⟨tX9_seed_0_ok (9, .getfield 19, 3) (List.mem_of_getElem? (i := 5) rfl), rfl⟩
theorem pX9_seed_12 : At cX9_seed 12 (.iload_n 1) 1 13 := ⟨tX9_seed_0_ok (12, .iload_n 1, 1) (List.mem_of_getElem? (i := 6) rfl), rfl⟩
theorem pX9_seed_13 : At cX9_seed 13 (.putfield 270) 3 16 := ⟨tX9_seed_0_ok (13, .putfield 270, 3) (List.mem_of_getElem? (i := 7) rfl), rfl⟩
theorem pX9_seed_16 : At cX9_seed 16 (.iload_n 2) 1 17 := ⟨tX9_seed_0_ok (16, .iload_n 2, 1) (List.mem_of_getElem? (i := 8) rfl), rfl⟩
theorem pX9_seed_17 : At cX9_seed 17 (.ireturn) 1 18 := ⟨tX9_seed_0_ok (17, .ireturn, 1) (List.mem_of_getElem? (i := 9) rfl), rfl⟩
def tX9_voice_0 : List (Nat × Instr × Nat) := [(0, .aload_n 0, 1), (1, .iload_n 1, 1), (2, .invokevirtual 101, 3), (5, .ifCond .eq 12, 3), (8, .iload_n 2, 1), (9, .iconst 0, 1), (10, .iconst 3, 1), (11, .invokestatic 104, 3), (14, .ifCond .ne 9, 3), (17, .aload_n 0, 1), (18, .iconst 1, 1), (19, .invokevirtual 80, 3), (22, .ireturn, 1), (23, .aload_n 0, 1), (24, .getfield 58, 3), (27, .aload_n 0, 1), (28, .getfield 10, 3), (31, .getfield 88, 3), (34, .iload_n 1, 1), (35, .aaload, 1), (36, .iload_n 1, 1), (37, .iload_n 2, 1), (38, .iload_n 3, 1), (39, .invokevirtual 273, 3), (42, .ireturn, 1)]
theorem tX9_voice_0_ok : ∀ q ∈ tX9_voice_0, decode cX9_voice q.1 = .ok (q.2.1, q.2.2) := by decide +kernel
theorem pX9_voice_0 : At cX9_voice 0 (.aload_n 0) 1 1 := ⟨tX9_voice_0_ok (0, .aload_n 0, 1) (List.mem_of_getElem? (i := 0) rfl), rfl⟩
theorem pX9_voice_1 : At cX9_voice 1 (.iload_n 1) 1 2 := ⟨tX9_voice_0_ok (1, .iload_n 1, 1) (List.mem_of_getElem? (i := 1) rfl), rfl⟩
theorem pX9_voice_2 : At cX9_voice 2 (.invokevirtual 101) 3 5 := ⟨tX9_voice_0_ok (2, .invokevirtual 101, 3) (List.mem_of_getElem? (i := 2) rfl), rfl⟩
theorem pX9_voice_5 : Bt cX9_voice 5 (.ifCond .eq 12) 12 17 8 := ⟨tX9_voice_0_ok (5, .ifCond .eq 12, 3) (List.mem_of_getElem? (i := 3) rfl), by decide, rfl⟩
theorem pX9_voice_8 : At cX9_voice 8 (.iload_n 2) 1 9 := ⟨tX9_voice_0_ok (8, .iload_n 2, 1) (List.mem_of_getElem? (i := 4) rfl), rfl⟩
theorem pX9_voice_9 : At cX9_voice 9 (.iconst 0) 1 10 := ⟨tX9_voice_0_ok (9, .iconst 0, 1) (List.mem_of_getElem? (i := 5) rfl), rfl⟩
theorem pX9_voice_10 : At cX9_voice 10 (.iconst 3) 1 11 := ⟨tX9_voice_0_ok (10, .iconst 3, 1) (List.mem_of_getElem? (i := 6) rfl), rfl⟩
theorem pX9_voice_11 : At cX9_voice 11 (.invokestatic 104) 3 14 := ⟨tX9_voice_0_ok (11, .invokestatic 104, 3) (List.mem_of_getElem? (i := 7) rfl), rfl⟩
theorem pX9_voice_14 : Bt cX9_voice 14 (.ifCond .ne 9) 9 23 17 := ⟨tX9_voice_0_ok (14, .ifCond .ne 9, 3) (List.mem_of_getElem? (i := 8) rfl), by decide, rfl⟩
theorem pX9_voice_17 : At cX9_voice 17 (.aload_n 0) 1 18 := ⟨tX9_voice_0_ok (17, .aload_n 0, 1) (List.mem_of_getElem? (i := 9) rfl), rfl⟩
theorem pX9_voice_18 : At cX9_voice 18 (.iconst 1) 1 19 := ⟨tX9_voice_0_ok (18, .iconst 1, 1) (List.mem_of_getElem? (i := 10) rfl), rfl⟩
theorem pX9_voice_19 : At cX9_voice 19 (.invokevirtual 80) 3 22 := ⟨tX9_voice_0_ok (19, .invokevirtual 80, 3) (List.mem_of_getElem? (i := 11) rfl), rfl⟩
theorem pX9_voice_22 : At cX9_voice 22 (.ireturn) 1 23 := ⟨tX9_voice_0_ok (22, .ireturn, 1) (List.mem_of_getElem? (i := 12) rfl), rfl⟩
theorem pX9_voice_23 : At cX9_voice 23 (.aload_n 0) 1 24 := ⟨tX9_voice_0_ok (23, .aload_n 0, 1) (List.mem_of_getElem? (i := 13) rfl), rfl⟩
theorem pX9_voice_24 : At cX9_voice 24 (.getfield 58) 3 27 := ⟨tX9_voice_0_ok (24, .getfield 58, 3) (List.mem_of_getElem? (i := 14) rfl), rfl⟩
theorem pX9_voice_27 : At cX9_voice 27 (.aload_n 0) 1 28 := ⟨tX9_voice_0_ok (27, .aload_n 0, 1) (List.mem_of_getElem? (i := 15) rfl), rfl⟩
theorem pX9_voice_28 : At cX9_voice 28 (.getfield 10) 3 31 := ⟨tX9_voice_0_ok (28, .getfield 10, 3) (List.mem_of_getElem? (i := 16) rfl), rfl⟩
theorem pX9_voice_31 : At cX9_voice 31 (.getfield 88) 3 34 := ⟨tX9_voice_0_ok (31, .getfield 88, 3) (List.mem_of_getElem? (i := 17) rfl), rfl⟩
theorem pX9_voice_34 : At cX9_voice 34 (.iload_n 1) 1 35 := ⟨tX9_voice_0_ok (34, .iload_n 1, 1) (List.mem_of_getElem? (i := 18) rfl), rfl⟩
theorem pX9_voice_35 : At cX9_voice 35 (.aaload) 1 36 := ⟨tX9_voice_0_ok (35, .aaload, 1) (List.mem_of_getElem? (i := 19) rfl), rfl⟩
theorem pX9_voice_36 : At cX9_voice 36 (.iload_n 1) 1 37 := ⟨tX9_voice_0_ok (36, .iload_n 1, 1) (List.mem_of_getElem? (i := 20) rfl), rfl⟩
theorem pX9_voice_37 : At cX9_voice 37 (.iload_n 2) 1 38 := ⟨tX9_voice_0_ok (37, .iload_n 2, 1) (List.mem_of_getElem? (i := 21) rfl), rfl⟩
theorem pX9_voice_38 : At cX9_voice 38 (.iload_n 3) 1 39 := ⟨tX9_voice_0_ok (38, .iload_n 3, 1) (List.mem_of_getElem? (i := 22) rfl), rfl⟩
theorem pX9_voice_39 : At cX9_voice 39 (.invokevirtual 273) 3 42 := ⟨tX9_voice_0_ok (39, .invokevirtual 273, 3) (List.mem_of_getElem? (i := 23) rfl), rfl⟩
theorem pX9_voice_42 : At cX9_voice 42 (.ireturn) 1 43 := ⟨tX9_voice_0_ok (42, .ireturn, 1) (List.mem_of_getElem? (i := 24) rfl), rfl⟩
def tX9_trace_0 : List (Nat × Instr × Nat) := [(0, .iload_n 1, 1), (1, .iconst 0, 1), (2, .aload_n 0, 1), (3, .getfield 58, 3), (6, .getfield 276, 3), (9, .iconst 1, 1), (10, .isub, 1), (11, .invokestatic 104, 3), (14, .ifCond .eq 15, 3), (17, .aload_n 0, 1), (18, .getfield 58, 3), (21, .getfield 279, 3), (24, .iload_n 1, 1), (25, .iaload, 1), (26, .goto 8, 3), (29, .aload_n 0, 1), (30, .iconst 2, 1), (31, .invokevirtual 80, 3), (34, .ireturn, 1)]
theorem tX9_trace_0_ok : ∀ q ∈ tX9_trace_0, decode cX9_trace q.1 = .ok (q.2.1, q.2.2) := by decide +kernel
theorem pX9_trace_0 : At cX9_trace 0 (.iload_n 1) 1 1 := ⟨tX9_trace_0_ok (0, .iload_n 1, 1) (List.mem_of_getElem? (i := 0) rfl), rfl⟩
theorem pX9_trace_1 : At cX9_trace 1 (.iconst 0) 1 2 := ⟨tX9_trace_0_ok (1, .iconst 0, 1) (List.mem_of_getElem? (i := 1) rfl), rfl⟩
theorem pX9_trace_2 : At cX9_trace 2 (.aload_n 0) 1 3 := ⟨tX9_trace_0_ok (2, .aload_n 0, 1) (List.mem_of_getElem? (i := 2) rfl), rfl⟩
theorem pX9_trace_3 : At cX9_trace 3 (.getfield 58) 3 6 := ⟨tX9_trace_0_ok (3, .getfield 58, 3) (List.mem_of_getElem? (i := 3) rfl), rfl⟩
theorem pX9_trace_6 : At cX9_trace 6 (.getfield 276) 3 9 := ⟨tX9_trace_0_ok (6, .getfield 276, 3) (List.mem_of_getElem? (i := 4) rfl), rfl⟩
theorem pX9_trace_9 : At cX9_trace 9 (.iconst 1) 1 10 := ⟨tX9_trace_0_ok (9, .iconst 1, 1) (List.mem_of_getElem? (i := 5) rfl), rfl⟩
theorem pX9_trace_10 : At cX9_trace 10 (.isub) 1 11 := ⟨tX9_trace_0_ok (10, .isub, 1) (List.mem_of_getElem? (i := 6) rfl), rfl⟩
theorem pX9_trace_11 : At cX9_trace 11 (.invokestatic 104) 3 14 := ⟨tX9_trace_0_ok (11, .invokestatic 104, 3) (List.mem_of_getElem? (i := 7) rfl), rfl⟩
theorem pX9_trace_14 : Bt cX9_trace 14 (.ifCond .eq 15) 15 29 17 := ⟨tX9_trace_0_ok (14, .ifCond .eq 15, 3) (List.mem_of_getElem? (i := 8) rfl), by decide, rfl⟩
theorem pX9_trace_17 : At cX9_trace 17 (.aload_n 0) 1 18 := ⟨tX9_trace_0_ok (17, .aload_n 0, 1) (List.mem_of_getElem? (i := 9) rfl), rfl⟩
theorem pX9_trace_18 : At cX9_trace 18 (.getfield 58) 3 21 := ⟨tX9_trace_0_ok (18, .getfield 58, 3) (List.mem_of_getElem? (i := 10) rfl), rfl⟩
theorem pX9_trace_21 : At cX9_trace 21 (.getfield 279) 3 24 := ⟨tX9_trace_0_ok (21, .getfield 279, 3) (List.mem_of_getElem? (i := 11) rfl), rfl⟩
theorem pX9_trace_24 : At cX9_trace 24 (.iload_n 1) 1 25 := ⟨tX9_trace_0_ok (24, .iload_n 1, 1) (List.mem_of_getElem? (i := 12) rfl), rfl⟩
theorem pX9_trace_25 : At cX9_trace 25 (.iaload) 1 26 := ⟨tX9_trace_0_ok (25, .iaload, 1) (List.mem_of_getElem? (i := 13) rfl), rfl⟩
theorem pX9_trace_26 : Bt cX9_trace 26 (.goto 8) 8 34 29 := ⟨tX9_trace_0_ok (26, .goto 8, 3) (List.mem_of_getElem? (i := 14) rfl), by decide, rfl⟩
theorem pX9_trace_29 : At cX9_trace 29 (.aload_n 0) 1 30 := ⟨tX9_trace_0_ok (29, .aload_n 0, 1) (List.mem_of_getElem? (i := 15) rfl), rfl⟩
theorem pX9_trace_30 : At cX9_trace 30 (.iconst 2) 1 31 := ⟨tX9_trace_0_ok (30, .iconst 2, 1) (List.mem_of_getElem? (i := 16) rfl), rfl⟩
theorem pX9_trace_31 : At cX9_trace 31 (.invokevirtual 80) 3 34 := ⟨tX9_trace_0_ok (31, .invokevirtual 80, 3) (List.mem_of_getElem? (i := 17) rfl), rfl⟩
theorem pX9_trace_34 : At cX9_trace 34 (.ireturn) 1 35 := ⟨tX9_trace_0_ok (34, .ireturn, 1) (List.mem_of_getElem? (i := 18) rfl), rfl⟩
def tX9_sheet_0 : List (Nat × Instr × Nat) := [(0, .iload_n 1, 1), (1, .invokestatic 252, 3), (4, .ifCond .eq 25, 3), (7, .iload_n 2, 1), (8, .ifCond .eq 27, 3), (11, .iload_n 2, 1), (12, .bipush 8, 2), (14, .if_icmp .eq 21, 3), (17, .iload_n 2, 1), (18, .bipush 16, 2), (20, .if_icmp .eq 15, 3), (23, .iload_n 2, 1), (24, .bipush 32, 2), (26, .if_icmp .eq 9, 3), (29, .aload_n 0, 1), (30, .iconst 1, 1), (31, .invokevirtual 80, 3), (34, .ireturn, 1), (35, .iload_n 2, 1), (36, .ifCond .eq 13, 3), (39, .iload_n 3, 1), (40, .ifCond .ge 9, 3), (43, .aload_n 0, 1), (44, .iconst 3, 1), (45, .invokevirtual 80, 3), (48, .ireturn, 1), (49, .iload_n 2, 1), (50, .ifCond .eq 15, 3), (53, .iload_n 3, 1), (54, .bipush 40, 2), (56, .if_icmp .le 9, 3), (59, .aload_n 0, 1), (60, .iconst 1, 1), (61, .invokevirtual 80, 3), (64, .ireturn, 1), (65, .aload_n 0, 1), (66, .getfield 64, 3), (69, .iload_n 1, 1), (70, .aaload, 1), (71, .iload_n 2, 1), (72, .iload_n 2, 1), (73, .ifCond .ne 7, 3), (76, .iconst 0, 1), (77, .goto 4, 3), (80, .iload_n 3, 1), (81, .invokevirtual 282, 3), (84, .iconst 1, 1), (85, .ireturn, 1)]
theorem tX9_sheet_0_ok : ∀ q ∈ tX9_sheet_0, decode cX9_sheet q.1 = .ok (q.2.1, q.2.2) := by decide +kernel
theorem pX9_sheet_0 : At cX9_sheet 0 (.iload_n 1) 1 1 := ⟨tX9_sheet_0_ok (0, .iload_n 1, 1) (List.mem_of_getElem? (i := 0) rfl), rfl⟩
theorem pX9_sheet_1 : At cX9_sheet 1 (.invokestatic 252) 3 4 := ⟨tX9_sheet_0_ok (1, .invokestatic 252, 3) (List.mem_of_getElem? (i := 1) rfl), rfl⟩
theorem pX9_sheet_4 : Bt cX9_sheet 4 (.ifCond .eq 25) 25 29 7 := ⟨tX9_sheet_0_ok (4, .ifCond .eq 25, 3) (List.mem_of_getElem? (i := 2) rfl), by decide, rfl⟩
theorem pX9_sheet_7 : At cX9_sheet 7 (.iload_n 2) 1 8 := ⟨tX9_sheet_0_ok (7, .iload_n 2, 1) (List.mem_of_getElem? (i := 3) rfl), rfl⟩
theorem pX9_sheet_8 : Bt cX9_sheet 8 (.ifCond .eq 27) 27 35 11 := ⟨tX9_sheet_0_ok (8, .ifCond .eq 27, 3) (List.mem_of_getElem? (i := 4) rfl), by decide, rfl⟩
theorem pX9_sheet_11 : At cX9_sheet 11 (.iload_n 2) 1 12 := ⟨tX9_sheet_0_ok (11, .iload_n 2, 1) (List.mem_of_getElem? (i := 5) rfl), rfl⟩
theorem pX9_sheet_12 : At cX9_sheet 12 (.bipush 8) 2 14 := ⟨tX9_sheet_0_ok (12, .bipush 8, 2) (List.mem_of_getElem? (i := 6) rfl), rfl⟩
theorem pX9_sheet_14 : Bt cX9_sheet 14 (.if_icmp .eq 21) 21 35 17 := ⟨tX9_sheet_0_ok (14, .if_icmp .eq 21, 3) (List.mem_of_getElem? (i := 7) rfl), by decide, rfl⟩
theorem pX9_sheet_17 : At cX9_sheet 17 (.iload_n 2) 1 18 := ⟨tX9_sheet_0_ok (17, .iload_n 2, 1) (List.mem_of_getElem? (i := 8) rfl), rfl⟩
theorem pX9_sheet_18 : At cX9_sheet 18 (.bipush 16) 2 20 := ⟨tX9_sheet_0_ok (18, .bipush 16, 2) (List.mem_of_getElem? (i := 9) rfl), rfl⟩
theorem pX9_sheet_20 : Bt cX9_sheet 20 (.if_icmp .eq 15) 15 35 23 := ⟨tX9_sheet_0_ok (20, .if_icmp .eq 15, 3) (List.mem_of_getElem? (i := 10) rfl), by decide, rfl⟩
theorem pX9_sheet_23 : At cX9_sheet 23 (.iload_n 2) 1 24 := ⟨tX9_sheet_0_ok (23, .iload_n 2, 1) (List.mem_of_getElem? (i := 11) rfl), rfl⟩
theorem pX9_sheet_24 : At cX9_sheet 24 (.bipush 32) 2 26 := ⟨tX9_sheet_0_ok (24, .bipush 32, 2) (List.mem_of_getElem? (i := 12) rfl), rfl⟩
theorem pX9_sheet_26 : Bt cX9_sheet 26 (.if_icmp .eq 9) 9 35 29 := ⟨tX9_sheet_0_ok (26, .if_icmp .eq 9, 3) (List.mem_of_getElem? (i := 13) rfl), by decide, rfl⟩
theorem pX9_sheet_29 : At cX9_sheet 29 (.aload_n 0) 1 30 := ⟨tX9_sheet_0_ok (29, .aload_n 0, 1) (List.mem_of_getElem? (i := 14) rfl), rfl⟩
theorem pX9_sheet_30 : At cX9_sheet 30 (.iconst 1) 1 31 := ⟨tX9_sheet_0_ok (30, .iconst 1, 1) (List.mem_of_getElem? (i := 15) rfl), rfl⟩
theorem pX9_sheet_31 : At cX9_sheet 31 (.invokevirtual 80) 3 34 := ⟨tX9_sheet_0_ok (31, .invokevirtual 80, 3) (List.mem_of_getElem? (i := 16) rfl), rfl⟩
theorem pX9_sheet_34 : At cX9_sheet 34 (.ireturn) 1 35 := ⟨tX9_sheet_0_ok (34, .ireturn, 1) (List.mem_of_getElem? (i := 17) rfl), rfl⟩
theorem pX9_sheet_35 : At cX9_sheet 35 (.iload_n 2) 1 36 := ⟨tX9_sheet_0_ok (35, .iload_n 2, 1) (List.mem_of_getElem? (i := 18) rfl), rfl⟩
theorem pX9_sheet_36 : Bt cX9_sheet 36 (.ifCond .eq 13) 13 49 39 := ⟨tX9_sheet_0_ok (36, .ifCond .eq 13, 3) (List.mem_of_getElem? (i := 19) rfl), by decide, rfl⟩
theorem pX9_sheet_39 : At cX9_sheet 39 (.iload_n 3) 1 40 := ⟨tX9_sheet_0_ok (39, .iload_n 3, 1) (List.mem_of_getElem? (i := 20) rfl), rfl⟩
theorem pX9_sheet_40 : Bt cX9_sheet 40 (.ifCond .ge 9) 9 49 43 := ⟨tX9_sheet_0_ok (40, .ifCond .ge 9, 3) (List.mem_of_getElem? (i := 21) rfl), by decide, rfl⟩
theorem pX9_sheet_43 : At cX9_sheet 43 (.aload_n 0) 1 44 := ⟨tX9_sheet_0_ok (43, .aload_n 0, 1) (List.mem_of_getElem? (i := 22) rfl), rfl⟩
theorem pX9_sheet_44 : At cX9_sheet 44 (.iconst 3) 1 45 := ⟨tX9_sheet_0_ok (44, .iconst 3, 1) (List.mem_of_getElem? (i := 23) rfl), rfl⟩
theorem pX9_sheet_45 : At cX9_sheet 45 (.invokevirtual 80) 3 48 := ⟨tX9_sheet_0_ok (45, .invokevirtual 80, 3) (List.mem_of_getElem? (i := 24) rfl), rfl⟩
theorem pX9_sheet_48 : At cX9_sheet 48 (.ireturn) 1 49 := ⟨tX9_sheet_0_ok (48, .ireturn, 1) (List.mem_of_getElem? (i := 25) rfl), rfl⟩
theorem pX9_sheet_49 : At cX9_sheet 49 (.iload_n 2) 1 50 := ⟨tX9_sheet_0_ok (49, .iload_n 2, 1) (List.mem_of_getElem? (i := 26) rfl), rfl⟩
theorem pX9_sheet_50 : Bt cX9_sheet 50 (.ifCond .eq 15) 15 65 53 := ⟨tX9_sheet_0_ok (50, .ifCond .eq 15, 3) (List.mem_of_getElem? (i := 27) rfl), by decide, rfl⟩
theorem pX9_sheet_53 : At cX9_sheet 53 (.iload_n 3) 1 54 := ⟨tX9_sheet_0_ok (53, .iload_n 3, 1) (List.mem_of_getElem? (i := 28) rfl), rfl⟩
theorem pX9_sheet_54 : At cX9_sheet 54 (.bipush 40) 2 56 := ⟨tX9_sheet_0_ok (54, .bipush 40, 2) (List.mem_of_getElem? (i := 29) rfl), rfl⟩
theorem pX9_sheet_56 : Bt cX9_sheet 56 (.if_icmp .le 9) 9 65 59 := ⟨tX9_sheet_0_ok (56, .if_icmp .le 9, 3) (List.mem_of_getElem? (i := 30) rfl), by decide, rfl⟩
theorem pX9_sheet_59 : At cX9_sheet 59 (.aload_n 0) 1 60 := ⟨tX9_sheet_0_ok (59, .aload_n 0, 1) (List.mem_of_getElem? (i := 31) rfl), rfl⟩
theorem pX9_sheet_60 : At cX9_sheet 60 (.iconst 1) 1 61 := ⟨tX9_sheet_0_ok (60, .iconst 1, 1) (List.mem_of_getElem? (i := 32) rfl), rfl⟩
theorem pX9_sheet_61 : At cX9_sheet 61 (.invokevirtual 80) 3 64 := ⟨tX9_sheet_0_ok (61, .invokevirtual 80, 3) (List.mem_of_getElem? (i := 33) rfl), rfl⟩
theorem pX9_sheet_64 : At cX9_sheet 64 (.ireturn) 1 65 := ⟨tX9_sheet_0_ok (64, .ireturn, 1) (List.mem_of_getElem? (i := 34) rfl), rfl⟩
theorem pX9_sheet_65 : At cX9_sheet 65 (.aload_n 0) 1 66 := ⟨tX9_sheet_0_ok (65, .aload_n 0, 1) (List.mem_of_getElem? (i := 35) rfl), rfl⟩
theorem pX9_sheet_66 : At cX9_sheet 66 (.getfield 64) 3 69 := ⟨tX9_sheet_0_ok (66, .getfield 64, 3) (List.mem_of_getElem? (i := 36) rfl), rfl⟩
theorem pX9_sheet_69 : At cX9_sheet 69 (.iload_n 1) 1 70 := ⟨tX9_sheet_0_ok (69, .iload_n 1, 1) (List.mem_of_getElem? (i := 37) rfl), rfl⟩
theorem pX9_sheet_70 : At cX9_sheet 70 (.aaload) 1 71 := ⟨tX9_sheet_0_ok (70, .aaload, 1) (List.mem_of_getElem? (i := 38) rfl), rfl⟩
theorem pX9_sheet_71 : At cX9_sheet 71 (.iload_n 2) 1 72 := ⟨tX9_sheet_0_ok (71, .iload_n 2, 1) (List.mem_of_getElem? (i := 39) rfl), rfl⟩
theorem pX9_sheet_72 : At cX9_sheet 72 (.iload_n 2) 1 73 := ⟨tX9_sheet_0_ok (72, .iload_n 2, 1) (List.mem_of_getElem? (i := 40) rfl), rfl⟩
theorem pX9_sheet_73 : Bt cX9_sheet 73 (.ifCond .ne 7) 7 80 76 := ⟨tX9_sheet_0_ok (73, .ifCond .ne 7, 3) (List.mem_of_getElem? (i := 41) rfl), by decide, rfl⟩
theorem pX9_sheet_76 : At cX9_sheet 76 (.iconst 0) 1 77 := ⟨tX9_sheet_0_ok (76, .iconst 0, 1) (List.mem_of_getElem? (i := 42) rfl), rfl⟩
theorem pX9_sheet_77 : Bt cX9_sheet 77 (.goto 4) 4 81 80 := ⟨tX9_sheet_0_ok (77, .goto 4, 3) (List.mem_of_getElem? (i := 43) rfl), by decide, rfl⟩
theorem pX9_sheet_80 : At cX9_sheet 80 (.iload_n 3) 1 81 := ⟨tX9_sheet_0_ok (80, .iload_n 3, 1) (List.mem_of_getElem? (i := 44) rfl), rfl⟩
theorem pX9_sheet_81 : At cX9_sheet 81 (.invokevirtual 282) 3 84 := ⟨tX9_sheet_0_ok (81, .invokevirtual 282, 3) (List.mem_of_getElem? (i := 45) rfl), rfl⟩
theorem pX9_sheet_84 : At cX9_sheet 84 (.iconst 1) 1 85 := ⟨tX9_sheet_0_ok (84, .iconst 1, 1) (List.mem_of_getElem? (i := 46) rfl), rfl⟩
theorem pX9_sheet_85 : At cX9_sheet 85 (.ireturn) 1 86 := ⟨tX9_sheet_0_ok (85, .ireturn, 1) (List.mem_of_getElem? (i := 47) rfl), rfl⟩
def tX9_put_0 : List (Nat × Instr × Nat) := [(0, .iload_n 1, 1), (1, .invokestatic 252, 3), (4, .ifCond .ne 9, 3), (7, .aload_n 0, 1), (8, .iconst 1, 1), (9, .invokevirtual 80, 3), (12, .ireturn, 1), (13, .aload_n 0, 1), (14, .getfield 64, 3), (17, .iload_n 1, 1), (18, .aaload, 1), (19, .astore 4, 2), (21, .aload 4, 2), (23, .invokevirtual 255, 3), (26, .ifCond .eq 9, 3), (29, .aload_n 0, 1), (30, .iconst 2, 1), (31, .invokevirtual 80, 3), (34, .ireturn, 1), (35, .iload_n 2, 1), (36, .iconst 0, 1), (37, .aload 4, 2), (39, .getfield 286, 3), (42, .iconst 1, 1), (43, .isub, 1), (44, .invokestatic 104, 3), (47, .ifCond .ne 9, 3), (50, .aload_n 0, 1), (51, .iconst 1, 1), (52, .invokevirtual 80, 3), (55, .ireturn, 1), (56, .aload 4, 2), (58, .getfield 289, 3), (61, .iload_n 2, 1), (62, .aload 4, 2), (64, .iload_n 3, 1), (65, .invokevirtual 292, 3), (68, .iastore, 1), (69, .iconst 1, 1), (70, .ireturn, 1)]
theorem tX9_put_0_ok : ∀ q ∈ tX9_put_0, decode cX9_put q.1 = .ok (q.2.1, q.2.2) := by decide +kernel
theorem pX9_put_0 : At cX9_put 0 (.iload_n 1) 1 1 := ⟨tX9_put_0_ok (0, .iload_n 1, 1) (List.mem_of_getElem? (i := 0) rfl), rfl⟩
theorem pX9_put_1 : At cX9_put 1 (.invokestatic 252) 3 4 := ⟨tX9_put_0_ok (1, .invokestatic 252, 3) (List.mem_of_getElem? (i := 1) rfl), rfl⟩
theorem pX9_put_4 : Bt cX9_put 4 (.ifCond .ne 9) 9 13 7 := ⟨tX9_put_0_ok (4, .ifCond .ne 9, 3) (List.mem_of_getElem? (i := 2) rfl), by decide, rfl⟩
theorem pX9_put_7 : At cX9_put 7 (.aload_n 0) 1 8 := ⟨tX9_put_0_ok (7, .aload_n 0, 1) (List.mem_of_getElem? (i := 3) rfl), rfl⟩
theorem pX9_put_8 : At cX9_put 8 (.iconst 1) 1 9 := ⟨tX9_put_0_ok (8, .iconst 1, 1) (List.mem_of_getElem? (i := 4) rfl), rfl⟩
theorem pX9_put_9 : At cX9_put 9 (.invokevirtual 80) 3 12 := ⟨tX9_put_0_ok (9, .invokevirtual 80, 3) (List.mem_of_getElem? (i := 5) rfl), rfl⟩
theorem pX9_put_12 : At cX9_put 12 (.ireturn) 1 13 := ⟨tX9_put_0_ok (12, .ireturn, 1) (List.mem_of_getElem? (i := 6) rfl), rfl⟩
theorem pX9_put_13 : At cX9_put 13 (.aload_n 0) 1 14 := ⟨tX9_put_0_ok (13, .aload_n 0, 1) (List.mem_of_getElem? (i := 7) rfl), rfl⟩
theorem pX9_put_14 : At cX9_put 14 (.getfield 64) 3 17 := ⟨tX9_put_0_ok (14, .getfield 64, 3) (List.mem_of_getElem? (i := 8) rfl), rfl⟩
theorem pX9_put_17 : At cX9_put 17 (.iload_n 1) 1 18 := ⟨tX9_put_0_ok (17, .iload_n 1, 1) (List.mem_of_getElem? (i := 9) rfl), rfl⟩
theorem pX9_put_18 : At cX9_put 18 (.aaload) 1 19 := ⟨tX9_put_0_ok (18, .aaload, 1) (List.mem_of_getElem? (i := 10) rfl), rfl⟩
theorem pX9_put_19 : At cX9_put 19 (.astore 4) 2 21 := ⟨tX9_put_0_ok (19, .astore 4, 2) (List.mem_of_getElem? (i := 11) rfl), rfl⟩
theorem pX9_put_21 : At cX9_put 21 (.aload 4) 2 23 := ⟨tX9_put_0_ok (21, .aload 4, 2) (List.mem_of_getElem? (i := 12) rfl), rfl⟩
theorem pX9_put_23 : At cX9_put 23 (.invokevirtual 255) 3 26 := ⟨tX9_put_0_ok (23, .invokevirtual 255, 3) (List.mem_of_getElem? (i := 13) rfl), rfl⟩
theorem pX9_put_26 : Bt cX9_put 26 (.ifCond .eq 9) 9 35 29 := ⟨tX9_put_0_ok (26, .ifCond .eq 9, 3) (List.mem_of_getElem? (i := 14) rfl), by decide, rfl⟩
theorem pX9_put_29 : At cX9_put 29 (.aload_n 0) 1 30 := ⟨tX9_put_0_ok (29, .aload_n 0, 1) (List.mem_of_getElem? (i := 15) rfl), rfl⟩
theorem pX9_put_30 : At cX9_put 30 (.iconst 2) 1 31 := ⟨tX9_put_0_ok (30, .iconst 2, 1) (List.mem_of_getElem? (i := 16) rfl), rfl⟩
theorem pX9_put_31 : At cX9_put 31 (.invokevirtual 80) 3 34 := ⟨tX9_put_0_ok (31, .invokevirtual 80, 3) (List.mem_of_getElem? (i := 17) rfl), rfl⟩
theorem pX9_put_34 : At cX9_put 34 (.ireturn) 1 35 := ⟨tX9_put_0_ok (34, .ireturn, 1) (List.mem_of_getElem? (i := 18) rfl), rfl⟩
theorem pX9_put_35 : At cX9_put 35 (.iload_n 2) 1 36 := ⟨tX9_put_0_ok (35, .iload_n 2, 1) (List.mem_of_getElem? (i := 19) rfl), rfl⟩
theorem pX9_put_36 : At cX9_put 36 (.iconst 0) 1 37 := ⟨tX9_put_0_ok (36, .iconst 0, 1) (List.mem_of_getElem? (i := 20) rfl), rfl⟩
theorem pX9_put_37 : At cX9_put 37 (.aload 4) 2 39 := ⟨tX9_put_0_ok (37, .aload 4, 2) (List.mem_of_getElem? (i := 21) rfl), rfl⟩
theorem pX9_put_39 : At cX9_put 39 (.getfield 286) 3 42 := ⟨tX9_put_0_ok (39, .getfield 286, 3) (List.mem_of_getElem? (i := 22) rfl), rfl⟩
theorem pX9_put_42 : At cX9_put 42 (.iconst 1) 1 43 := ⟨tX9_put_0_ok (42, .iconst 1, 1) (List.mem_of_getElem? (i := 23) rfl), rfl⟩
theorem pX9_put_43 : At cX9_put 43 (.isub) 1 44 := ⟨tX9_put_0_ok (43, .isub, 1) (List.mem_of_getElem? (i := 24) rfl), rfl⟩
theorem pX9_put_44 : At cX9_put 44 (.invokestatic 104) 3 47 := ⟨tX9_put_0_ok (44, .invokestatic 104, 3) (List.mem_of_getElem? (i := 25) rfl), rfl⟩
theorem pX9_put_47 : Bt cX9_put 47 (.ifCond .ne 9) 9 56 50 := ⟨tX9_put_0_ok (47, .ifCond .ne 9, 3) (List.mem_of_getElem? (i := 26) rfl), by decide, rfl⟩
theorem pX9_put_50 : At cX9_put 50 (.aload_n 0) 1 51 := ⟨tX9_put_0_ok (50, .aload_n 0, 1) (List.mem_of_getElem? (i := 27) rfl), rfl⟩
theorem pX9_put_51 : At cX9_put 51 (.iconst 1) 1 52 := ⟨tX9_put_0_ok (51, .iconst 1, 1) (List.mem_of_getElem? (i := 28) rfl), rfl⟩
theorem pX9_put_52 : At cX9_put 52 (.invokevirtual 80) 3 55 := ⟨tX9_put_0_ok (52, .invokevirtual 80, 3) (List.mem_of_getElem? (i := 29) rfl), rfl⟩
theorem pX9_put_55 : At cX9_put 55 (.ireturn) 1 56 := ⟨tX9_put_0_ok (55, .ireturn, 1) (List.mem_of_getElem? (i := 30) rfl), rfl⟩
theorem pX9_put_56 : At cX9_put 56 (.aload 4) 2 58 := ⟨tX9_put_0_ok (56, .aload 4, 2) (List.mem_of_getElem? (i := 31) rfl), rfl⟩
theorem pX9_put_58 : At cX9_put 58 (.getfield 289) 3 61 := ⟨tX9_put_0_ok (58, .getfield 289, 3) (List.mem_of_getElem? (i := 32) rfl), rfl⟩
theorem pX9_put_61 : At cX9_put 61 (.iload_n 2) 1 62 := ⟨tX9_put_0_ok (61, .iload_n 2, 1) (List.mem_of_getElem? (i := 33) rfl), rfl⟩
theorem pX9_put_62 : At cX9_put 62 (.aload 4) 2 64 := ⟨tX9_put_0_ok (62, .aload 4, 2) (List.mem_of_getElem? (i := 34) rfl), rfl⟩
theorem pX9_put_64 : At cX9_put 64 (.iload_n 3) 1 65 := ⟨tX9_put_0_ok (64, .iload_n 3, 1) (List.mem_of_getElem? (i := 35) rfl), rfl⟩
theorem pX9_put_65 : At cX9_put 65 (.invokevirtual 292) 3 68 := ⟨tX9_put_0_ok (65, .invokevirtual 292, 3) (List.mem_of_getElem? (i := 36) rfl), rfl⟩
theorem pX9_put_68 : At cX9_put 68 (.iastore) 1 69 := ⟨tX9_put_0_ok (68, .iastore, 1) (List.mem_of_getElem? (i := 37) rfl), rfl⟩
theorem pX9_put_69 : At cX9_put 69 (.iconst 1) 1 70 := ⟨tX9_put_0_ok (69, .iconst 1, 1) (List.mem_of_getElem? (i := 38) rfl), rfl⟩
theorem pX9_put_70 : At cX9_put 70 (.ireturn) 1 71 := ⟨tX9_put_0_ok (70, .ireturn, 1) (List.mem_of_getElem? (i := 39) rfl), rfl⟩
def tX9_move_0 : List (Nat × Instr × Nat) := [(0, .iload_n 1, 1), (1, .invokestatic 252, 3), (4, .ifCond .eq 10, 3), (7, .iload_n 3, 1), (8, .invokestatic 252, 3), (11, .ifCond .ne 9, 3), (14, .aload_n 0, 1), (15, .iconst 1, 1), (16, .invokevirtual 80, 3), (19, .ireturn, 1), (20, .aload_n 0, 1), (21, .getfield 64, 3), (24, .iload_n 1, 1), (25, .aaload, 1), (26, .astore 6, 2), (28, .aload_n 0, 1), (29, .getfield 64, 3), (32, .iload_n 3, 1), (33, .aaload, 1), (34, .astore 7, 2), (36, .aload 6, 2), (38, .invokevirtual 255, 3), (41, .ifCond .ne 11, 3), (44, .aload 7, 2), (46, .invokevirtual 255, 3), (49, .ifCond .eq 9, 3), (52, .aload_n 0, 1), (53, .iconst 2, 1), (54, .invokevirtual 80, 3), (57, .ireturn, 1), (58, .aload 6, 2), (60, .getfield 295, 3), (63, .aload 7, 2), (65, .getfield 295, 3), (68, .if_icmp .eq 9, 3), (71, .aload_n 0, 1), (72, .iconst 5, 1), (73, .invokevirtual 80, 3), (76, .ireturn, 1), (77, .aload 6, 2), (79, .iload_n 2, 1), (80, .iload 5, 2), (82, .invokevirtual 298, 3), (85, .ifCond .eq 15, 3), (88, .aload 7, 2), (90, .iload 4, 2), (92, .iload 5, 2), (94, .invokevirtual 298, 3), (97, .ifCond .ne 9, 3), (100, .aload_n 0, 1), (101, .iconst 1, 1), (102, .invokevirtual 80, 3), (105, .ireturn, 1), (106, .aload 6, 2), (108, .getfield 289, 3), (111, .iload_n 2, 1), (112, .aload 7, 2), (114, .getfield 289, 3), (117, .iload 4, 2), (119, .iload 5, 2), (121, .invokestatic 301, 3), (124, .iload 5, 2), (126, .ireturn, 1)]
theorem tX9_move_0_ok : ∀ q ∈ tX9_move_0, decode cX9_move q.1 = .ok (q.2.1, q.2.2) := by decide +kernel
theorem pX9_move_0 : At cX9_move 0 (.iload_n 1) 1 1 := ⟨tX9_move_0_ok (0, .iload_n 1, 1) (List.mem_of_getElem? (i := 0) rfl), rfl⟩
theorem pX9_move_1 : At cX9_move 1 (.invokestatic 252) 3 4 := ⟨tX9_move_0_ok (1, .invokestatic 252, 3) (List.mem_of_getElem? (i := 1) rfl), rfl⟩
theorem pX9_move_4 : Bt cX9_move 4 (.ifCond .eq 10) 10 14 7 := ⟨tX9_move_0_ok (4, .ifCond .eq 10, 3) (List.mem_of_getElem? (i := 2) rfl), by decide, rfl⟩
theorem pX9_move_7 : At cX9_move 7 (.iload_n 3) 1 8 := ⟨tX9_move_0_ok (7, .iload_n 3, 1) (List.mem_of_getElem? (i := 3) rfl), rfl⟩
theorem pX9_move_8 : At cX9_move 8 (.invokestatic 252) 3 11 := ⟨tX9_move_0_ok (8, .invokestatic 252, 3) (List.mem_of_getElem? (i := 4) rfl), rfl⟩
theorem pX9_move_11 : Bt cX9_move 11 (.ifCond .ne 9) 9 20 14 := ⟨tX9_move_0_ok (11, .ifCond .ne 9, 3) (List.mem_of_getElem? (i := 5) rfl), by decide, rfl⟩
theorem pX9_move_14 : At cX9_move 14 (.aload_n 0) 1 15 := ⟨tX9_move_0_ok (14, .aload_n 0, 1) (List.mem_of_getElem? (i := 6) rfl), rfl⟩
theorem pX9_move_15 : At cX9_move 15 (.iconst 1) 1 16 := ⟨tX9_move_0_ok (15, .iconst 1, 1) (List.mem_of_getElem? (i := 7) rfl), rfl⟩
theorem pX9_move_16 : At cX9_move 16 (.invokevirtual 80) 3 19 := ⟨tX9_move_0_ok (16, .invokevirtual 80, 3) (List.mem_of_getElem? (i := 8) rfl), rfl⟩
theorem pX9_move_19 : At cX9_move 19 (.ireturn) 1 20 := ⟨tX9_move_0_ok (19, .ireturn, 1) (List.mem_of_getElem? (i := 9) rfl), rfl⟩
theorem pX9_move_20 : At cX9_move 20 (.aload_n 0) 1 21 := ⟨tX9_move_0_ok (20, .aload_n 0, 1) (List.mem_of_getElem? (i := 10) rfl), rfl⟩
theorem pX9_move_21 : At cX9_move 21 (.getfield 64) 3 24 := ⟨tX9_move_0_ok (21, .getfield 64, 3) (List.mem_of_getElem? (i := 11) rfl), rfl⟩
theorem pX9_move_24 : At cX9_move 24 (.iload_n 1) 1 25 := ⟨tX9_move_0_ok (24, .iload_n 1, 1) (List.mem_of_getElem? (i := 12) rfl), rfl⟩
theorem pX9_move_25 : At cX9_move 25 (.aaload) 1 26 := ⟨tX9_move_0_ok (25, .aaload, 1) (List.mem_of_getElem? (i := 13) rfl), rfl⟩
theorem pX9_move_26 : At cX9_move 26 (.astore 6) 2 28 := ⟨tX9_move_0_ok (26, .astore 6, 2) (List.mem_of_getElem? (i := 14) rfl), rfl⟩
theorem pX9_move_28 : At cX9_move 28 (.aload_n 0) 1 29 := ⟨tX9_move_0_ok (28, .aload_n 0, 1) (List.mem_of_getElem? (i := 15) rfl), rfl⟩
theorem pX9_move_29 : At cX9_move 29 (.getfield 64) 3 32 := ⟨tX9_move_0_ok (29, .getfield 64, 3) (List.mem_of_getElem? (i := 16) rfl), rfl⟩
theorem pX9_move_32 : At cX9_move 32 (.iload_n 3) 1 33 := ⟨tX9_move_0_ok (32, .iload_n 3, 1) (List.mem_of_getElem? (i := 17) rfl), rfl⟩
theorem pX9_move_33 : At cX9_move 33 (.aaload) 1 34 := ⟨tX9_move_0_ok (33, .aaload, 1) (List.mem_of_getElem? (i := 18) rfl), rfl⟩
theorem pX9_move_34 : At cX9_move 34 (.astore 7) 2 36 := ⟨tX9_move_0_ok (34, .astore 7, 2) (List.mem_of_getElem? (i := 19) rfl), rfl⟩
theorem pX9_move_36 : At cX9_move 36 (.aload 6) 2 38 := ⟨tX9_move_0_ok (36, .aload 6, 2) (List.mem_of_getElem? (i := 20) rfl), rfl⟩
theorem pX9_move_38 : At cX9_move 38 (.invokevirtual 255) 3 41 := ⟨tX9_move_0_ok (38, .invokevirtual 255, 3) (List.mem_of_getElem? (i := 21) rfl), rfl⟩
theorem pX9_move_41 : Bt cX9_move 41 (.ifCond .ne 11) 11 52 44 := ⟨tX9_move_0_ok (41, .ifCond .ne 11, 3) (List.mem_of_getElem? (i := 22) rfl), by decide, rfl⟩
theorem pX9_move_44 : At cX9_move 44 (.aload 7) 2 46 := ⟨tX9_move_0_ok (44, .aload 7, 2) (List.mem_of_getElem? (i := 23) rfl), rfl⟩
theorem pX9_move_46 : At cX9_move 46 (.invokevirtual 255) 3 49 := ⟨tX9_move_0_ok (46, .invokevirtual 255, 3) (List.mem_of_getElem? (i := 24) rfl), rfl⟩
theorem pX9_move_49 : Bt cX9_move 49 (.ifCond .eq 9) 9 58 52 := ⟨tX9_move_0_ok (49, .ifCond .eq 9, 3) (List.mem_of_getElem? (i := 25) rfl), by decide, rfl⟩
theorem pX9_move_52 : At cX9_move 52 (.aload_n 0) 1 53 := ⟨tX9_move_0_ok (52, .aload_n 0, 1) (List.mem_of_getElem? (i := 26) rfl), rfl⟩
theorem pX9_move_53 : At cX9_move 53 (.iconst 2) 1 54 := ⟨tX9_move_0_ok (53, .iconst 2, 1) (List.mem_of_getElem? (i := 27) rfl), rfl⟩
theorem pX9_move_54 : At cX9_move 54 (.invokevirtual 80) 3 57 := ⟨tX9_move_0_ok (54, .invokevirtual 80, 3) (List.mem_of_getElem? (i := 28) rfl), rfl⟩
theorem pX9_move_57 : At cX9_move 57 (.ireturn) 1 58 := ⟨tX9_move_0_ok (57, .ireturn, 1) (List.mem_of_getElem? (i := 29) rfl), rfl⟩
theorem pX9_move_58 : At cX9_move 58 (.aload 6) 2 60 := ⟨tX9_move_0_ok (58, .aload 6, 2) (List.mem_of_getElem? (i := 30) rfl), rfl⟩
theorem pX9_move_60 : At cX9_move 60 (.getfield 295) 3 63 := ⟨tX9_move_0_ok (60, .getfield 295, 3) (List.mem_of_getElem? (i := 31) rfl), rfl⟩
theorem pX9_move_63 : At cX9_move 63 (.aload 7) 2 65 := ⟨tX9_move_0_ok (63, .aload 7, 2) (List.mem_of_getElem? (i := 32) rfl), rfl⟩
theorem pX9_move_65 : At cX9_move 65 (.getfield 295) 3 68 := ⟨tX9_move_0_ok (65, .getfield 295, 3) (List.mem_of_getElem? (i := 33) rfl), rfl⟩
theorem pX9_move_68 : Bt cX9_move 68 (.if_icmp .eq 9) 9 77 71 := ⟨tX9_move_0_ok (68, .if_icmp .eq 9, 3) (List.mem_of_getElem? (i := 34) rfl), by decide, rfl⟩
theorem pX9_move_71 : At cX9_move 71 (.aload_n 0) 1 72 := ⟨tX9_move_0_ok (71, .aload_n 0, 1) (List.mem_of_getElem? (i := 35) rfl), rfl⟩
theorem pX9_move_72 : At cX9_move 72 (.iconst 5) 1 73 := ⟨tX9_move_0_ok (72, .iconst 5, 1) (List.mem_of_getElem? (i := 36) rfl), rfl⟩
theorem pX9_move_73 : At cX9_move 73 (.invokevirtual 80) 3 76 := ⟨tX9_move_0_ok (73, .invokevirtual 80, 3) (List.mem_of_getElem? (i := 37) rfl), rfl⟩
theorem pX9_move_76 : At cX9_move 76 (.ireturn) 1 77 := ⟨tX9_move_0_ok (76, .ireturn, 1) (List.mem_of_getElem? (i := 38) rfl), rfl⟩
theorem pX9_move_77 : At cX9_move 77 (.aload 6) 2 79 := ⟨tX9_move_0_ok (77, .aload 6, 2) (List.mem_of_getElem? (i := 39) rfl), rfl⟩
theorem pX9_move_79 : At cX9_move 79 (.iload_n 2) 1 80 := ⟨tX9_move_0_ok (79, .iload_n 2, 1) (List.mem_of_getElem? (i := 40) rfl), rfl⟩
theorem pX9_move_80 : At cX9_move 80 (.iload 5) 2 82 := ⟨tX9_move_0_ok (80, .iload 5, 2) (List.mem_of_getElem? (i := 41) rfl), rfl⟩
theorem pX9_move_82 : At cX9_move 82 (.invokevirtual 298) 3 85 := ⟨tX9_move_0_ok (82, .invokevirtual 298, 3) (List.mem_of_getElem? (i := 42) rfl), rfl⟩
theorem pX9_move_85 : Bt cX9_move 85 (.ifCond .eq 15) 15 100 88 := ⟨tX9_move_0_ok (85, .ifCond .eq 15, 3) (List.mem_of_getElem? (i := 43) rfl), by decide, rfl⟩
theorem pX9_move_88 : At cX9_move 88 (.aload 7) 2 90 := ⟨tX9_move_0_ok (88, .aload 7, 2) (List.mem_of_getElem? (i := 44) rfl), rfl⟩
theorem pX9_move_90 : At cX9_move 90 (.iload 4) 2 92 := ⟨tX9_move_0_ok (90, .iload 4, 2) (List.mem_of_getElem? (i := 45) rfl), rfl⟩
theorem pX9_move_92 : At cX9_move 92 (.iload 5) 2 94 := ⟨tX9_move_0_ok (92, .iload 5, 2) (List.mem_of_getElem? (i := 46) rfl), rfl⟩
theorem pX9_move_94 : At cX9_move 94 (.invokevirtual 298) 3 97 := ⟨tX9_move_0_ok (94, .invokevirtual 298, 3) (List.mem_of_getElem? (i := 47) rfl), rfl⟩
theorem pX9_move_97 : Bt cX9_move 97 (.ifCond .ne 9) 9 106 100 := ⟨tX9_move_0_ok (97, .ifCond .ne 9, 3) (List.mem_of_getElem? (i := 48) rfl), by decide, rfl⟩
theorem pX9_move_100 : At cX9_move 100 (.aload_n 0) 1 101 := ⟨tX9_move_0_ok (100, .aload_n 0, 1) (List.mem_of_getElem? (i := 49) rfl), rfl⟩
theorem pX9_move_101 : At cX9_move 101 (.iconst 1) 1 102 := ⟨tX9_move_0_ok (101, .iconst 1, 1) (List.mem_of_getElem? (i := 50) rfl), rfl⟩
theorem pX9_move_102 : At cX9_move 102 (.invokevirtual 80) 3 105 := ⟨tX9_move_0_ok (102, .invokevirtual 80, 3) (List.mem_of_getElem? (i := 51) rfl), rfl⟩
theorem pX9_move_105 : At cX9_move 105 (.ireturn) 1 106 := ⟨tX9_move_0_ok (105, .ireturn, 1) (List.mem_of_getElem? (i := 52) rfl), rfl⟩
theorem pX9_move_106 : At cX9_move 106 (.aload 6) 2 108 := ⟨tX9_move_0_ok (106, .aload 6, 2) (List.mem_of_getElem? (i := 53) rfl), rfl⟩
theorem pX9_move_108 : At cX9_move 108 (.getfield 289) 3 111 := ⟨tX9_move_0_ok (108, .getfield 289, 3) (List.mem_of_getElem? (i := 54) rfl), rfl⟩
theorem pX9_move_111 : At cX9_move 111 (.iload_n 2) 1 112 := ⟨tX9_move_0_ok (111, .iload_n 2, 1) (List.mem_of_getElem? (i := 55) rfl), rfl⟩
theorem pX9_move_112 : At cX9_move 112 (.aload 7) 2 114 := ⟨tX9_move_0_ok (112, .aload 7, 2) (List.mem_of_getElem? (i := 56) rfl), rfl⟩
theorem pX9_move_114 : At cX9_move 114 (.getfield 289) 3 117 := ⟨tX9_move_0_ok (114, .getfield 289, 3) (List.mem_of_getElem? (i := 57) rfl), rfl⟩
theorem pX9_move_117 : At cX9_move 117 (.iload 4) 2 119 := ⟨tX9_move_0_ok (117, .iload 4, 2) (List.mem_of_getElem? (i := 58) rfl), rfl⟩
theorem pX9_move_119 : At cX9_move 119 (.iload 5) 2 121 := ⟨tX9_move_0_ok (119, .iload 5, 2) (List.mem_of_getElem? (i := 59) rfl), rfl⟩
theorem pX9_move_121 : At cX9_move 121 (.invokestatic 301) 3 124 := ⟨tX9_move_0_ok (121, .invokestatic 301, 3) (List.mem_of_getElem? (i := 60) rfl), rfl⟩
theorem pX9_move_124 : At cX9_move 124 (.iload 5) 2 126 := ⟨tX9_move_0_ok (124, .iload 5, 2) (List.mem_of_getElem? (i := 61) rfl), rfl⟩
theorem pX9_move_126 : At cX9_move 126 (.ireturn) 1 127 := ⟨tX9_move_0_ok (126, .ireturn, 1) (List.mem_of_getElem? (i := 62) rfl), rfl⟩
def tX9_pushes_0 : List (Nat × Instr × Nat) := [(0, .iload_n 1, 1), (1, .invokestatic 252, 3), (4, .ifCond .ne 9, 3), (7, .aload_n 0, 1), (8, .iconst 1, 1), (9, .invokevirtual 80, 3), (12, .ireturn, 1), (13, .aload_n 0, 1), (14, .getfield 64, 3), (17, .iload_n 1, 1), (18, .aaload, 1), (19, .astore_n 2, 1), (20, .aload_n 2, 1), (21, .invokevirtual 255, 3), (24, .ifCond .eq 9, 3), (27, .aload_n 0, 1), (28, .iconst 2, 1), (29, .invokevirtual 80, 3), (32, .ireturn, 1), (33, .aload_n 2, 1), (34, .getfield 286, 3), (37, .aload_n 0, 1), (38, .getfield 10, 3), (41, .getfield 84, 3), (44, .invokestatic 307, 3), (47, .istore_n 3, 1), (48, .iconst 0, 1), (49, .istore 4, 2), (51, .iload 4, 2), (53, .iload_n 3, 1), (54, .if_icmp .ge 45, 3), (57, .aload_n 2, 1), (58, .getfield 289, 3), (61, .iload 4, 2), (63, .iaload, 1), (64, .invokestatic 148, 3), (67, .ifCond .ne 6, 3), (70, .iload 4, 2), (72, .ireturn, 1), (73, .aload_n 0, 1), (74, .getfield 10, 3), (77, .getfield 88, 3), (80, .iload 4, 2), (82, .aaload, 1), (83, .aload_n 2, 1), (84, .getfield 289, 3), (87, .iload 4, 2), (89, .iaload, 1), (90, .invokevirtual 151, 3), (93, .iinc 4 1, 3), (96, .goto (-45), 3), (99, .iload_n 3, 1), (100, .ireturn, 1)]
theorem tX9_pushes_0_ok : ∀ q ∈ tX9_pushes_0, decode cX9_pushes q.1 = .ok (q.2.1, q.2.2) := by decide +kernel
theorem pX9_pushes_0 : At cX9_pushes 0 (.iload_n 1) 1 1 := ⟨tX9_pushes_0_ok (0, .iload_n 1, 1) (List.mem_of_getElem? (i := 0) rfl), rfl⟩
theorem pX9_pushes_1 : At cX9_pushes 1 (.invokestatic 252) 3 4 := ⟨tX9_pushes_0_ok (1, .invokestatic 252, 3) (List.mem_of_getElem? (i := 1) rfl), rfl⟩
theorem pX9_pushes_4 : Bt cX9_pushes 4 (.ifCond .ne 9) 9 13 7 := ⟨tX9_pushes_0_ok (4, .ifCond .ne 9, 3) (List.mem_of_getElem? (i := 2) rfl), by decide, rfl⟩
theorem pX9_pushes_7 : At cX9_pushes 7 (.aload_n 0) 1 8 := ⟨tX9_pushes_0_ok (7, .aload_n 0, 1) (List.mem_of_getElem? (i := 3) rfl), rfl⟩
theorem pX9_pushes_8 : At cX9_pushes 8 (.iconst 1) 1 9 := ⟨tX9_pushes_0_ok (8, .iconst 1, 1) (List.mem_of_getElem? (i := 4) rfl), rfl⟩
theorem pX9_pushes_9 : At cX9_pushes 9 (.invokevirtual 80) 3 12 := ⟨tX9_pushes_0_ok (9, .invokevirtual 80, 3) (List.mem_of_getElem? (i := 5) rfl), rfl⟩
theorem pX9_pushes_12 : At cX9_pushes 12 (.ireturn) 1 13 := ⟨tX9_pushes_0_ok (12, .ireturn, 1) (List.mem_of_getElem? (i := 6) rfl), rfl⟩
theorem pX9_pushes_13 : At cX9_pushes 13 (.aload_n 0) 1 14 := ⟨tX9_pushes_0_ok (13, .aload_n 0, 1) (List.mem_of_getElem? (i := 7) rfl), rfl⟩
theorem pX9_pushes_14 : At cX9_pushes 14 (.getfield 64) 3 17 := ⟨tX9_pushes_0_ok (14, .getfield 64, 3) (List.mem_of_getElem? (i := 8) rfl), rfl⟩
theorem pX9_pushes_17 : At cX9_pushes 17 (.iload_n 1) 1 18 := ⟨tX9_pushes_0_ok (17, .iload_n 1, 1) (List.mem_of_getElem? (i := 9) rfl), rfl⟩
theorem pX9_pushes_18 : At cX9_pushes 18 (.aaload) 1 19 := ⟨tX9_pushes_0_ok (18, .aaload, 1) (List.mem_of_getElem? (i := 10) rfl), rfl⟩
theorem pX9_pushes_19 : At cX9_pushes 19 (.astore_n 2) 1 20 := ⟨tX9_pushes_0_ok (19, .astore_n 2, 1) (List.mem_of_getElem? (i := 11) rfl), rfl⟩
theorem pX9_pushes_20 : At cX9_pushes 20 (.aload_n 2) 1 21 := ⟨tX9_pushes_0_ok (20, .aload_n 2, 1) (List.mem_of_getElem? (i := 12) rfl), rfl⟩
theorem pX9_pushes_21 : At cX9_pushes 21 (.invokevirtual 255) 3 24 := ⟨tX9_pushes_0_ok (21, .invokevirtual 255, 3) (List.mem_of_getElem? (i := 13) rfl), rfl⟩
theorem pX9_pushes_24 : Bt cX9_pushes 24 (.ifCond .eq 9) 9 33 27 := ⟨tX9_pushes_0_ok (24, .ifCond .eq 9, 3) (List.mem_of_getElem? (i := 14) rfl), by decide, rfl⟩
theorem pX9_pushes_27 : At cX9_pushes 27 (.aload_n 0) 1 28 := ⟨tX9_pushes_0_ok (27, .aload_n 0, 1) (List.mem_of_getElem? (i := 15) rfl), rfl⟩
theorem pX9_pushes_28 : At cX9_pushes 28 (.iconst 2) 1 29 := ⟨tX9_pushes_0_ok (28, .iconst 2, 1) (List.mem_of_getElem? (i := 16) rfl), rfl⟩
theorem pX9_pushes_29 : At cX9_pushes 29 (.invokevirtual 80) 3 32 := ⟨tX9_pushes_0_ok (29, .invokevirtual 80, 3) (List.mem_of_getElem? (i := 17) rfl), rfl⟩
theorem pX9_pushes_32 : At cX9_pushes 32 (.ireturn) 1 33 := ⟨tX9_pushes_0_ok (32, .ireturn, 1) (List.mem_of_getElem? (i := 18) rfl), rfl⟩
theorem pX9_pushes_33 : At cX9_pushes 33 (.aload_n 2) 1 34 := ⟨tX9_pushes_0_ok (33, .aload_n 2, 1) (List.mem_of_getElem? (i := 19) rfl), rfl⟩
theorem pX9_pushes_34 : At cX9_pushes 34 (.getfield 286) 3 37 := ⟨tX9_pushes_0_ok (34, .getfield 286, 3) (List.mem_of_getElem? (i := 20) rfl), rfl⟩
theorem pX9_pushes_37 : At cX9_pushes 37 (.aload_n 0) 1 38 := ⟨tX9_pushes_0_ok (37, .aload_n 0, 1) (List.mem_of_getElem? (i := 21) rfl), rfl⟩
theorem pX9_pushes_38 : At cX9_pushes 38 (.getfield 10) 3 41 := ⟨tX9_pushes_0_ok (38, .getfield 10, 3) (List.mem_of_getElem? (i := 22) rfl), rfl⟩
theorem pX9_pushes_41 : At cX9_pushes 41 (.getfield 84) 3 44 := ⟨tX9_pushes_0_ok (41, .getfield 84, 3) (List.mem_of_getElem? (i := 23) rfl), rfl⟩
theorem pX9_pushes_44 : At cX9_pushes 44 (.invokestatic 307) 3 47 := ⟨tX9_pushes_0_ok (44, .invokestatic 307, 3) (List.mem_of_getElem? (i := 24) rfl), rfl⟩
theorem pX9_pushes_47 : At cX9_pushes 47 (.istore_n 3) 1 48 := ⟨tX9_pushes_0_ok (47, .istore_n 3, 1) (List.mem_of_getElem? (i := 25) rfl), rfl⟩
theorem pX9_pushes_48 : At cX9_pushes 48 (.iconst 0) 1 49 := ⟨tX9_pushes_0_ok (48, .iconst 0, 1) (List.mem_of_getElem? (i := 26) rfl), rfl⟩
theorem pX9_pushes_49 : At cX9_pushes 49 (.istore 4) 2 51 := ⟨tX9_pushes_0_ok (49, .istore 4, 2) (List.mem_of_getElem? (i := 27) rfl), rfl⟩
theorem pX9_pushes_51 : At cX9_pushes 51 (.iload 4) 2 53 := ⟨tX9_pushes_0_ok (51, .iload 4, 2) (List.mem_of_getElem? (i := 28) rfl), rfl⟩
theorem pX9_pushes_53 : At cX9_pushes 53 (.iload_n 3) 1 54 := ⟨tX9_pushes_0_ok (53, .iload_n 3, 1) (List.mem_of_getElem? (i := 29) rfl), rfl⟩
theorem pX9_pushes_54 : Bt cX9_pushes 54 (.if_icmp .ge 45) 45 99 57 := ⟨tX9_pushes_0_ok (54, .if_icmp .ge 45, 3) (List.mem_of_getElem? (i := 30) rfl), by decide, rfl⟩
theorem pX9_pushes_57 : At cX9_pushes 57 (.aload_n 2) 1 58 := ⟨tX9_pushes_0_ok (57, .aload_n 2, 1) (List.mem_of_getElem? (i := 31) rfl), rfl⟩
theorem pX9_pushes_58 : At cX9_pushes 58 (.getfield 289) 3 61 := ⟨tX9_pushes_0_ok (58, .getfield 289, 3) (List.mem_of_getElem? (i := 32) rfl), rfl⟩
theorem pX9_pushes_61 : At cX9_pushes 61 (.iload 4) 2 63 := ⟨tX9_pushes_0_ok (61, .iload 4, 2) (List.mem_of_getElem? (i := 33) rfl), rfl⟩
theorem pX9_pushes_63 : At cX9_pushes 63 (.iaload) 1 64 := ⟨tX9_pushes_0_ok (63, .iaload, 1) (List.mem_of_getElem? (i := 34) rfl), rfl⟩
theorem pX9_pushes_64 : At cX9_pushes 64 (.invokestatic 148) 3 67 := ⟨tX9_pushes_0_ok (64, .invokestatic 148, 3) (List.mem_of_getElem? (i := 35) rfl), rfl⟩
theorem pX9_pushes_67 : Bt cX9_pushes 67 (.ifCond .ne 6) 6 73 70 := ⟨tX9_pushes_0_ok (67, .ifCond .ne 6, 3) (List.mem_of_getElem? (i := 36) rfl), by decide, rfl⟩
theorem pX9_pushes_70 : At cX9_pushes 70 (.iload 4) 2 72 := ⟨tX9_pushes_0_ok (70, .iload 4, 2) (List.mem_of_getElem? (i := 37) rfl), rfl⟩
theorem pX9_pushes_72 : At cX9_pushes 72 (.ireturn) 1 73 := ⟨tX9_pushes_0_ok (72, .ireturn, 1) (List.mem_of_getElem? (i := 38) rfl), rfl⟩
theorem pX9_pushes_73 : At cX9_pushes 73 (.aload_n 0) 1 74 := ⟨tX9_pushes_0_ok (73, .aload_n 0, 1) (List.mem_of_getElem? (i := 39) rfl), rfl⟩
theorem pX9_pushes_74 : At cX9_pushes 74 (.getfield 10) 3 77 := ⟨tX9_pushes_0_ok (74, .getfield 10, 3) (List.mem_of_getElem? (i := 40) rfl), rfl⟩
theorem pX9_pushes_77 : At cX9_pushes 77 (.getfield 88) 3 80 := ⟨tX9_pushes_0_ok (77, .getfield 88, 3) (List.mem_of_getElem? (i := 41) rfl), rfl⟩
theorem pX9_pushes_80 : At cX9_pushes 80 (.iload 4) 2 82 := ⟨tX9_pushes_0_ok (80, .iload 4, 2) (List.mem_of_getElem? (i := 42) rfl), rfl⟩
theorem pX9_pushes_82 : At cX9_pushes 82 (.aaload) 1 83 := ⟨tX9_pushes_0_ok (82, .aaload, 1) (List.mem_of_getElem? (i := 43) rfl), rfl⟩
theorem pX9_pushes_83 : At cX9_pushes 83 (.aload_n 2) 1 84 := ⟨tX9_pushes_0_ok (83, .aload_n 2, 1) (List.mem_of_getElem? (i := 44) rfl), rfl⟩
theorem pX9_pushes_84 : At cX9_pushes 84 (.getfield 289) 3 87 := ⟨tX9_pushes_0_ok (84, .getfield 289, 3) (List.mem_of_getElem? (i := 45) rfl), rfl⟩
theorem pX9_pushes_87 : At cX9_pushes 87 (.iload 4) 2 89 := ⟨tX9_pushes_0_ok (87, .iload 4, 2) (List.mem_of_getElem? (i := 46) rfl), rfl⟩
theorem pX9_pushes_89 : At cX9_pushes 89 (.iaload) 1 90 := ⟨tX9_pushes_0_ok (89, .iaload, 1) (List.mem_of_getElem? (i := 47) rfl), rfl⟩
theorem pX9_pushes_90 : At cX9_pushes 90 (.invokevirtual 151) 3 93 := ⟨tX9_pushes_0_ok (90, .invokevirtual 151, 3) (List.mem_of_getElem? (i := 48) rfl), rfl⟩
theorem pX9_pushes_93 : At cX9_pushes 93 (.iinc 4 1) 3 96 := ⟨tX9_pushes_0_ok (93, .iinc 4 1, 3) (List.mem_of_getElem? (i := 49) rfl), rfl⟩
theorem pX9_pushes_96 : Bt cX9_pushes 96 (.goto (-45)) (-45) 51 99 := ⟨tX9_pushes_0_ok (96, .goto (-45), 3) (List.mem_of_getElem? (i := 50) rfl), by decide, rfl⟩
theorem pX9_pushes_99 : At cX9_pushes 99 (.iload_n 3) 1 100 := ⟨tX9_pushes_0_ok (99, .iload_n 3, 1) (List.mem_of_getElem? (i := 51) rfl), rfl⟩
theorem pX9_pushes_100 : At cX9_pushes 100 (.ireturn) 1 101 := ⟨tX9_pushes_0_ok (100, .ireturn, 1) (List.mem_of_getElem? (i := 52) rfl), rfl⟩
def tX9_judge_0 : List (Nat × Instr × Nat) := [(0, .iload_n 1, 1), (1, .invokestatic 252, 3), (4, .ifCond .ne 9, 3), (7, .aload_n 0, 1), (8, .iconst 1, 1), (9, .invokevirtual 80, 3), (12, .ireturn, 1), (13, .aload_n 0, 1), (14, .getfield 64, 3), (17, .iload_n 1, 1), (18, .aaload, 1), (19, .astore_n 2, 1), (20, .aload_n 2, 1), (21, .invokevirtual 255, 3), (24, .ifCond .eq 9, 3), (27, .aload_n 0, 1), (28, .iconst 2, 1), (29, .invokevirtual 80, 3), (32, .ireturn, 1), (33, .aload_n 2, 1), (34, .getfield 286, 3), (37, .aload_n 0, 1), (38, .getfield 10, 3), (41, .getfield 84, 3), (44, .invokestatic 307, 3), (47, .istore_n 3, 1), (48, .iconst 0, 1), (49, .istore 4, 2), (51, .iload 4, 2), (53, .iload_n 3, 1), (54, .if_icmp .ge 35, 3), (57, .aload_n 2, 1), (58, .getfield 289, 3), (61, .iload 4, 2), (63, .iaload, 1), (64, .aload_n 0, 1), (65, .getfield 10, 3), (68, .getfield 88, 3), (71, .iload 4, 2), (73, .aaload, 1), (74, .getfield 114, 3), (77, .if_icmp .eq 6, 3), (80, .iload 4, 2), (82, .ireturn, 1), (83, .iinc 4 1, 3), (86, .goto (-35), 3), (89, .aload_n 2, 1), (90, .getfield 286, 3), (93, .aload_n 0, 1), (94, .getfield 10, 3), (97, .getfield 84, 3), (100, .if_icmp .ne 7, 3), (103, .iconst (-1), 1), (104, .goto 4, 3), (107, .iload_n 3, 1), (108, .ireturn, 1)]
theorem tX9_judge_0_ok : ∀ q ∈ tX9_judge_0, decode cX9_judge q.1 = .ok (q.2.1, q.2.2) := by decide +kernel
theorem pX9_judge_0 : At cX9_judge 0 (.iload_n 1) 1 1 := ⟨tX9_judge_0_ok (0, .iload_n 1, 1) (List.mem_of_getElem? (i := 0) rfl), rfl⟩
theorem pX9_judge_1 : At cX9_judge 1 (.invokestatic 252) 3 4 := ⟨tX9_judge_0_ok (1, .invokestatic 252, 3) (List.mem_of_getElem? (i := 1) rfl), rfl⟩
theorem pX9_judge_4 : Bt cX9_judge 4 (.ifCond .ne 9) 9 13 7 := ⟨tX9_judge_0_ok (4, .ifCond .ne 9, 3) (List.mem_of_getElem? (i := 2) rfl), by decide, rfl⟩
theorem pX9_judge_7 : At cX9_judge 7 (.aload_n 0) 1 8 := ⟨tX9_judge_0_ok (7, .aload_n 0, 1) (List.mem_of_getElem? (i := 3) rfl), rfl⟩
theorem pX9_judge_8 : At cX9_judge 8 (.iconst 1) 1 9 := ⟨tX9_judge_0_ok (8, .iconst 1, 1) (List.mem_of_getElem? (i := 4) rfl), rfl⟩
theorem pX9_judge_9 : At cX9_judge 9 (.invokevirtual 80) 3 12 := ⟨tX9_judge_0_ok (9, .invokevirtual 80, 3) (List.mem_of_getElem? (i := 5) rfl), rfl⟩
theorem pX9_judge_12 : At cX9_judge 12 (.ireturn) 1 13 := ⟨tX9_judge_0_ok (12, .ireturn, 1) (List.mem_of_getElem? (i := 6) rfl), rfl⟩
theorem pX9_judge_13 : At cX9_judge 13 (.aload_n 0) 1 14 := ⟨tX9_judge_0_ok (13, .aload_n 0, 1) (List.mem_of_getElem? (i := 7) rfl), rfl⟩
theorem pX9_judge_14 : At cX9_judge 14 (.getfield 64) 3 17 := ⟨tX9_judge_0_ok (14, .getfield 64, 3) (List.mem_of_getElem? (i := 8) rfl), rfl⟩
theorem pX9_judge_17 : At cX9_judge 17 (.iload_n 1) 1 18 := ⟨tX9_judge_0_ok (17, .iload_n 1, 1) (List.mem_of_getElem? (i := 9) rfl), rfl⟩
theorem pX9_judge_18 : At cX9_judge 18 (.aaload) 1 19 := ⟨tX9_judge_0_ok (18, .aaload, 1) (List.mem_of_getElem? (i := 10) rfl), rfl⟩
theorem pX9_judge_19 : At cX9_judge 19 (.astore_n 2) 1 20 := ⟨tX9_judge_0_ok (19, .astore_n 2, 1) (List.mem_of_getElem? (i := 11) rfl), rfl⟩
theorem pX9_judge_20 : At cX9_judge 20 (.aload_n 2) 1 21 := ⟨tX9_judge_0_ok (20, .aload_n 2, 1) (List.mem_of_getElem? (i := 12) rfl), rfl⟩
theorem pX9_judge_21 : At cX9_judge 21 (.invokevirtual 255) 3 24 := ⟨tX9_judge_0_ok (21, .invokevirtual 255, 3) (List.mem_of_getElem? (i := 13) rfl), rfl⟩
theorem pX9_judge_24 : Bt cX9_judge 24 (.ifCond .eq 9) 9 33 27 := ⟨tX9_judge_0_ok (24, .ifCond .eq 9, 3) (List.mem_of_getElem? (i := 14) rfl), by decide, rfl⟩
theorem pX9_judge_27 : At cX9_judge 27 (.aload_n 0) 1 28 := ⟨tX9_judge_0_ok (27, .aload_n 0, 1) (List.mem_of_getElem? (i := 15) rfl), rfl⟩
theorem pX9_judge_28 : At cX9_judge 28 (.iconst 2) 1 29 := ⟨tX9_judge_0_ok (28, .iconst 2, 1) (List.mem_of_getElem? (i := 16) rfl), rfl⟩
theorem pX9_judge_29 : At cX9_judge 29 (.invokevirtual 80) 3 32 := ⟨tX9_judge_0_ok (29, .invokevirtual 80, 3) (List.mem_of_getElem? (i := 17) rfl), rfl⟩
theorem pX9_judge_32 : At cX9_judge 32 (.ireturn) 1 33 := ⟨tX9_judge_0_ok (32, .ireturn, 1) (List.mem_of_getElem? (i := 18) rfl), rfl⟩
theorem pX9_judge_33 : At cX9_judge 33 (.aload_n 2) 1 34 := ⟨tX9_judge_0_ok (33, .aload_n 2, 1) (List.mem_of_getElem? (i := 19) rfl), rfl⟩
theorem pX9_judge_34 : At cX9_judge 34 (.getfield 286) 3 37 := ⟨tX9_judge_0_ok (34, .getfield 286, 3) (List.mem_of_getElem? (i := 20) rfl), rfl⟩
theorem pX9_judge_37 : At cX9_judge 37 (.aload_n 0) 1 38 := ⟨tX9_judge_0_ok (37, .aload_n 0, 1) (List.mem_of_getElem? (i := 21) rfl), rfl⟩
theorem pX9_judge_38 : At cX9_judge 38 (.getfield 10) 3 41 := ⟨tX9_judge_0_ok (38, .getfield 10, 3) (List.mem_of_getElem? (i := 22) rfl), rfl⟩
theorem pX9_judge_41 : At cX9_judge 41 (.getfield 84) 3 44 := ⟨tX9_judge_0_ok (41, .getfield 84, 3) (List.mem_of_getElem? (i := 23) rfl), rfl⟩
theorem pX9_judge_44 : At cX9_judge 44 (.invokestatic 307) 3 47 := ⟨tX9_judge_0_ok (44, .invokestatic 307, 3) (List.mem_of_getElem? (i := 24) rfl), rfl⟩
theorem pX9_judge_47 : At cX9_judge 47 (.istore_n 3) 1 48 := ⟨tX9_judge_0_ok (47, .istore_n 3, 1) (List.mem_of_getElem? (i := 25) rfl), rfl⟩
theorem pX9_judge_48 : At cX9_judge 48 (.iconst 0) 1 49 := ⟨tX9_judge_0_ok (48, .iconst 0, 1) (List.mem_of_getElem? (i := 26) rfl), rfl⟩
theorem pX9_judge_49 : At cX9_judge 49 (.istore 4) 2 51 := ⟨tX9_judge_0_ok (49, .istore 4, 2) (List.mem_of_getElem? (i := 27) rfl), rfl⟩
theorem pX9_judge_51 : At cX9_judge 51 (.iload 4) 2 53 := ⟨tX9_judge_0_ok (51, .iload 4, 2) (List.mem_of_getElem? (i := 28) rfl), rfl⟩
theorem pX9_judge_53 : At cX9_judge 53 (.iload_n 3) 1 54 := ⟨tX9_judge_0_ok (53, .iload_n 3, 1) (List.mem_of_getElem? (i := 29) rfl), rfl⟩
theorem pX9_judge_54 : Bt cX9_judge 54 (.if_icmp .ge 35) 35 89 57 := ⟨tX9_judge_0_ok (54, .if_icmp .ge 35, 3) (List.mem_of_getElem? (i := 30) rfl), by decide, rfl⟩
theorem pX9_judge_57 : At cX9_judge 57 (.aload_n 2) 1 58 := ⟨tX9_judge_0_ok (57, .aload_n 2, 1) (List.mem_of_getElem? (i := 31) rfl), rfl⟩
theorem pX9_judge_58 : At cX9_judge 58 (.getfield 289) 3 61 := ⟨tX9_judge_0_ok (58, .getfield 289, 3) (List.mem_of_getElem? (i := 32) rfl), rfl⟩
theorem pX9_judge_61 : At cX9_judge 61 (.iload 4) 2 63 := ⟨tX9_judge_0_ok (61, .iload 4, 2) (List.mem_of_getElem? (i := 33) rfl), rfl⟩
theorem pX9_judge_63 : At cX9_judge 63 (.iaload) 1 64 := ⟨tX9_judge_0_ok (63, .iaload, 1) (List.mem_of_getElem? (i := 34) rfl), rfl⟩
theorem pX9_judge_64 : At cX9_judge 64 (.aload_n 0) 1 65 := ⟨tX9_judge_0_ok (64, .aload_n 0, 1) (List.mem_of_getElem? (i := 35) rfl), rfl⟩
theorem pX9_judge_65 : At cX9_judge 65 (.getfield 10) 3 68 := ⟨tX9_judge_0_ok (65, .getfield 10, 3) (List.mem_of_getElem? (i := 36) rfl), rfl⟩
theorem pX9_judge_68 : At cX9_judge 68 (.getfield 88) 3 71 := ⟨tX9_judge_0_ok (68, .getfield 88, 3) (List.mem_of_getElem? (i := 37) rfl), rfl⟩
theorem pX9_judge_71 : At cX9_judge 71 (.iload 4) 2 73 := ⟨tX9_judge_0_ok (71, .iload 4, 2) (List.mem_of_getElem? (i := 38) rfl), rfl⟩
theorem pX9_judge_73 : At cX9_judge 73 (.aaload) 1 74 := ⟨tX9_judge_0_ok (73, .aaload, 1) (List.mem_of_getElem? (i := 39) rfl), rfl⟩
theorem pX9_judge_74 : At cX9_judge 74 (.getfield 114) 3 77 := ⟨tX9_judge_0_ok (74, .getfield 114, 3) (List.mem_of_getElem? (i := 40) rfl), rfl⟩
theorem pX9_judge_77 : Bt cX9_judge 77 (.if_icmp .eq 6) 6 83 80 := ⟨tX9_judge_0_ok (77, .if_icmp .eq 6, 3) (List.mem_of_getElem? (i := 41) rfl), by decide, rfl⟩
theorem pX9_judge_80 : At cX9_judge 80 (.iload 4) 2 82 := ⟨tX9_judge_0_ok (80, .iload 4, 2) (List.mem_of_getElem? (i := 42) rfl), rfl⟩
theorem pX9_judge_82 : At cX9_judge 82 (.ireturn) 1 83 := ⟨tX9_judge_0_ok (82, .ireturn, 1) (List.mem_of_getElem? (i := 43) rfl), rfl⟩
theorem pX9_judge_83 : At cX9_judge 83 (.iinc 4 1) 3 86 := ⟨tX9_judge_0_ok (83, .iinc 4 1, 3) (List.mem_of_getElem? (i := 44) rfl), rfl⟩
theorem pX9_judge_86 : Bt cX9_judge 86 (.goto (-35)) (-35) 51 89 := ⟨tX9_judge_0_ok (86, .goto (-35), 3) (List.mem_of_getElem? (i := 45) rfl), by decide, rfl⟩
theorem pX9_judge_89 : At cX9_judge 89 (.aload_n 2) 1 90 := ⟨tX9_judge_0_ok (89, .aload_n 2, 1) (List.mem_of_getElem? (i := 46) rfl), rfl⟩
theorem pX9_judge_90 : At cX9_judge 90 (.getfield 286) 3 93 := ⟨tX9_judge_0_ok (90, .getfield 286, 3) (List.mem_of_getElem? (i := 47) rfl), rfl⟩
theorem pX9_judge_93 : At cX9_judge 93 (.aload_n 0) 1 94 := ⟨tX9_judge_0_ok (93, .aload_n 0, 1) (List.mem_of_getElem? (i := 48) rfl), rfl⟩
theorem pX9_judge_94 : At cX9_judge 94 (.getfield 10) 3 97 := ⟨tX9_judge_0_ok (94, .getfield 10, 3) (List.mem_of_getElem? (i := 49) rfl), rfl⟩
theorem pX9_judge_97 : At cX9_judge 97 (.getfield 84) 3 100 := ⟨tX9_judge_0_ok (97, .getfield 84, 3) (List.mem_of_getElem? (i := 50) rfl), rfl⟩
theorem pX9_judge_100 : Bt cX9_judge 100 (.if_icmp .ne 7) 7 107 103 := ⟨tX9_judge_0_ok (100, .if_icmp .ne 7, 3) (List.mem_of_getElem? (i := 51) rfl), by decide, rfl⟩
theorem pX9_judge_103 : At cX9_judge 103 (.iconst (-1)) 1 104 := ⟨tX9_judge_0_ok (103, .iconst (-1), 1) (List.mem_of_getElem? (i := 52) rfl), rfl⟩
theorem pX9_judge_104 : Bt cX9_judge 104 (.goto 4) 4 108 107 := ⟨tX9_judge_0_ok (104, .goto 4, 3) (List.mem_of_getElem? (i := 53) rfl), by decide, rfl⟩
theorem pX9_judge_107 : At cX9_judge 107 (.iload_n 3) 1 108 := ⟨tX9_judge_0_ok (107, .iload_n 3, 1) (List.mem_of_getElem? (i := 54) rfl), rfl⟩
theorem pX9_judge_108 : At cX9_judge 108 (.ireturn) 1 109 := ⟨tX9_judge_0_ok (108, .ireturn, 1) (List.mem_of_getElem? (i := 55) rfl), rfl⟩
def tX9_image_0 : List (Nat × Instr × Nat) := [(0, .aload_n 0, 1), (1, .getfield 23, 3), (4, .aload_n 0, 1), (5, .getfield 10, 3), (8, .invokevirtual 216, 3), (11, .aload_n 0, 1), (12, .getfield 26, 3), (15, .aload_n 0, 1), (16, .getfield 19, 3), (19, .invokevirtual 313, 3), (22, .aload_n 0, 1), (23, .dup, 1), (24, .getfield 315, 3), (27, .iconst 1, 1), (28, .iadd, 1), (29, .putfield 315, 3), (32, .aload_n 0, 1), (33, .getfield 315, 3), (36, .ireturn, 1)]
theorem tX9_image_0_ok : ∀ q ∈ tX9_image_0, decode cX9_image q.1 = .ok (q.2.1, q.2.2) := by decide +kernel
theorem pX9_image_0 : At cX9_image 0 (.aload_n 0) 1 1 := ⟨tX9_image_0_ok (0, .aload_n 0, 1) (List.mem_of_getElem? (i := 0) rfl), rfl⟩
theorem pX9_image_1 : At cX9_image 1 (.getfield 23) 3 4 := ⟨tX9_image_0_ok (1, .getfield 23, 3) (List.mem_of_getElem? (i := 1) rfl), rfl⟩
theorem pX9_image_4 : At cX9_image 4 (.aload_n 0) 1 5 := ⟨tX9_image_0_ok (4, .aload_n 0, 1) (List.mem_of_getElem? (i := 2) rfl), rfl⟩
theorem pX9_image_5 : At cX9_image 5 (.getfield 10) 3 8 := ⟨tX9_image_0_ok (5, .getfield 10, 3) (List.mem_of_getElem? (i := 3) rfl), rfl⟩
theorem pX9_image_8 : At cX9_image 8 (.invokevirtual 216) 3 11 := ⟨tX9_image_0_ok (8, .invokevirtual 216, 3) (List.mem_of_getElem? (i := 4) rfl), rfl⟩
theorem pX9_image_11 : At cX9_image 11 (.aload_n 0) 1 12 := ⟨tX9_image_0_ok (11, .aload_n 0, 1) (List.mem_of_getElem? (i := 5) rfl), rfl⟩
theorem pX9_image_12 : At cX9_image 12 (.getfield 26) 3 15 := ⟨tX9_image_0_ok (12, .getfield 26, 3) (List.mem_of_getElem? (i := 6) rfl), rfl⟩
theorem pX9_image_15 : At cX9_image 15 (.aload_n 0) 1 16 := ⟨tX9_image_0_ok (15, .aload_n 0, 1) (List.mem_of_getElem? (i := 7) rfl), rfl⟩
theorem pX9_image_16 : At cX9_image 16 (.getfield 19) 3 19 := ⟨tX9_image_0_ok (16, .getfield 19, 3) (List.mem_of_getElem? (i := 8) rfl), rfl⟩
theorem pX9_image_19 : At cX9_image 19 (.invokevirtual 313) 3 22 := ⟨tX9_image_0_ok (19, .invokevirtual 313, 3) (List.mem_of_getElem? (i := 9) rfl), rfl⟩
theorem pX9_image_22 : At cX9_image 22 (.aload_n 0) 1 23 := ⟨tX9_image_0_ok (22, .aload_n 0, 1) (List.mem_of_getElem? (i := 10) rfl), rfl⟩
theorem pX9_image_23 : At cX9_image 23 (.dup) 1 24 := ⟨tX9_image_0_ok (23, .dup, 1) (List.mem_of_getElem? (i := 11) rfl), rfl⟩
theorem pX9_image_24 : At cX9_image 24 (.getfield 315) 3 27 := ⟨tX9_image_0_ok (24, .getfield 315, 3) (List.mem_of_getElem? (i := 12) rfl), rfl⟩
theorem pX9_image_27 : At cX9_image 27 (.iconst 1) 1 28 := ⟨tX9_image_0_ok (27, .iconst 1, 1) (List.mem_of_getElem? (i := 13) rfl), rfl⟩
theorem pX9_image_28 : At cX9_image 28 (.iadd) 1 29 := ⟨tX9_image_0_ok (28, .iadd, 1) (List.mem_of_getElem? (i := 14) rfl), rfl⟩
theorem pX9_image_29 : At cX9_image 29 (.putfield 315) 3 32 := ⟨tX9_image_0_ok (29, .putfield 315, 3) (List.mem_of_getElem? (i := 15) rfl), rfl⟩
theorem pX9_image_32 : At cX9_image 32 (.aload_n 0) 1 33 := ⟨tX9_image_0_ok (32, .aload_n 0, 1) (List.mem_of_getElem? (i := 16) rfl), rfl⟩
theorem pX9_image_33 : At cX9_image 33 (.getfield 315) 3 36 := ⟨tX9_image_0_ok (33, .getfield 315, 3) (List.mem_of_getElem? (i := 17) rfl), rfl⟩
theorem pX9_image_36 : At cX9_image 36 (.ireturn) 1 37 := ⟨tX9_image_0_ok (36, .ireturn, 1) (List.mem_of_getElem? (i := 18) rfl), rfl⟩
def tX9_restore_0 : List (Nat × Instr × Nat) := [(0, .aload_n 0, 1), (1, .getfield 315, 3), (4, .ifCond .ne 9, 3), (7, .aload_n 0, 1), (8, .iconst 2, 1), (9, .invokevirtual 80, 3), (12, .ireturn, 1), (13, .aload_n 0, 1), (14, .getfield 10, 3), (17, .aload_n 0, 1), (18, .getfield 23, 3), (21, .invokevirtual 216, 3), (24, .aload_n 0, 1), (25, .getfield 19, 3), (28, .aload_n 0, 1), (29, .getfield 26, 3), (32, .invokevirtual 313, 3), (35, .aload_n 0, 1), (36, .getfield 10, 3), (39, .getfield 166, 3), (42, .ireturn, 1)]
theorem tX9_restore_0_ok : ∀ q ∈ tX9_restore_0, decode cX9_restore q.1 = .ok (q.2.1, q.2.2) := by decide +kernel
theorem pX9_restore_0 : At cX9_restore 0 (.aload_n 0) 1 1 := ⟨tX9_restore_0_ok (0, .aload_n 0, 1) (List.mem_of_getElem? (i := 0) rfl), rfl⟩
theorem pX9_restore_1 : At cX9_restore 1 (.getfield 315) 3 4 := ⟨tX9_restore_0_ok (1, .getfield 315, 3) (List.mem_of_getElem? (i := 1) rfl), rfl⟩
theorem pX9_restore_4 : Bt cX9_restore 4 (.ifCond .ne 9) 9 13 7 := ⟨tX9_restore_0_ok (4, .ifCond .ne 9, 3) (List.mem_of_getElem? (i := 2) rfl), by decide, rfl⟩
theorem pX9_restore_7 : At cX9_restore 7 (.aload_n 0) 1 8 := ⟨tX9_restore_0_ok (7, .aload_n 0, 1) (List.mem_of_getElem? (i := 3) rfl), rfl⟩
theorem pX9_restore_8 : At cX9_restore 8 (.iconst 2) 1 9 := ⟨tX9_restore_0_ok (8, .iconst 2, 1) (List.mem_of_getElem? (i := 4) rfl), rfl⟩
theorem pX9_restore_9 : At cX9_restore 9 (.invokevirtual 80) 3 12 := ⟨tX9_restore_0_ok (9, .invokevirtual 80, 3) (List.mem_of_getElem? (i := 5) rfl), rfl⟩
theorem pX9_restore_12 : At cX9_restore 12 (.ireturn) 1 13 := ⟨tX9_restore_0_ok (12, .ireturn, 1) (List.mem_of_getElem? (i := 6) rfl), rfl⟩
theorem pX9_restore_13 : At cX9_restore 13 (.aload_n 0) 1 14 := ⟨tX9_restore_0_ok (13, .aload_n 0, 1) (List.mem_of_getElem? (i := 7) rfl), rfl⟩
theorem pX9_restore_14 : At cX9_restore 14 (.getfield 10) 3 17 := ⟨tX9_restore_0_ok (14, .getfield 10, 3) (List.mem_of_getElem? (i := 8) rfl), rfl⟩
theorem pX9_restore_17 : At cX9_restore 17 (.aload_n 0) 1 18 := ⟨tX9_restore_0_ok (17, .aload_n 0, 1) (List.mem_of_getElem? (i := 9) rfl), rfl⟩
theorem pX9_restore_18 : At cX9_restore 18 (.getfield 23) 3 21 := ⟨tX9_restore_0_ok (18, .getfield 23, 3) (List.mem_of_getElem? (i := 10) rfl), rfl⟩
theorem pX9_restore_21 : At cX9_restore 21 (.invokevirtual 216) 3 24 := ⟨tX9_restore_0_ok (21, .invokevirtual 216, 3) (List.mem_of_getElem? (i := 11) rfl), rfl⟩
theorem pX9_restore_24 : At cX9_restore 24 (.aload_n 0) 1 25 := ⟨tX9_restore_0_ok (24, .aload_n 0, 1) (List.mem_of_getElem? (i := 12) rfl), rfl⟩
theorem pX9_restore_25 : At cX9_restore 25 (.getfield 19) 3 28 := ⟨tX9_restore_0_ok (25, .getfield 19, 3) (List.mem_of_getElem? (i := 13) rfl), rfl⟩
theorem pX9_restore_28 : At cX9_restore 28 (.aload_n 0) 1 29 := ⟨tX9_restore_0_ok (28, .aload_n 0, 1) (List.mem_of_getElem? (i := 14) rfl), rfl⟩
theorem pX9_restore_29 : At cX9_restore 29 (.getfield 26) 3 32 := ⟨tX9_restore_0_ok (29, .getfield 26, 3) (List.mem_of_getElem? (i := 15) rfl), rfl⟩
theorem pX9_restore_32 : At cX9_restore 32 (.invokevirtual 313) 3 35 := ⟨tX9_restore_0_ok (32, .invokevirtual 313, 3) (List.mem_of_getElem? (i := 16) rfl), rfl⟩
theorem pX9_restore_35 : At cX9_restore 35 (.aload_n 0) 1 36 := ⟨tX9_restore_0_ok (35, .aload_n 0, 1) (List.mem_of_getElem? (i := 17) rfl), rfl⟩
theorem pX9_restore_36 : At cX9_restore 36 (.getfield 10) 3 39 := ⟨tX9_restore_0_ok (36, .getfield 10, 3) (List.mem_of_getElem? (i := 18) rfl), rfl⟩
theorem pX9_restore_39 : At cX9_restore 39 (.getfield 166) 3 42 := ⟨tX9_restore_0_ok (39, .getfield 166, 3) (List.mem_of_getElem? (i := 19) rfl), rfl⟩
theorem pX9_restore_42 : At cX9_restore 42 (.ireturn) 1 43 := ⟨tX9_restore_0_ok (42, .ireturn, 1) (List.mem_of_getElem? (i := 20) rfl), rfl⟩
def tX9_tell_0 : List (Nat × Instr × Nat) := [(0, .aload_n 0, 1), (1, .getfield 19, 3), (4, .getfield 318, 3), (7, .bipush 20, 2), (9, .if_icmp .lt 9, 3), (12, .aload_n 0, 1), (13, .iconst 4, 1), (14, .invokevirtual 80, 3), (17, .ireturn, 1), (18, .aload_n 0, 1), (19, .getfield 19, 3), (22, .getfield 321, 3), (25, .aload_n 0, 1), (26, .getfield 19, 3), (29, .getfield 318, 3), (32, .iload_n 1, 1), (33, .iastore, 1), (34, .aload_n 0, 1), (35, .getfield 19, 3), (38, .dup, 1), (39, .getfield 318, 3), (42, .iconst 1, 1), (43, .iadd, 1), (44, .putfield 318, 3), (47, .aload_n 0, 1), (48, .getfield 19, 3), (51, .getfield 318, 3), (54, .ireturn, 1)]
theorem tX9_tell_0_ok : ∀ q ∈ tX9_tell_0, decode cX9_tell q.1 = .ok (q.2.1, q.2.2) := by decide +kernel
theorem pX9_tell_0 : At cX9_tell 0 (.aload_n 0) 1 1 := ⟨tX9_tell_0_ok (0, .aload_n 0, 1) (List.mem_of_getElem? (i := 0) rfl), rfl⟩
theorem pX9_tell_1 : At cX9_tell 1 (.getfield 19) 3 4 := ⟨tX9_tell_0_ok (1, .getfield 19, 3) (List.mem_of_getElem? (i := 1) rfl), rfl⟩
theorem pX9_tell_4 : At cX9_tell 4 (.getfield 318) 3 7 := ⟨tX9_tell_0_ok (4, .getfield 318, 3) (List.mem_of_getElem? (i := 2) rfl), rfl⟩
theorem pX9_tell_7 : At cX9_tell 7 (.bipush 20) 2 9 := ⟨tX9_tell_0_ok (7, .bipush 20, 2) (List.mem_of_getElem? (i := 3) rfl), rfl⟩
theorem pX9_tell_9 : Bt cX9_tell 9 (.if_icmp .lt 9) 9 18 12 := ⟨tX9_tell_0_ok (9, .if_icmp .lt 9, 3) (List.mem_of_getElem? (i := 4) rfl), by decide, rfl⟩
theorem pX9_tell_12 : At cX9_tell 12 (.aload_n 0) 1 13 := ⟨tX9_tell_0_ok (12, .aload_n 0, 1) (List.mem_of_getElem? (i := 5) rfl), rfl⟩
theorem pX9_tell_13 : At cX9_tell 13 (.iconst 4) 1 14 := ⟨tX9_tell_0_ok (13, .iconst 4, 1) (List.mem_of_getElem? (i := 6) rfl), rfl⟩
theorem pX9_tell_14 : At cX9_tell 14 (.invokevirtual 80) 3 17 := ⟨tX9_tell_0_ok (14, .invokevirtual 80, 3) (List.mem_of_getElem? (i := 7) rfl), rfl⟩
theorem pX9_tell_17 : At cX9_tell 17 (.ireturn) 1 18 := ⟨tX9_tell_0_ok (17, .ireturn, 1) (List.mem_of_getElem? (i := 8) rfl), rfl⟩
theorem pX9_tell_18 : At cX9_tell 18 (.aload_n 0) 1 19 := ⟨tX9_tell_0_ok (18, .aload_n 0, 1) (List.mem_of_getElem? (i := 9) rfl), rfl⟩
theorem pX9_tell_19 : At cX9_tell 19 (.getfield 19) 3 22 := ⟨tX9_tell_0_ok (19, .getfield 19, 3) (List.mem_of_getElem? (i := 10) rfl), rfl⟩
theorem pX9_tell_22 : At cX9_tell 22 (.getfield 321) 3 25 := ⟨tX9_tell_0_ok (22, .getfield 321, 3) (List.mem_of_getElem? (i := 11) rfl), rfl⟩
theorem pX9_tell_25 : At cX9_tell 25 (.aload_n 0) 1 26 := ⟨tX9_tell_0_ok (25, .aload_n 0, 1) (List.mem_of_getElem? (i := 12) rfl), rfl⟩
theorem pX9_tell_26 : At cX9_tell 26 (.getfield 19) 3 29 := ⟨tX9_tell_0_ok (26, .getfield 19, 3) (List.mem_of_getElem? (i := 13) rfl), rfl⟩
theorem pX9_tell_29 : At cX9_tell 29 (.getfield 318) 3 32 := ⟨tX9_tell_0_ok (29, .getfield 318, 3) (List.mem_of_getElem? (i := 14) rfl), rfl⟩
theorem pX9_tell_32 : At cX9_tell 32 (.iload_n 1) 1 33 := ⟨tX9_tell_0_ok (32, .iload_n 1, 1) (List.mem_of_getElem? (i := 15) rfl), rfl⟩
theorem pX9_tell_33 : At cX9_tell 33 (.iastore) 1 34 := ⟨tX9_tell_0_ok (33, .iastore, 1) (List.mem_of_getElem? (i := 16) rfl), rfl⟩
theorem pX9_tell_34 : At cX9_tell 34 (.aload_n 0) 1 35 := ⟨tX9_tell_0_ok (34, .aload_n 0, 1) (List.mem_of_getElem? (i := 17) rfl), rfl⟩
theorem pX9_tell_35 : At cX9_tell 35 (.getfield 19) 3 38 := ⟨tX9_tell_0_ok (35, .getfield 19, 3) (List.mem_of_getElem? (i := 18) rfl), rfl⟩
theorem pX9_tell_38 : At cX9_tell 38 (.dup) 1 39 := ⟨tX9_tell_0_ok (38, .dup, 1) (List.mem_of_getElem? (i := 19) rfl), rfl⟩
theorem pX9_tell_39 : At cX9_tell 39 (.getfield 318) 3 42 := ⟨tX9_tell_0_ok (39, .getfield 318, 3) (List.mem_of_getElem? (i := 20) rfl), rfl⟩
theorem pX9_tell_42 : At cX9_tell 42 (.iconst 1) 1 43 := ⟨tX9_tell_0_ok (42, .iconst 1, 1) (List.mem_of_getElem? (i := 21) rfl), rfl⟩
theorem pX9_tell_43 : At cX9_tell 43 (.iadd) 1 44 := ⟨tX9_tell_0_ok (43, .iadd, 1) (List.mem_of_getElem? (i := 22) rfl), rfl⟩
theorem pX9_tell_44 : At cX9_tell 44 (.putfield 318) 3 47 := ⟨tX9_tell_0_ok (44, .putfield 318, 3) (List.mem_of_getElem? (i := 23) rfl), rfl⟩
theorem pX9_tell_47 : At cX9_tell 47 (.aload_n 0) 1 48 := ⟨tX9_tell_0_ok (47, .aload_n 0, 1) (List.mem_of_getElem? (i := 24) rfl), rfl⟩
theorem pX9_tell_48 : At cX9_tell 48 (.getfield 19) 3 51 := ⟨tX9_tell_0_ok (48, .getfield 19, 3) (List.mem_of_getElem? (i := 25) rfl), rfl⟩
theorem pX9_tell_51 : At cX9_tell 51 (.getfield 318) 3 54 := ⟨tX9_tell_0_ok (51, .getfield 318, 3) (List.mem_of_getElem? (i := 26) rfl), rfl⟩
theorem pX9_tell_54 : At cX9_tell 54 (.ireturn) 1 55 := ⟨tX9_tell_0_ok (54, .ireturn, 1) (List.mem_of_getElem? (i := 27) rfl), rfl⟩
def tX9_check_0 : List (Nat × Instr × Nat) := [(0, .aload_n 0, 1), (1, .getfield 19, 3), (4, .getfield 318, 3), (7, .istore_n 1, 1), (8, .aload_n 0, 1), (9, .getfield 19, 3), (12, .iconst 0, 1), (13, .putfield 318, 3), (16, .aload_n 0, 1), (17, .getfield 29, 3), (20, .aload_n 0, 1), (21, .getfield 10, 3), (24, .invokevirtual 216, 3), (27, .iconst 0, 1), (28, .istore_n 2, 1), (29, .iload_n 2, 1), (30, .iload_n 1, 1), (31, .if_icmp .ge 43, 3), (34, .aload_n 0, 1), (35, .getfield 29, 3), (38, .aload_n 0, 1), (39, .getfield 19, 3), (42, .invokevirtual 207, 3), (45, .aload_n 0, 1), (46, .getfield 29, 3), (49, .invokevirtual 324, 3), (52, .aload_n 0, 1), (53, .getfield 19, 3), (56, .getfield 321, 3), (59, .iload_n 2, 1), (60, .iaload, 1), (61, .if_icmp .eq 7, 3), (64, .iconst 1, 1), (65, .iload_n 2, 1), (66, .iadd, 1), (67, .ireturn, 1), (68, .iinc 2 1, 3), (71, .goto (-42), 3), (74, .iconst 0, 1), (75, .ireturn, 1)]
theorem tX9_check_0_ok : ∀ q ∈ tX9_check_0, decode cX9_check q.1 = .ok (q.2.1, q.2.2) := by decide +kernel
theorem pX9_check_0 : At cX9_check 0 (.aload_n 0) 1 1 := ⟨tX9_check_0_ok (0, .aload_n 0, 1) (List.mem_of_getElem? (i := 0) rfl), rfl⟩
theorem pX9_check_1 : At cX9_check 1 (.getfield 19) 3 4 := ⟨tX9_check_0_ok (1, .getfield 19, 3) (List.mem_of_getElem? (i := 1) rfl), rfl⟩
theorem pX9_check_4 : At cX9_check 4 (.getfield 318) 3 7 := ⟨tX9_check_0_ok (4, .getfield 318, 3) (List.mem_of_getElem? (i := 2) rfl), rfl⟩
theorem pX9_check_7 : At cX9_check 7 (.istore_n 1) 1 8 := ⟨tX9_check_0_ok (7, .istore_n 1, 1) (List.mem_of_getElem? (i := 3) rfl), rfl⟩
theorem pX9_check_8 : At cX9_check 8 (.aload_n 0) 1 9 := ⟨tX9_check_0_ok (8, .aload_n 0, 1) (List.mem_of_getElem? (i := 4) rfl), rfl⟩
theorem pX9_check_9 : At cX9_check 9 (.getfield 19) 3 12 := ⟨tX9_check_0_ok (9, .getfield 19, 3) (List.mem_of_getElem? (i := 5) rfl), rfl⟩
theorem pX9_check_12 : At cX9_check 12 (.iconst 0) 1 13 := ⟨tX9_check_0_ok (12, .iconst 0, 1) (List.mem_of_getElem? (i := 6) rfl), rfl⟩
theorem pX9_check_13 : At cX9_check 13 (.putfield 318) 3 16 := ⟨tX9_check_0_ok (13, .putfield 318, 3) (List.mem_of_getElem? (i := 7) rfl), rfl⟩
theorem pX9_check_16 : At cX9_check 16 (.aload_n 0) 1 17 := ⟨tX9_check_0_ok (16, .aload_n 0, 1) (List.mem_of_getElem? (i := 8) rfl), rfl⟩
theorem pX9_check_17 : At cX9_check 17 (.getfield 29) 3 20 := ⟨tX9_check_0_ok (17, .getfield 29, 3) (List.mem_of_getElem? (i := 9) rfl), rfl⟩
theorem pX9_check_20 : At cX9_check 20 (.aload_n 0) 1 21 := ⟨tX9_check_0_ok (20, .aload_n 0, 1) (List.mem_of_getElem? (i := 10) rfl), rfl⟩
theorem pX9_check_21 : At cX9_check 21 (.getfield 10) 3 24 := ⟨tX9_check_0_ok (21, .getfield 10, 3) (List.mem_of_getElem? (i := 11) rfl), rfl⟩
theorem pX9_check_24 : At cX9_check 24 (.invokevirtual 216) 3 27 := ⟨tX9_check_0_ok (24, .invokevirtual 216, 3) (List.mem_of_getElem? (i := 12) rfl), rfl⟩
theorem pX9_check_27 : At cX9_check 27 (.iconst 0) 1 28 := ⟨tX9_check_0_ok (27, .iconst 0, 1) (List.mem_of_getElem? (i := 13) rfl), rfl⟩
theorem pX9_check_28 : At cX9_check 28 (.istore_n 2) 1 29 := ⟨tX9_check_0_ok (28, .istore_n 2, 1) (List.mem_of_getElem? (i := 14) rfl), rfl⟩
theorem pX9_check_29 : At cX9_check 29 (.iload_n 2) 1 30 := ⟨tX9_check_0_ok (29, .iload_n 2, 1) (List.mem_of_getElem? (i := 15) rfl), rfl⟩
theorem pX9_check_30 : At cX9_check 30 (.iload_n 1) 1 31 := ⟨tX9_check_0_ok (30, .iload_n 1, 1) (List.mem_of_getElem? (i := 16) rfl), rfl⟩
theorem pX9_check_31 : Bt cX9_check 31 (.if_icmp .ge 43) 43 74 34 := ⟨tX9_check_0_ok (31, .if_icmp .ge 43, 3) (List.mem_of_getElem? (i := 17) rfl), by decide, rfl⟩
theorem pX9_check_34 : At cX9_check 34 (.aload_n 0) 1 35 := ⟨tX9_check_0_ok (34, .aload_n 0, 1) (List.mem_of_getElem? (i := 18) rfl), rfl⟩
theorem pX9_check_35 : At cX9_check 35 (.getfield 29) 3 38 := ⟨tX9_check_0_ok (35, .getfield 29, 3) (List.mem_of_getElem? (i := 19) rfl), rfl⟩
theorem pX9_check_38 : At cX9_check 38 (.aload_n 0) 1 39 := ⟨tX9_check_0_ok (38, .aload_n 0, 1) (List.mem_of_getElem? (i := 20) rfl), rfl⟩
theorem pX9_check_39 : At cX9_check 39 (.getfield 19) 3 42 := ⟨tX9_check_0_ok (39, .getfield 19, 3) (List.mem_of_getElem? (i := 21) rfl), rfl⟩
theorem pX9_check_42 : At cX9_check 42 (.invokevirtual 207) 3 45 := ⟨tX9_check_0_ok (42, .invokevirtual 207, 3) (List.mem_of_getElem? (i := 22) rfl), rfl⟩
theorem pX9_check_45 : At cX9_check 45 (.aload_n 0) 1 46 := ⟨tX9_check_0_ok (45, .aload_n 0, 1) (List.mem_of_getElem? (i := 23) rfl), rfl⟩
theorem pX9_check_46 : At cX9_check 46 (.getfield 29) 3 49 := ⟨tX9_check_0_ok (46, .getfield 29, 3) (List.mem_of_getElem? (i := 24) rfl), rfl⟩
theorem pX9_check_49 : At cX9_check 49 (.invokevirtual 324) 3 52 := ⟨tX9_check_0_ok (49, .invokevirtual 324, 3) (List.mem_of_getElem? (i := 25) rfl), rfl⟩
theorem pX9_check_52 : At cX9_check 52 (.aload_n 0) 1 53 := ⟨tX9_check_0_ok (52, .aload_n 0, 1) (List.mem_of_getElem? (i := 26) rfl), rfl⟩
theorem pX9_check_53 : At cX9_check 53 (.getfield 19) 3 56 := ⟨tX9_check_0_ok (53, .getfield 19, 3) (List.mem_of_getElem? (i := 27) rfl), rfl⟩
theorem pX9_check_56 : At cX9_check 56 (.getfield 321) 3 59 := ⟨tX9_check_0_ok (56, .getfield 321, 3) (List.mem_of_getElem? (i := 28) rfl), rfl⟩
theorem pX9_check_59 : At cX9_check 59 (.iload_n 2) 1 60 := ⟨tX9_check_0_ok (59, .iload_n 2, 1) (List.mem_of_getElem? (i := 29) rfl), rfl⟩
theorem pX9_check_60 : At cX9_check 60 (.iaload) 1 61 := ⟨tX9_check_0_ok (60, .iaload, 1) (List.mem_of_getElem? (i := 30) rfl), rfl⟩
theorem pX9_check_61 : Bt cX9_check 61 (.if_icmp .eq 7) 7 68 64 := ⟨tX9_check_0_ok (61, .if_icmp .eq 7, 3) (List.mem_of_getElem? (i := 31) rfl), by decide, rfl⟩
theorem pX9_check_64 : At cX9_check 64 (.iconst 1) 1 65 := ⟨tX9_check_0_ok (64, .iconst 1, 1) (List.mem_of_getElem? (i := 32) rfl), rfl⟩
theorem pX9_check_65 : At cX9_check 65 (.iload_n 2) 1 66 := ⟨tX9_check_0_ok (65, .iload_n 2, 1) (List.mem_of_getElem? (i := 33) rfl), rfl⟩
theorem pX9_check_66 : At cX9_check 66 (.iadd) 1 67 := ⟨tX9_check_0_ok (66, .iadd, 1) (List.mem_of_getElem? (i := 34) rfl), rfl⟩
theorem pX9_check_67 : At cX9_check 67 (.ireturn) 1 68 := ⟨tX9_check_0_ok (67, .ireturn, 1) (List.mem_of_getElem? (i := 35) rfl), rfl⟩
theorem pX9_check_68 : At cX9_check 68 (.iinc 2 1) 3 71 := ⟨tX9_check_0_ok (68, .iinc 2 1, 3) (List.mem_of_getElem? (i := 36) rfl), rfl⟩
theorem pX9_check_71 : Bt cX9_check 71 (.goto (-42)) (-42) 29 74 := ⟨tX9_check_0_ok (71, .goto (-42), 3) (List.mem_of_getElem? (i := 37) rfl), by decide, rfl⟩
theorem pX9_check_74 : At cX9_check 74 (.iconst 0) 1 75 := ⟨tX9_check_0_ok (74, .iconst 0, 1) (List.mem_of_getElem? (i := 38) rfl), rfl⟩
theorem pX9_check_75 : At cX9_check 75 (.ireturn) 1 76 := ⟨tX9_check_0_ok (75, .ireturn, 1) (List.mem_of_getElem? (i := 39) rfl), rfl⟩
def tX9_count_0 : List (Nat × Instr × Nat) := [(0, .iload_n 1, 1), (1, .tableswitch 154 0 10 #[59, 67, 75, 83, 93, 105, 117, 122, 130, 138, 146], 59), (60, .aload_n 0, 1), (61, .getfield 10, 3), (64, .getfield 84, 3), (67, .ireturn, 1), (68, .aload_n 0, 1), (69, .getfield 10, 3), (72, .getfield 166, 3), (75, .ireturn, 1), (76, .aload_n 0, 1), (77, .getfield 10, 3), (80, .getfield 220, 3), (83, .ireturn, 1), (84, .aload_n 0, 1), (85, .getfield 10, 3), (88, .iconst 0, 1), (89, .iconst 0, 1), (90, .invokevirtual 327, 3), (93, .ireturn, 1), (94, .aload_n 0, 1), (95, .getfield 10, 3), (98, .bipush 40, 2), (100, .bipush 40, 2), (102, .invokevirtual 327, 3), (105, .ireturn, 1), (106, .aload_n 0, 1), (107, .getfield 10, 3), (110, .bipush 16, 2), (112, .bipush 24, 2), (114, .invokevirtual 327, 3), (117, .ireturn, 1), (118, .aload_n 0, 1), (119, .invokevirtual 210, 3), (122, .ireturn, 1), (123, .aload_n 0, 1), (124, .getfield 19, 3), (127, .getfield 173, 3), (130, .ireturn, 1), (131, .aload_n 0, 1), (132, .getfield 19, 3), (135, .getfield 318, 3), (138, .ireturn, 1), (139, .aload_n 0, 1), (140, .getfield 58, 3), (143, .getfield 276, 3), (146, .ireturn, 1), (147, .aload_n 0, 1), (148, .getfield 19, 3), (151, .getfield 270, 3), (154, .ireturn, 1), (155, .aload_n 0, 1), (156, .iconst 1, 1), (157, .invokevirtual 80, 3), (160, .ireturn, 1)]
theorem tX9_count_0_ok : ∀ q ∈ tX9_count_0, decode cX9_count q.1 = .ok (q.2.1, q.2.2) := by decide +kernel
theorem pX9_count_0 : At cX9_count 0 (.iload_n 1) 1 1 := ⟨tX9_count_0_ok (0, .iload_n 1, 1) (List.mem_of_getElem? (i := 0) rfl), rfl⟩
theorem pX9_count_1 : decode cX9_count 1 = .ok (.tableswitch 154 0 10 #[59, 67, 75, 83, 93, 105, 117, 122, 130, 138, 146], 59) := tX9_count_0_ok (1, .tableswitch 154 0 10 #[59, 67, 75, 83, 93, 105, 117, 122, 130, 138, 146], 59) (List.mem_of_getElem? (i := 1) rfl)
theorem pX9_count_60 : At cX9_count 60 (.aload_n 0) 1 61 := ⟨tX9_count_0_ok (60, .aload_n 0, 1) (List.mem_of_getElem? (i := 2) rfl), rfl⟩
theorem pX9_count_61 : At cX9_count 61 (.getfield 10) 3 64 := ⟨tX9_count_0_ok (61, .getfield 10, 3) (List.mem_of_getElem? (i := 3) rfl), rfl⟩
theorem pX9_count_64 : At cX9_count 64 (.getfield 84) 3 67 := ⟨tX9_count_0_ok (64, .getfield 84, 3) (List.mem_of_getElem? (i := 4) rfl), rfl⟩
theorem pX9_count_67 : At cX9_count 67 (.ireturn) 1 68 := ⟨tX9_count_0_ok (67, .ireturn, 1) (List.mem_of_getElem? (i := 5) rfl), rfl⟩
theorem pX9_count_68 : At cX9_count 68 (.aload_n 0) 1 69 := ⟨tX9_count_0_ok (68, .aload_n 0, 1) (List.mem_of_getElem? (i := 6) rfl), rfl⟩
theorem pX9_count_69 : At cX9_count 69 (.getfield 10) 3 72 := ⟨tX9_count_0_ok (69, .getfield 10, 3) (List.mem_of_getElem? (i := 7) rfl), rfl⟩
theorem pX9_count_72 : At cX9_count 72 (.getfield 166) 3 75 := ⟨tX9_count_0_ok (72, .getfield 166, 3) (List.mem_of_getElem? (i := 8) rfl), rfl⟩
theorem pX9_count_75 : At cX9_count 75 (.ireturn) 1 76 := ⟨tX9_count_0_ok (75, .ireturn, 1) (List.mem_of_getElem? (i := 9) rfl), rfl⟩
theorem pX9_count_76 : At cX9_count 76 (.aload_n 0) 1 77 := ⟨tX9_count_0_ok (76, .aload_n 0, 1) (List.mem_of_getElem? (i := 10) rfl), rfl⟩
theorem pX9_count_77 : At cX9_count 77 (.getfield 10) 3 80 := ⟨tX9_count_0_ok (77, .getfield 10, 3) (List.mem_of_getElem? (i := 11) rfl), rfl⟩
theorem pX9_count_80 : At cX9_count 80 (.getfield 220) 3 83 := ⟨tX9_count_0_ok (80, .getfield 220, 3) (List.mem_of_getElem? (i := 12) rfl), rfl⟩
theorem pX9_count_83 : At cX9_count 83 (.ireturn) 1 84 := ⟨tX9_count_0_ok (83, .ireturn, 1) (List.mem_of_getElem? (i := 13) rfl), rfl⟩
theorem pX9_count_84 : At cX9_count 84 (.aload_n 0) 1 85 := ⟨tX9_count_0_ok (84, .aload_n 0, 1) (List.mem_of_getElem? (i := 14) rfl), rfl⟩
theorem pX9_count_85 : At cX9_count 85 (.getfield 10) 3 88 := ⟨tX9_count_0_ok (85, .getfield 10, 3) (List.mem_of_getElem? (i := 15) rfl), rfl⟩
theorem pX9_count_88 : At cX9_count 88 (.iconst 0) 1 89 := ⟨tX9_count_0_ok (88, .iconst 0, 1) (List.mem_of_getElem? (i := 16) rfl), rfl⟩
theorem pX9_count_89 : At cX9_count 89 (.iconst 0) 1 90 := ⟨tX9_count_0_ok (89, .iconst 0, 1) (List.mem_of_getElem? (i := 17) rfl), rfl⟩
theorem pX9_count_90 : At cX9_count 90 (.invokevirtual 327) 3 93 := ⟨tX9_count_0_ok (90, .invokevirtual 327, 3) (List.mem_of_getElem? (i := 18) rfl), rfl⟩
theorem pX9_count_93 : At cX9_count 93 (.ireturn) 1 94 := ⟨tX9_count_0_ok (93, .ireturn, 1) (List.mem_of_getElem? (i := 19) rfl), rfl⟩
theorem pX9_count_94 : At cX9_count 94 (.aload_n 0) 1 95 := ⟨tX9_count_0_ok (94, .aload_n 0, 1) (List.mem_of_getElem? (i := 20) rfl), rfl⟩
theorem pX9_count_95 : At cX9_count 95 (.getfield 10) 3 98 := ⟨tX9_count_0_ok (95, .getfield 10, 3) (List.mem_of_getElem? (i := 21) rfl), rfl⟩
theorem pX9_count_98 : At cX9_count 98 (.bipush 40) 2 100 := ⟨tX9_count_0_ok (98, .bipush 40, 2) (List.mem_of_getElem? (i := 22) rfl), rfl⟩
theorem pX9_count_100 : At cX9_count 100 (.bipush 40) 2 102 := ⟨tX9_count_0_ok (100, .bipush 40, 2) (List.mem_of_getElem? (i := 23) rfl), rfl⟩
theorem pX9_count_102 : At cX9_count 102 (.invokevirtual 327) 3 105 := ⟨tX9_count_0_ok (102, .invokevirtual 327, 3) (List.mem_of_getElem? (i := 24) rfl), rfl⟩
theorem pX9_count_105 : At cX9_count 105 (.ireturn) 1 106 := ⟨tX9_count_0_ok (105, .ireturn, 1) (List.mem_of_getElem? (i := 25) rfl), rfl⟩
theorem pX9_count_106 : At cX9_count 106 (.aload_n 0) 1 107 := ⟨tX9_count_0_ok (106, .aload_n 0, 1) (List.mem_of_getElem? (i := 26) rfl), rfl⟩
theorem pX9_count_107 : At cX9_count 107 (.getfield 10) 3 110 := ⟨tX9_count_0_ok (107, .getfield 10, 3) (List.mem_of_getElem? (i := 27) rfl), rfl⟩
theorem pX9_count_110 : At cX9_count 110 (.bipush 16) 2 112 := ⟨tX9_count_0_ok (110, .bipush 16, 2) (List.mem_of_getElem? (i := 28) rfl), rfl⟩
theorem pX9_count_112 : At cX9_count 112 (.bipush 24) 2 114 := ⟨tX9_count_0_ok (112, .bipush 24, 2) (List.mem_of_getElem? (i := 29) rfl), rfl⟩
theorem pX9_count_114 : At cX9_count 114 (.invokevirtual 327) 3 117 := ⟨tX9_count_0_ok (114, .invokevirtual 327, 3) (List.mem_of_getElem? (i := 30) rfl), rfl⟩
theorem pX9_count_117 : At cX9_count 117 (.ireturn) 1 118 := ⟨tX9_count_0_ok (117, .ireturn, 1) (List.mem_of_getElem? (i := 31) rfl), rfl⟩
theorem pX9_count_118 : At cX9_count 118 (.aload_n 0) 1 119 := ⟨tX9_count_0_ok (118, .aload_n 0, 1) (List.mem_of_getElem? (i := 32) rfl), rfl⟩
theorem pX9_count_119 : At cX9_count 119 (.invokevirtual 210) 3 122 := ⟨tX9_count_0_ok (119, .invokevirtual 210, 3) (List.mem_of_getElem? (i := 33) rfl), rfl⟩
theorem pX9_count_122 : At cX9_count 122 (.ireturn) 1 123 := ⟨tX9_count_0_ok (122, .ireturn, 1) (List.mem_of_getElem? (i := 34) rfl), rfl⟩
theorem pX9_count_123 : At cX9_count 123 (.aload_n 0) 1 124 := ⟨tX9_count_0_ok (123, .aload_n 0, 1) (List.mem_of_getElem? (i := 35) rfl), rfl⟩
theorem pX9_count_124 : At cX9_count 124 (.getfield 19) 3 127 := ⟨tX9_count_0_ok (124, .getfield 19, 3) (List.mem_of_getElem? (i := 36) rfl), rfl⟩
theorem pX9_count_127 : At cX9_count 127 (.getfield 173) 3 130 := ⟨tX9_count_0_ok (127, .getfield 173, 3) (List.mem_of_getElem? (i := 37) rfl), rfl⟩
theorem pX9_count_130 : At cX9_count 130 (.ireturn) 1 131 := ⟨tX9_count_0_ok (130, .ireturn, 1) (List.mem_of_getElem? (i := 38) rfl), rfl⟩
theorem pX9_count_131 : At cX9_count 131 (.aload_n 0) 1 132 := ⟨tX9_count_0_ok (131, .aload_n 0, 1) (List.mem_of_getElem? (i := 39) rfl), rfl⟩
theorem pX9_count_132 : At cX9_count 132 (.getfield 19) 3 135 := ⟨tX9_count_0_ok (132, .getfield 19, 3) (List.mem_of_getElem? (i := 40) rfl), rfl⟩
theorem pX9_count_135 : At cX9_count 135 (.getfield 318) 3 138 := ⟨tX9_count_0_ok (135, .getfield 318, 3) (List.mem_of_getElem? (i := 41) rfl), rfl⟩
theorem pX9_count_138 : At cX9_count 138 (.ireturn) 1 139 := ⟨tX9_count_0_ok (138, .ireturn, 1) (List.mem_of_getElem? (i := 42) rfl), rfl⟩
theorem pX9_count_139 : At cX9_count 139 (.aload_n 0) 1 140 := ⟨tX9_count_0_ok (139, .aload_n 0, 1) (List.mem_of_getElem? (i := 43) rfl), rfl⟩
theorem pX9_count_140 : At cX9_count 140 (.getfield 58) 3 143 := ⟨tX9_count_0_ok (140, .getfield 58, 3) (List.mem_of_getElem? (i := 44) rfl), rfl⟩
theorem pX9_count_143 : At cX9_count 143 (.getfield 276) 3 146 := ⟨tX9_count_0_ok (143, .getfield 276, 3) (List.mem_of_getElem? (i := 45) rfl), rfl⟩
theorem pX9_count_146 : At cX9_count 146 (.ireturn) 1 147 := ⟨tX9_count_0_ok (146, .ireturn, 1) (List.mem_of_getElem? (i := 46) rfl), rfl⟩
theorem pX9_count_147 : At cX9_count 147 (.aload_n 0) 1 148 := ⟨tX9_count_0_ok (147, .aload_n 0, 1) (List.mem_of_getElem? (i := 47) rfl), rfl⟩
theorem pX9_count_148 : At cX9_count 148 (.getfield 19) 3 151 := ⟨tX9_count_0_ok (148, .getfield 19, 3) (List.mem_of_getElem? (i := 48) rfl), rfl⟩
theorem pX9_count_151 : At cX9_count 151 (.getfield 270) 3 154 := ⟨tX9_count_0_ok (151, .getfield 270, 3) (List.mem_of_getElem? (i := 49) rfl), rfl⟩
theorem pX9_count_154 : At cX9_count 154 (.ireturn) 1 155 := ⟨tX9_count_0_ok (154, .ireturn, 1) (List.mem_of_getElem? (i := 50) rfl), rfl⟩
theorem pX9_count_155 : At cX9_count 155 (.aload_n 0) 1 156 := ⟨tX9_count_0_ok (155, .aload_n 0, 1) (List.mem_of_getElem? (i := 51) rfl), rfl⟩
theorem pX9_count_156 : At cX9_count 156 (.iconst 1) 1 157 := ⟨tX9_count_0_ok (156, .iconst 1, 1) (List.mem_of_getElem? (i := 52) rfl), rfl⟩
theorem pX9_count_157 : At cX9_count 157 (.invokevirtual 80) 3 160 := ⟨tX9_count_0_ok (157, .invokevirtual 80, 3) (List.mem_of_getElem? (i := 53) rfl), rfl⟩
theorem pX9_count_160 : At cX9_count 160 (.ireturn) 1 161 := ⟨tX9_count_0_ok (160, .ireturn, 1) (List.mem_of_getElem? (i := 54) rfl), rfl⟩
def tX9_told_0 : List (Nat × Instr × Nat) := [(0, .iload_n 1, 1), (1, .iconst 1, 1), (2, .iconst 5, 1), (3, .invokestatic 104, 3), (6, .ifCond .eq 12, 3), (9, .aload_n 0, 1), (10, .getfield 68, 3), (13, .iload_n 1, 1), (14, .iaload, 1), (15, .goto 8, 3), (18, .aload_n 0, 1), (19, .iconst 1, 1), (20, .invokevirtual 80, 3), (23, .ireturn, 1)]
theorem tX9_told_0_ok : ∀ q ∈ tX9_told_0, decode cX9_told q.1 = .ok (q.2.1, q.2.2) := by decide +kernel
theorem pX9_told_0 : At cX9_told 0 (.iload_n 1) 1 1 := ⟨tX9_told_0_ok (0, .iload_n 1, 1) (List.mem_of_getElem? (i := 0) rfl), rfl⟩
theorem pX9_told_1 : At cX9_told 1 (.iconst 1) 1 2 := ⟨tX9_told_0_ok (1, .iconst 1, 1) (List.mem_of_getElem? (i := 1) rfl), rfl⟩
theorem pX9_told_2 : At cX9_told 2 (.iconst 5) 1 3 := ⟨tX9_told_0_ok (2, .iconst 5, 1) (List.mem_of_getElem? (i := 2) rfl), rfl⟩
theorem pX9_told_3 : At cX9_told 3 (.invokestatic 104) 3 6 := ⟨tX9_told_0_ok (3, .invokestatic 104, 3) (List.mem_of_getElem? (i := 3) rfl), rfl⟩
theorem pX9_told_6 : Bt cX9_told 6 (.ifCond .eq 12) 12 18 9 := ⟨tX9_told_0_ok (6, .ifCond .eq 12, 3) (List.mem_of_getElem? (i := 4) rfl), by decide, rfl⟩
theorem pX9_told_9 : At cX9_told 9 (.aload_n 0) 1 10 := ⟨tX9_told_0_ok (9, .aload_n 0, 1) (List.mem_of_getElem? (i := 5) rfl), rfl⟩
theorem pX9_told_10 : At cX9_told 10 (.getfield 68) 3 13 := ⟨tX9_told_0_ok (10, .getfield 68, 3) (List.mem_of_getElem? (i := 6) rfl), rfl⟩
theorem pX9_told_13 : At cX9_told 13 (.iload_n 1) 1 14 := ⟨tX9_told_0_ok (13, .iload_n 1, 1) (List.mem_of_getElem? (i := 7) rfl), rfl⟩
theorem pX9_told_14 : At cX9_told 14 (.iaload) 1 15 := ⟨tX9_told_0_ok (14, .iaload, 1) (List.mem_of_getElem? (i := 8) rfl), rfl⟩
theorem pX9_told_15 : Bt cX9_told 15 (.goto 8) 8 23 18 := ⟨tX9_told_0_ok (15, .goto 8, 3) (List.mem_of_getElem? (i := 9) rfl), by decide, rfl⟩
theorem pX9_told_18 : At cX9_told 18 (.aload_n 0) 1 19 := ⟨tX9_told_0_ok (18, .aload_n 0, 1) (List.mem_of_getElem? (i := 10) rfl), rfl⟩
theorem pX9_told_19 : At cX9_told 19 (.iconst 1) 1 20 := ⟨tX9_told_0_ok (19, .iconst 1, 1) (List.mem_of_getElem? (i := 11) rfl), rfl⟩
theorem pX9_told_20 : At cX9_told 20 (.invokevirtual 80) 3 23 := ⟨tX9_told_0_ok (20, .invokevirtual 80, 3) (List.mem_of_getElem? (i := 12) rfl), rfl⟩
theorem pX9_told_23 : At cX9_told 23 (.ireturn) 1 24 := ⟨tX9_told_0_ok (23, .ireturn, 1) (List.mem_of_getElem? (i := 13) rfl), rfl⟩
