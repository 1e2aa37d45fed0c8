def tX10_error_0 : List (Nat × Instr × Nat) := [(0, .aload_n 0, 1), (1, .getfield 16, 3), (4, .iload_n 1, 1), (5, .dup2, 1), (6, .iaload, 1), (7, .iconst 1, 1), (8, .iadd, 1), (9, .iastore, 1), (10, .ldc 52, 2), (12, .iload_n 1, 1), (13, .isub, 1), (14, .ireturn, 1)]
theorem tX10_error_0_ok : ∀ q ∈ tX10_error_0, decode cX10_error q.1 = .ok (q.2.1, q.2.2) := by decide +kernel
theorem pX10_error_0 : At cX10_error 0 (.aload_n 0) 1 1 := ⟨tX10_error_0_ok (0, .aload_n 0, 1) (List.mem_of_getElem? (i := 0) rfl), rfl⟩
theorem pX10_error_1 : At cX10_error 1 (.getfield 16) 3 4 := ⟨tX10_error_0_ok (1, .getfield 16, 3) (List.mem_of_getElem? (i := 1) rfl), rfl⟩
theorem pX10_error_4 : At cX10_error 4 (.iload_n 1) 1 5 := ⟨tX10_error_0_ok (4, .iload_n 1, 1) (List.mem_of_getElem? (i := 2) rfl), rfl⟩
theorem pX10_error_5 : At cX10_error 5 (.dup2) 1 6 := ⟨tX10_error_0_ok (5, .dup2, 1) (List.mem_of_getElem? (i := 3) rfl), rfl⟩
theorem pX10_error_6 : At cX10_error 6 (.iaload) 1 7 := ⟨tX10_error_0_ok (6, .iaload, 1) (List.mem_of_getElem? (i := 4) rfl), rfl⟩
theorem pX10_error_7 : At cX10_error 7 (.iconst 1) 1 8 := ⟨tX10_error_0_ok (7, .iconst 1, 1) (List.mem_of_getElem? (i := 5) rfl), rfl⟩
theorem pX10_error_8 : At cX10_error 8 (.iadd) 1 9 := ⟨tX10_error_0_ok (8, .iadd, 1) (List.mem_of_getElem? (i := 6) rfl), rfl⟩
theorem pX10_error_9 : At cX10_error 9 (.iastore) 1 10 := ⟨tX10_error_0_ok (9, .iastore, 1) (List.mem_of_getElem? (i := 7) rfl), rfl⟩
theorem pX10_error_10 : At cX10_error 10 (.ldc 52) 2 12 := ⟨tX10_error_0_ok (10, .ldc 52, 2) (List.mem_of_getElem? (i := 8) rfl), rfl⟩
theorem pX10_error_12 : At cX10_error 12 (.iload_n 1) 1 13 := ⟨tX10_error_0_ok (12, .iload_n 1, 1) (List.mem_of_getElem? (i := 9) rfl), rfl⟩
theorem pX10_error_13 : At cX10_error 13 (.isub) 1 14 := ⟨tX10_error_0_ok (13, .isub, 1) (List.mem_of_getElem? (i := 10) rfl), rfl⟩
theorem pX10_error_14 : At cX10_error 14 (.ireturn) 1 15 := ⟨tX10_error_0_ok (14, .ireturn, 1) (List.mem_of_getElem? (i := 11) rfl), rfl⟩
def tX10_isIn_0 : List (Nat × Instr × Nat) := [(0, .lload_n 0, 1), (1, .lload_n 2, 1), (2, .lcmp, 1), (3, .ifCond .lt 14, 3), (6, .lload_n 0, 1), (7, .lload 4, 2), (9, .lcmp, 1), (10, .ifCond .gt 7, 3), (13, .iconst 1, 1), (14, .goto 4, 3), (17, .iconst 0, 1), (18, .ireturn, 1)]
theorem tX10_isIn_0_ok : ∀ q ∈ tX10_isIn_0, decode cX10_isIn q.1 = .ok (q.2.1, q.2.2) := by decide +kernel
theorem pX10_isIn_0 : At cX10_isIn 0 (.lload_n 0) 1 1 := ⟨tX10_isIn_0_ok (0, .lload_n 0, 1) (List.mem_of_getElem? (i := 0) rfl), rfl⟩
theorem pX10_isIn_1 : At cX10_isIn 1 (.lload_n 2) 1 2 := ⟨tX10_isIn_0_ok (1, .lload_n 2, 1) (List.mem_of_getElem? (i := 1) rfl), rfl⟩
theorem pX10_isIn_2 : At cX10_isIn 2 (.lcmp) 1 3 := ⟨tX10_isIn_0_ok (2, .lcmp, 1) (List.mem_of_getElem? (i := 2) rfl), rfl⟩
theorem pX10_isIn_3 : Bt cX10_isIn 3 (.ifCond .lt 14) 14 17 6 := ⟨tX10_isIn_0_ok (3, .ifCond .lt 14, 3) (List.mem_of_getElem? (i := 3) rfl), by decide, rfl⟩
theorem pX10_isIn_6 : At cX10_isIn 6 (.lload_n 0) 1 7 := ⟨tX10_isIn_0_ok (6, .lload_n 0, 1) (List.mem_of_getElem? (i := 4) rfl), rfl⟩
theorem pX10_isIn_7 : At cX10_isIn 7 (.lload 4) 2 9 := ⟨tX10_isIn_0_ok (7, .lload 4, 2) (List.mem_of_getElem? (i := 5) rfl), rfl⟩
theorem pX10_isIn_9 : At cX10_isIn 9 (.lcmp) 1 10 := ⟨tX10_isIn_0_ok (9, .lcmp, 1) (List.mem_of_getElem? (i := 6) rfl), rfl⟩
theorem pX10_isIn_10 : Bt cX10_isIn 10 (.ifCond .gt 7) 7 17 13 := ⟨tX10_isIn_0_ok (10, .ifCond .gt 7, 3) (List.mem_of_getElem? (i := 7) rfl), by decide, rfl⟩
theorem pX10_isIn_13 : At cX10_isIn 13 (.iconst 1) 1 14 := ⟨tX10_isIn_0_ok (13, .iconst 1, 1) (List.mem_of_getElem? (i := 8) rfl), rfl⟩
theorem pX10_isIn_14 : Bt cX10_isIn 14 (.goto 4) 4 18 17 := ⟨tX10_isIn_0_ok (14, .goto 4, 3) (List.mem_of_getElem? (i := 9) rfl), by decide, rfl⟩
theorem pX10_isIn_17 : At cX10_isIn 17 (.iconst 0) 1 18 := ⟨tX10_isIn_0_ok (17, .iconst 0, 1) (List.mem_of_getElem? (i := 10) rfl), rfl⟩
theorem pX10_isIn_18 : At cX10_isIn 18 (.ireturn) 1 19 := ⟨tX10_isIn_0_ok (18, .ireturn, 1) (List.mem_of_getElem? (i := 11) rfl), rfl⟩
def tX10_within_0 : List (Nat × Instr × Nat) := [(0, .iload_n 0, 1), (1, .iload_n 1, 1), (2, .if_icmp .ge 7, 3), (5, .iload_n 1, 1), (6, .goto 13, 3), (9, .iload_n 0, 1), (10, .iload_n 2, 1), (11, .if_icmp .le 7, 3), (14, .iload_n 2, 1), (15, .goto 4, 3), (18, .iload_n 0, 1), (19, .ireturn, 1)]
theorem tX10_within_0_ok : ∀ q ∈ tX10_within_0, decode cX10_within q.1 = .ok (q.2.1, q.2.2) := by decide +kernel
theorem pX10_within_0 : At cX10_within 0 (.iload_n 0) 1 1 := ⟨tX10_within_0_ok (0, .iload_n 0, 1) (List.mem_of_getElem? (i := 0) rfl), rfl⟩
theorem pX10_within_1 : At cX10_within 1 (.iload_n 1) 1 2 := ⟨tX10_within_0_ok (1, .iload_n 1, 1) (List.mem_of_getElem? (i := 1) rfl), rfl⟩
theorem pX10_within_2 : Bt cX10_within 2 (.if_icmp .ge 7) 7 9 5 := ⟨tX10_within_0_ok (2, .if_icmp .ge 7, 3) (List.mem_of_getElem? (i := 2) rfl), by decide, rfl⟩
theorem pX10_within_5 : At cX10_within 5 (.iload_n 1) 1 6 := ⟨tX10_within_0_ok (5, .iload_n 1, 1) (List.mem_of_getElem? (i := 3) rfl), rfl⟩
theorem pX10_within_6 : Bt cX10_within 6 (.goto 13) 13 19 9 := ⟨tX10_within_0_ok (6, .goto 13, 3) (List.mem_of_getElem? (i := 4) rfl), by decide, rfl⟩
theorem pX10_within_9 : At cX10_within 9 (.iload_n 0) 1 10 := ⟨tX10_within_0_ok (9, .iload_n 0, 1) (List.mem_of_getElem? (i := 5) rfl), rfl⟩
theorem pX10_within_10 : At cX10_within 10 (.iload_n 2) 1 11 := ⟨tX10_within_0_ok (10, .iload_n 2, 1) (List.mem_of_getElem? (i := 6) rfl), rfl⟩
theorem pX10_within_11 : Bt cX10_within 11 (.if_icmp .le 7) 7 18 14 := ⟨tX10_within_0_ok (11, .if_icmp .le 7, 3) (List.mem_of_getElem? (i := 7) rfl), by decide, rfl⟩
theorem pX10_within_14 : At cX10_within 14 (.iload_n 2) 1 15 := ⟨tX10_within_0_ok (14, .iload_n 2, 1) (List.mem_of_getElem? (i := 8) rfl), rfl⟩
theorem pX10_within_15 : Bt cX10_within 15 (.goto 4) 4 19 18 := ⟨tX10_within_0_ok (15, .goto 4, 3) (List.mem_of_getElem? (i := 9) rfl), by decide, rfl⟩
theorem pX10_within_18 : At cX10_within 18 (.iload_n 0) 1 19 := ⟨tX10_within_0_ok (18, .iload_n 0, 1) (List.mem_of_getElem? (i := 10) rfl), rfl⟩
theorem pX10_within_19 : At cX10_within 19 (.ireturn) 1 20 := ⟨tX10_within_0_ok (19, .ireturn, 1) (List.mem_of_getElem? (i := 11) rfl), rfl⟩
def tX10_size_0 : List (Nat × Instr × Nat) := [(0, .iload_n 0, 1), (1, .ifCond .ge 8, 3), (4, .iload_n 0, 1), (5, .ineg, 1), (6, .goto 4, 3), (9, .iload_n 0, 1), (10, .ireturn, 1)]
theorem tX10_size_0_ok : ∀ q ∈ tX10_size_0, decode cX10_size q.1 = .ok (q.2.1, q.2.2) := by decide +kernel
theorem pX10_size_0 : At cX10_size 0 (.iload_n 0) 1 1 := ⟨tX10_size_0_ok (0, .iload_n 0, 1) (List.mem_of_getElem? (i := 0) rfl), rfl⟩
theorem pX10_size_1 : Bt cX10_size 1 (.ifCond .ge 8) 8 9 4 := ⟨tX10_size_0_ok (1, .ifCond .ge 8, 3) (List.mem_of_getElem? (i := 1) rfl), by decide, rfl⟩
theorem pX10_size_4 : At cX10_size 4 (.iload_n 0) 1 5 := ⟨tX10_size_0_ok (4, .iload_n 0, 1) (List.mem_of_getElem? (i := 2) rfl), rfl⟩
theorem pX10_size_5 : At cX10_size 5 (.ineg) 1 6 := ⟨tX10_size_0_ok (5, .ineg, 1) (List.mem_of_getElem? (i := 3) rfl), rfl⟩
theorem pX10_size_6 : Bt cX10_size 6 (.goto 4) 4 10 9 := ⟨tX10_size_0_ok (6, .goto 4, 3) (List.mem_of_getElem? (i := 4) rfl), by decide, rfl⟩
theorem pX10_size_9 : At cX10_size 9 (.iload_n 0) 1 10 := ⟨tX10_size_0_ok (9, .iload_n 0, 1) (List.mem_of_getElem? (i := 5) rfl), rfl⟩
theorem pX10_size_10 : At cX10_size 10 (.ireturn) 1 11 := ⟨tX10_size_0_ok (10, .ireturn, 1) (List.mem_of_getElem? (i := 6) rfl), rfl⟩
def tX10_isGood_0 : List (Nat × Instr × Nat) := [(0, .iload_n 1, 1), (1, .i2l, 1), (2, .lconst 0, 1), (3, .aload_n 0, 1), (4, .getfield 9, 3), (7, .bipush 6, 2), (9, .iaload, 1), (10, .iconst 1, 1), (11, .isub, 1), (12, .i2l, 1), (13, .invokestatic 53, 3), (16, .ireturn, 1)]
theorem tX10_isGood_0_ok : ∀ q ∈ tX10_isGood_0, decode cX10_isGood q.1 = .ok (q.2.1, q.2.2) := by decide +kernel
theorem pX10_isGood_0 : At cX10_isGood 0 (.iload_n 1) 1 1 := ⟨tX10_isGood_0_ok (0, .iload_n 1, 1) (List.mem_of_getElem? (i := 0) rfl), rfl⟩
theorem pX10_isGood_1 : At cX10_isGood 1 (.i2l) 1 2 := ⟨tX10_isGood_0_ok (1, .i2l, 1) (List.mem_of_getElem? (i := 1) rfl), rfl⟩
theorem pX10_isGood_2 : At cX10_isGood 2 (.lconst 0) 1 3 := ⟨tX10_isGood_0_ok (2, .lconst 0, 1) (List.mem_of_getElem? (i := 2) rfl), rfl⟩
theorem pX10_isGood_3 : At cX10_isGood 3 (.aload_n 0) 1 4 := ⟨tX10_isGood_0_ok (3, .aload_n 0, 1) (List.mem_of_getElem? (i := 3) rfl), rfl⟩
theorem pX10_isGood_4 : At cX10_isGood 4 (.getfield 9) 3 7 := ⟨tX10_isGood_0_ok (4, .getfield 9, 3) (List.mem_of_getElem? (i := 4) rfl), rfl⟩
theorem pX10_isGood_7 : At cX10_isGood 7 (.bipush 6) 2 9 := ⟨tX10_isGood_0_ok (7, .bipush 6, 2) (List.mem_of_getElem? (i := 5) rfl), rfl⟩
theorem pX10_isGood_9 : At cX10_isGood 9 (.iaload) 1 10 := ⟨tX10_isGood_0_ok (9, .iaload, 1) (List.mem_of_getElem? (i := 6) rfl), rfl⟩
theorem pX10_isGood_10 : At cX10_isGood 10 (.iconst 1) 1 11 := ⟨tX10_isGood_0_ok (10, .iconst 1, 1) (List.mem_of_getElem? (i := 7) rfl), rfl⟩
theorem pX10_isGood_11 : At cX10_isGood 11 (.isub) 1 12 := ⟨tX10_isGood_0_ok (11, .isub, 1) (List.mem_of_getElem? (i := 8) rfl), rfl⟩
theorem pX10_isGood_12 : At cX10_isGood 12 (.i2l) 1 13 := ⟨tX10_isGood_0_ok (12, .i2l, 1) (List.mem_of_getElem? (i := 9) rfl), rfl⟩
theorem pX10_isGood_13 : At cX10_isGood 13 (.invokestatic 53) 3 16 := ⟨tX10_isGood_0_ok (13, .invokestatic 53, 3) (List.mem_of_getElem? (i := 10) rfl), rfl⟩
theorem pX10_isGood_16 : At cX10_isGood 16 (.ireturn) 1 17 := ⟨tX10_isGood_0_ok (16, .ireturn, 1) (List.mem_of_getElem? (i := 11) rfl), rfl⟩
def tX10_isSide_0 : List (Nat × Instr × Nat) := [(0, .iload_n 0, 1), (1, .i2l, 1), (2, .lconst 0, 1), (3, .lconst 1, 1), (4, .invokestatic 53, 3), (7, .ireturn, 1)]
theorem tX10_isSide_0_ok : ∀ q ∈ tX10_isSide_0, decode cX10_isSide q.1 = .ok (q.2.1, q.2.2) := by decide +kernel
theorem pX10_isSide_0 : At cX10_isSide 0 (.iload_n 0) 1 1 := ⟨tX10_isSide_0_ok (0, .iload_n 0, 1) (List.mem_of_getElem? (i := 0) rfl), rfl⟩
theorem pX10_isSide_1 : At cX10_isSide 1 (.i2l) 1 2 := ⟨tX10_isSide_0_ok (1, .i2l, 1) (List.mem_of_getElem? (i := 1) rfl), rfl⟩
theorem pX10_isSide_2 : At cX10_isSide 2 (.lconst 0) 1 3 := ⟨tX10_isSide_0_ok (2, .lconst 0, 1) (List.mem_of_getElem? (i := 2) rfl), rfl⟩
theorem pX10_isSide_3 : At cX10_isSide 3 (.lconst 1) 1 4 := ⟨tX10_isSide_0_ok (3, .lconst 1, 1) (List.mem_of_getElem? (i := 3) rfl), rfl⟩
theorem pX10_isSide_4 : At cX10_isSide 4 (.invokestatic 53) 3 7 := ⟨tX10_isSide_0_ok (4, .invokestatic 53, 3) (List.mem_of_getElem? (i := 4) rfl), rfl⟩
theorem pX10_isSide_7 : At cX10_isSide 7 (.ireturn) 1 8 := ⟨tX10_isSide_0_ok (7, .ireturn, 1) (List.mem_of_getElem? (i := 5) rfl), rfl⟩
def tX10_isPush_0 : List (Nat × Instr × Nat) := [(0, .iload_n 0, 1), (1, .i2l, 1), (2, .ldc2_w 57, 3), (5, .ldc2_w 59, 3), (8, .invokestatic 53, 3), (11, .ireturn, 1)]
theorem tX10_isPush_0_ok : ∀ q ∈ tX10_isPush_0, decode cX10_isPush q.1 = .ok (q.2.1, q.2.2) := by decide +kernel
theorem pX10_isPush_0 : At cX10_isPush 0 (.iload_n 0) 1 1 := ⟨tX10_isPush_0_ok (0, .iload_n 0, 1) (List.mem_of_getElem? (i := 0) rfl), rfl⟩
theorem pX10_isPush_1 : At cX10_isPush 1 (.i2l) 1 2 := ⟨tX10_isPush_0_ok (1, .i2l, 1) (List.mem_of_getElem? (i := 1) rfl), rfl⟩
theorem pX10_isPush_2 : At cX10_isPush 2 (.ldc2_w 57) 3 5 := ⟨tX10_isPush_0_ok (2, .ldc2_w 57, 3) (List.mem_of_getElem? (i := 2) rfl), rfl⟩
theorem pX10_isPush_5 : At cX10_isPush 5 (.ldc2_w 59) 3 8 := ⟨tX10_isPush_0_ok (5, .ldc2_w 59, 3) (List.mem_of_getElem? (i := 3) rfl), rfl⟩
theorem pX10_isPush_8 : At cX10_isPush 8 (.invokestatic 53) 3 11 := ⟨tX10_isPush_0_ok (8, .invokestatic 53, 3) (List.mem_of_getElem? (i := 4) rfl), rfl⟩
theorem pX10_isPush_11 : At cX10_isPush 11 (.ireturn) 1 12 := ⟨tX10_isPush_0_ok (11, .ireturn, 1) (List.mem_of_getElem? (i := 5) rfl), rfl⟩
def tX10_of_0 : List (Nat × Instr × Nat) := [(0, .aload_n 0, 1), (1, .getfield 9, 3), (4, .bipush 10, 2), (6, .iconst 5, 1), (7, .iload_n 1, 1), (8, .imul, 1), (9, .iadd, 1), (10, .iload_n 2, 1), (11, .iadd, 1), (12, .iaload, 1), (13, .ireturn, 1)]
theorem tX10_of_0_ok : ∀ q ∈ tX10_of_0, decode cX10_of q.1 = .ok (q.2.1, q.2.2) := by decide +kernel
theorem pX10_of_0 : At cX10_of 0 (.aload_n 0) 1 1 := ⟨tX10_of_0_ok (0, .aload_n 0, 1) (List.mem_of_getElem? (i := 0) rfl), rfl⟩
theorem pX10_of_1 : At cX10_of 1 (.getfield 9) 3 4 := ⟨tX10_of_0_ok (1, .getfield 9, 3) (List.mem_of_getElem? (i := 1) rfl), rfl⟩
theorem pX10_of_4 : At cX10_of 4 (.bipush 10) 2 6 := ⟨tX10_of_0_ok (4, .bipush 10, 2) (List.mem_of_getElem? (i := 2) rfl), rfl⟩
theorem pX10_of_6 : At cX10_of 6 (.iconst 5) 1 7 := ⟨tX10_of_0_ok (6, .iconst 5, 1) (List.mem_of_getElem? (i := 3) rfl), rfl⟩
theorem pX10_of_7 : At cX10_of 7 (.iload_n 1) 1 8 := ⟨tX10_of_0_ok (7, .iload_n 1, 1) (List.mem_of_getElem? (i := 4) rfl), rfl⟩
theorem pX10_of_8 : At cX10_of 8 (.imul) 1 9 := ⟨tX10_of_0_ok (8, .imul, 1) (List.mem_of_getElem? (i := 5) rfl), rfl⟩
theorem pX10_of_9 : At cX10_of 9 (.iadd) 1 10 := ⟨tX10_of_0_ok (9, .iadd, 1) (List.mem_of_getElem? (i := 6) rfl), rfl⟩
theorem pX10_of_10 : At cX10_of 10 (.iload_n 2) 1 11 := ⟨tX10_of_0_ok (10, .iload_n 2, 1) (List.mem_of_getElem? (i := 7) rfl), rfl⟩
theorem pX10_of_11 : At cX10_of 11 (.iadd) 1 12 := ⟨tX10_of_0_ok (11, .iadd, 1) (List.mem_of_getElem? (i := 8) rfl), rfl⟩
theorem pX10_of_12 : At cX10_of 12 (.iaload) 1 13 := ⟨tX10_of_0_ok (12, .iaload, 1) (List.mem_of_getElem? (i := 9) rfl), rfl⟩
theorem pX10_of_13 : At cX10_of 13 (.ireturn) 1 14 := ⟨tX10_of_0_ok (13, .ireturn, 1) (List.mem_of_getElem? (i := 10) rfl), rfl⟩
def tX10_sets_0 : List (Nat × Instr × Nat) := [(0, .aload_n 0, 1), (1, .getfield 9, 3), (4, .bipush 10, 2), (6, .iconst 5, 1), (7, .iload_n 1, 1), (8, .imul, 1), (9, .iadd, 1), (10, .iload_n 2, 1), (11, .iadd, 1), (12, .iload_n 3, 1), (13, .iastore, 1), (14, .return_, 1)]
theorem tX10_sets_0_ok : ∀ q ∈ tX10_sets_0, decode cX10_sets q.1 = .ok (q.2.1, q.2.2) := by decide +kernel
theorem pX10_sets_0 : At cX10_sets 0 (.aload_n 0) 1 1 := ⟨tX10_sets_0_ok (0, .aload_n 0, 1) (List.mem_of_getElem? (i := 0) rfl), rfl⟩
theorem pX10_sets_1 : At cX10_sets 1 (.getfield 9) 3 4 := ⟨tX10_sets_0_ok (1, .getfield 9, 3) (List.mem_of_getElem? (i := 1) rfl), rfl⟩
theorem pX10_sets_4 : At cX10_sets 4 (.bipush 10) 2 6 := ⟨tX10_sets_0_ok (4, .bipush 10, 2) (List.mem_of_getElem? (i := 2) rfl), rfl⟩
theorem pX10_sets_6 : At cX10_sets 6 (.iconst 5) 1 7 := ⟨tX10_sets_0_ok (6, .iconst 5, 1) (List.mem_of_getElem? (i := 3) rfl), rfl⟩
theorem pX10_sets_7 : At cX10_sets 7 (.iload_n 1) 1 8 := ⟨tX10_sets_0_ok (7, .iload_n 1, 1) (List.mem_of_getElem? (i := 4) rfl), rfl⟩
theorem pX10_sets_8 : At cX10_sets 8 (.imul) 1 9 := ⟨tX10_sets_0_ok (8, .imul, 1) (List.mem_of_getElem? (i := 5) rfl), rfl⟩
theorem pX10_sets_9 : At cX10_sets 9 (.iadd) 1 10 := ⟨tX10_sets_0_ok (9, .iadd, 1) (List.mem_of_getElem? (i := 6) rfl), rfl⟩
theorem pX10_sets_10 : At cX10_sets 10 (.iload_n 2) 1 11 := ⟨tX10_sets_0_ok (10, .iload_n 2, 1) (List.mem_of_getElem? (i := 7) rfl), rfl⟩
theorem pX10_sets_11 : At cX10_sets 11 (.iadd) 1 12 := ⟨tX10_sets_0_ok (11, .iadd, 1) (List.mem_of_getElem? (i := 8) rfl), rfl⟩
theorem pX10_sets_12 : At cX10_sets 12 (.iload_n 3) 1 13 := ⟨tX10_sets_0_ok (12, .iload_n 3, 1) (List.mem_of_getElem? (i := 9) rfl), rfl⟩
theorem pX10_sets_13 : At cX10_sets 13 (.iastore) 1 14 := ⟨tX10_sets_0_ok (13, .iastore, 1) (List.mem_of_getElem? (i := 10) rfl), rfl⟩
theorem pX10_sets_14 : At cX10_sets 14 (.return_) 1 15 := ⟨tX10_sets_0_ok (14, .return_, 1) (List.mem_of_getElem? (i := 11) rfl), rfl⟩
def tX10_isUnder_0 : List (Nat × Instr × Nat) := [(0, .iload_n 1, 1), (1, .ifCond .eq 39, 3), (4, .iload_n 0, 1), (5, .iload_n 1, 1), (6, .if_icmp .eq 34, 3), (9, .iload_n 1, 1), (10, .iconst 1, 1), (11, .if_icmp .ne 9, 3), (14, .iload_n 0, 1), (15, .bipush 6, 2), (17, .if_icmp .eq 23, 3), (20, .iload_n 1, 1), (21, .iconst 2, 1), (22, .if_icmp .ne 8, 3), (25, .iload_n 0, 1), (26, .iconst 4, 1), (27, .if_icmp .eq 13, 3), (30, .iload_n 1, 1), (31, .iconst 3, 1), (32, .if_icmp .ne 12, 3), (35, .iload_n 0, 1), (36, .iconst 5, 1), (37, .if_icmp .ne 7, 3), (40, .iconst 1, 1), (41, .goto 4, 3), (44, .iconst 0, 1), (45, .ireturn, 1)]
theorem tX10_isUnder_0_ok : ∀ q ∈ tX10_isUnder_0, decode cX10_isUnder q.1 = .ok (q.2.1, q.2.2) := by decide +kernel
theorem pX10_isUnder_0 : At cX10_isUnder 0 (.iload_n 1) 1 1 := ⟨tX10_isUnder_0_ok (0, .iload_n 1, 1) (List.mem_of_getElem? (i := 0) rfl), rfl⟩
theorem pX10_isUnder_1 : Bt cX10_isUnder 1 (.ifCond .eq 39) 39 40 4 := ⟨tX10_isUnder_0_ok (1, .ifCond .eq 39, 3) (List.mem_of_getElem? (i := 1) rfl), by decide, rfl⟩
theorem pX10_isUnder_4 : At cX10_isUnder 4 (.iload_n 0) 1 5 := ⟨tX10_isUnder_0_ok (4, .iload_n 0, 1) (List.mem_of_getElem? (i := 2) rfl), rfl⟩
theorem pX10_isUnder_5 : At cX10_isUnder 5 (.iload_n 1) 1 6 := ⟨tX10_isUnder_0_ok (5, .iload_n 1, 1) (List.mem_of_getElem? (i := 3) rfl), rfl⟩
theorem pX10_isUnder_6 : Bt cX10_isUnder 6 (.if_icmp .eq 34) 34 40 9 := ⟨tX10_isUnder_0_ok (6, .if_icmp .eq 34, 3) (List.mem_of_getElem? (i := 4) rfl), by decide, rfl⟩
theorem pX10_isUnder_9 : At cX10_isUnder 9 (.iload_n 1) 1 10 := ⟨tX10_isUnder_0_ok (9, .iload_n 1, 1) (List.mem_of_getElem? (i := 5) rfl), rfl⟩
theorem pX10_isUnder_10 : At cX10_isUnder 10 (.iconst 1) 1 11 := ⟨tX10_isUnder_0_ok (10, .iconst 1, 1) (List.mem_of_getElem? (i := 6) rfl), rfl⟩
theorem pX10_isUnder_11 : Bt cX10_isUnder 11 (.if_icmp .ne 9) 9 20 14 := ⟨tX10_isUnder_0_ok (11, .if_icmp .ne 9, 3) (List.mem_of_getElem? (i := 7) rfl), by decide, rfl⟩
theorem pX10_isUnder_14 : At cX10_isUnder 14 (.iload_n 0) 1 15 := ⟨tX10_isUnder_0_ok (14, .iload_n 0, 1) (List.mem_of_getElem? (i := 8) rfl), rfl⟩
theorem pX10_isUnder_15 : At cX10_isUnder 15 (.bipush 6) 2 17 := ⟨tX10_isUnder_0_ok (15, .bipush 6, 2) (List.mem_of_getElem? (i := 9) rfl), rfl⟩
theorem pX10_isUnder_17 : Bt cX10_isUnder 17 (.if_icmp .eq 23) 23 40 20 := ⟨tX10_isUnder_0_ok (17, .if_icmp .eq 23, 3) (List.mem_of_getElem? (i := 10) rfl), by decide, rfl⟩
theorem pX10_isUnder_20 : At cX10_isUnder 20 (.iload_n 1) 1 21 := ⟨tX10_isUnder_0_ok (20, .iload_n 1, 1) (List.mem_of_getElem? (i := 11) rfl), rfl⟩
theorem pX10_isUnder_21 : At cX10_isUnder 21 (.iconst 2) 1 22 := ⟨tX10_isUnder_0_ok (21, .iconst 2, 1) (List.mem_of_getElem? (i := 12) rfl), rfl⟩
theorem pX10_isUnder_22 : Bt cX10_isUnder 22 (.if_icmp .ne 8) 8 30 25 := ⟨tX10_isUnder_0_ok (22, .if_icmp .ne 8, 3) (List.mem_of_getElem? (i := 13) rfl), by decide, rfl⟩
theorem pX10_isUnder_25 : At cX10_isUnder 25 (.iload_n 0) 1 26 := ⟨tX10_isUnder_0_ok (25, .iload_n 0, 1) (List.mem_of_getElem? (i := 14) rfl), rfl⟩
theorem pX10_isUnder_26 : At cX10_isUnder 26 (.iconst 4) 1 27 := ⟨tX10_isUnder_0_ok (26, .iconst 4, 1) (List.mem_of_getElem? (i := 15) rfl), rfl⟩
theorem pX10_isUnder_27 : Bt cX10_isUnder 27 (.if_icmp .eq 13) 13 40 30 := ⟨tX10_isUnder_0_ok (27, .if_icmp .eq 13, 3) (List.mem_of_getElem? (i := 16) rfl), by decide, rfl⟩
theorem pX10_isUnder_30 : At cX10_isUnder 30 (.iload_n 1) 1 31 := ⟨tX10_isUnder_0_ok (30, .iload_n 1, 1) (List.mem_of_getElem? (i := 17) rfl), rfl⟩
theorem pX10_isUnder_31 : At cX10_isUnder 31 (.iconst 3) 1 32 := ⟨tX10_isUnder_0_ok (31, .iconst 3, 1) (List.mem_of_getElem? (i := 18) rfl), rfl⟩
theorem pX10_isUnder_32 : Bt cX10_isUnder 32 (.if_icmp .ne 12) 12 44 35 := ⟨tX10_isUnder_0_ok (32, .if_icmp .ne 12, 3) (List.mem_of_getElem? (i := 19) rfl), by decide, rfl⟩
theorem pX10_isUnder_35 : At cX10_isUnder 35 (.iload_n 0) 1 36 := ⟨tX10_isUnder_0_ok (35, .iload_n 0, 1) (List.mem_of_getElem? (i := 20) rfl), rfl⟩
theorem pX10_isUnder_36 : At cX10_isUnder 36 (.iconst 5) 1 37 := ⟨tX10_isUnder_0_ok (36, .iconst 5, 1) (List.mem_of_getElem? (i := 21) rfl), rfl⟩
theorem pX10_isUnder_37 : Bt cX10_isUnder 37 (.if_icmp .ne 7) 7 44 40 := ⟨tX10_isUnder_0_ok (37, .if_icmp .ne 7, 3) (List.mem_of_getElem? (i := 22) rfl), by decide, rfl⟩
theorem pX10_isUnder_40 : At cX10_isUnder 40 (.iconst 1) 1 41 := ⟨tX10_isUnder_0_ok (40, .iconst 1, 1) (List.mem_of_getElem? (i := 23) rfl), rfl⟩
theorem pX10_isUnder_41 : Bt cX10_isUnder 41 (.goto 4) 4 45 44 := ⟨tX10_isUnder_0_ok (41, .goto 4, 3) (List.mem_of_getElem? (i := 24) rfl), by decide, rfl⟩
theorem pX10_isUnder_44 : At cX10_isUnder 44 (.iconst 0) 1 45 := ⟨tX10_isUnder_0_ok (44, .iconst 0, 1) (List.mem_of_getElem? (i := 25) rfl), rfl⟩
theorem pX10_isUnder_45 : At cX10_isUnder 45 (.ireturn) 1 46 := ⟨tX10_isUnder_0_ok (45, .ireturn, 1) (List.mem_of_getElem? (i := 26) rfl), rfl⟩
def tX10_load_0 : List (Nat × Instr × Nat) := [(0, .iload_n 0, 1), (1, .tableswitch 63 1 6 #[39, 63, 45, 47, 52, 54], 39), (40, .iconst 3, 1), (41, .iload_n 1, 1), (42, .iconst 1, 1), (43, .iadd, 1), (44, .imul, 1), (45, .ireturn, 1), (46, .iconst 0, 1), (47, .ireturn, 1), (48, .iload_n 1, 1), (49, .bipush 6, 2), (51, .iadd, 1), (52, .ireturn, 1), (53, .iload_n 1, 1), (54, .ireturn, 1), (55, .iconst 3, 1), (56, .iload_n 1, 1), (57, .iconst 1, 1), (58, .iadd, 1), (59, .imul, 1), (60, .bipush 20, 2), (62, .iadd, 1), (63, .ireturn, 1), (64, .iload_n 1, 1), (65, .iconst 1, 1), (66, .iadd, 1), (67, .ireturn, 1)]
theorem tX10_load_0_ok : ∀ q ∈ tX10_load_0, decode cX10_load q.1 = .ok (q.2.1, q.2.2) := by decide +kernel
theorem pX10_load_0 : At cX10_load 0 (.iload_n 0) 1 1 := ⟨tX10_load_0_ok (0, .iload_n 0, 1) (List.mem_of_getElem? (i := 0) rfl), rfl⟩
theorem pX10_load_1 : decode cX10_load 1 = .ok (.tableswitch 63 1 6 #[39, 63, 45, 47, 52, 54], 39) := tX10_load_0_ok (1, .tableswitch 63 1 6 #[39, 63, 45, 47, 52, 54], 39) (List.mem_of_getElem? (i := 1) rfl)
theorem pX10_load_40 : At cX10_load 40 (.iconst 3) 1 41 := ⟨tX10_load_0_ok (40, .iconst 3, 1) (List.mem_of_getElem? (i := 2) rfl), rfl⟩
theorem pX10_load_41 : At cX10_load 41 (.iload_n 1) 1 42 := ⟨tX10_load_0_ok (41, .iload_n 1, 1) (List.mem_of_getElem? (i := 3) rfl), rfl⟩
theorem pX10_load_42 : At cX10_load 42 (.iconst 1) 1 43 := ⟨tX10_load_0_ok (42, .iconst 1, 1) (List.mem_of_getElem? (i := 4) rfl), rfl⟩
theorem pX10_load_43 : At cX10_load 43 (.iadd) 1 44 := ⟨tX10_load_0_ok (43, .iadd, 1) (List.mem_of_getElem? (i := 5) rfl), rfl⟩
theorem pX10_load_44 : At cX10_load 44 (.imul) 1 45 := ⟨tX10_load_0_ok (44, .imul, 1) (List.mem_of_getElem? (i := 6) rfl), rfl⟩
theorem pX10_load_45 : At cX10_load 45 (.ireturn) 1 46 := ⟨tX10_load_0_ok (45, .ireturn, 1) (List.mem_of_getElem? (i := 7) rfl), rfl⟩
theorem pX10_load_46 : At cX10_load 46 (.iconst 0) 1 47 := ⟨tX10_load_0_ok (46, .iconst 0, 1) (List.mem_of_getElem? (i := 8) rfl), rfl⟩
theorem pX10_load_47 : At cX10_load 47 (.ireturn) 1 48 := ⟨tX10_load_0_ok (47, .ireturn, 1) (List.mem_of_getElem? (i := 9) rfl), rfl⟩
theorem pX10_load_48 : At cX10_load 48 (.iload_n 1) 1 49 := ⟨tX10_load_0_ok (48, .iload_n 1, 1) (List.mem_of_getElem? (i := 10) rfl), rfl⟩
theorem pX10_load_49 : At cX10_load 49 (.bipush 6) 2 51 := ⟨tX10_load_0_ok (49, .bipush 6, 2) (List.mem_of_getElem? (i := 11) rfl), rfl⟩
theorem pX10_load_51 : At cX10_load 51 (.iadd) 1 52 := ⟨tX10_load_0_ok (51, .iadd, 1) (List.mem_of_getElem? (i := 12) rfl), rfl⟩
theorem pX10_load_52 : At cX10_load 52 (.ireturn) 1 53 := ⟨tX10_load_0_ok (52, .ireturn, 1) (List.mem_of_getElem? (i := 13) rfl), rfl⟩
theorem pX10_load_53 : At cX10_load 53 (.iload_n 1) 1 54 := ⟨tX10_load_0_ok (53, .iload_n 1, 1) (List.mem_of_getElem? (i := 14) rfl), rfl⟩
theorem pX10_load_54 : At cX10_load 54 (.ireturn) 1 55 := ⟨tX10_load_0_ok (54, .ireturn, 1) (List.mem_of_getElem? (i := 15) rfl), rfl⟩
theorem pX10_load_55 : At cX10_load 55 (.iconst 3) 1 56 := ⟨tX10_load_0_ok (55, .iconst 3, 1) (List.mem_of_getElem? (i := 16) rfl), rfl⟩
theorem pX10_load_56 : At cX10_load 56 (.iload_n 1) 1 57 := ⟨tX10_load_0_ok (56, .iload_n 1, 1) (List.mem_of_getElem? (i := 17) rfl), rfl⟩
theorem pX10_load_57 : At cX10_load 57 (.iconst 1) 1 58 := ⟨tX10_load_0_ok (57, .iconst 1, 1) (List.mem_of_getElem? (i := 18) rfl), rfl⟩
theorem pX10_load_58 : At cX10_load 58 (.iadd) 1 59 := ⟨tX10_load_0_ok (58, .iadd, 1) (List.mem_of_getElem? (i := 19) rfl), rfl⟩
theorem pX10_load_59 : At cX10_load 59 (.imul) 1 60 := ⟨tX10_load_0_ok (59, .imul, 1) (List.mem_of_getElem? (i := 20) rfl), rfl⟩
theorem pX10_load_60 : At cX10_load 60 (.bipush 20) 2 62 := ⟨tX10_load_0_ok (60, .bipush 20, 2) (List.mem_of_getElem? (i := 21) rfl), rfl⟩
theorem pX10_load_62 : At cX10_load 62 (.iadd) 1 63 := ⟨tX10_load_0_ok (62, .iadd, 1) (List.mem_of_getElem? (i := 22) rfl), rfl⟩
theorem pX10_load_63 : At cX10_load 63 (.ireturn) 1 64 := ⟨tX10_load_0_ok (63, .ireturn, 1) (List.mem_of_getElem? (i := 23) rfl), rfl⟩
theorem pX10_load_64 : At cX10_load 64 (.iload_n 1) 1 65 := ⟨tX10_load_0_ok (64, .iload_n 1, 1) (List.mem_of_getElem? (i := 24) rfl), rfl⟩
theorem pX10_load_65 : At cX10_load 65 (.iconst 1) 1 66 := ⟨tX10_load_0_ok (65, .iconst 1, 1) (List.mem_of_getElem? (i := 25) rfl), rfl⟩
theorem pX10_load_66 : At cX10_load 66 (.iadd) 1 67 := ⟨tX10_load_0_ok (66, .iadd, 1) (List.mem_of_getElem? (i := 26) rfl), rfl⟩
theorem pX10_load_67 : At cX10_load 67 (.ireturn) 1 68 := ⟨tX10_load_0_ok (67, .ireturn, 1) (List.mem_of_getElem? (i := 27) rfl), rfl⟩
def tX10_pulled_0 : List (Nat × Instr × Nat) := [(0, .iload_n 0, 1), (1, .iconst 3, 1), (2, .if_icmp .eq 8, 3), (5, .iload_n 0, 1), (6, .iconst 5, 1), (7, .if_icmp .ne 10, 3), (10, .iload_n 1, 1), (11, .iconst 2, 1), (12, .idiv, 1), (13, .ineg, 1), (14, .goto 16, 3), (17, .iload_n 0, 1), (18, .bipush 6, 2), (20, .if_icmp .ne 9, 3), (23, .iconst 2, 1), (24, .iload_n 1, 1), (25, .imul, 1), (26, .goto 4, 3), (29, .iload_n 1, 1), (30, .ireturn, 1)]
theorem tX10_pulled_0_ok : ∀ q ∈ tX10_pulled_0, decode cX10_pulled q.1 = .ok (q.2.1, q.2.2) := by decide +kernel
theorem pX10_pulled_0 : At cX10_pulled 0 (.iload_n 0) 1 1 := ⟨tX10_pulled_0_ok (0, .iload_n 0, 1) (List.mem_of_getElem? (i := 0) rfl), rfl⟩
theorem pX10_pulled_1 : At cX10_pulled 1 (.iconst 3) 1 2 := ⟨tX10_pulled_0_ok (1, .iconst 3, 1) (List.mem_of_getElem? (i := 1) rfl), rfl⟩
theorem pX10_pulled_2 : Bt cX10_pulled 2 (.if_icmp .eq 8) 8 10 5 := ⟨tX10_pulled_0_ok (2, .if_icmp .eq 8, 3) (List.mem_of_getElem? (i := 2) rfl), by decide, rfl⟩
theorem pX10_pulled_5 : At cX10_pulled 5 (.iload_n 0) 1 6 := ⟨tX10_pulled_0_ok (5, .iload_n 0, 1) (List.mem_of_getElem? (i := 3) rfl), rfl⟩
theorem pX10_pulled_6 : At cX10_pulled 6 (.iconst 5) 1 7 := ⟨tX10_pulled_0_ok (6, .iconst 5, 1) (List.mem_of_getElem? (i := 4) rfl), rfl⟩
theorem pX10_pulled_7 : Bt cX10_pulled 7 (.if_icmp .ne 10) 10 17 10 := ⟨tX10_pulled_0_ok (7, .if_icmp .ne 10, 3) (List.mem_of_getElem? (i := 5) rfl), by decide, rfl⟩
theorem pX10_pulled_10 : At cX10_pulled 10 (.iload_n 1) 1 11 := ⟨tX10_pulled_0_ok (10, .iload_n 1, 1) (List.mem_of_getElem? (i := 6) rfl), rfl⟩
theorem pX10_pulled_11 : At cX10_pulled 11 (.iconst 2) 1 12 := ⟨tX10_pulled_0_ok (11, .iconst 2, 1) (List.mem_of_getElem? (i := 7) rfl), rfl⟩
theorem pX10_pulled_12 : At cX10_pulled 12 (.idiv) 1 13 := ⟨tX10_pulled_0_ok (12, .idiv, 1) (List.mem_of_getElem? (i := 8) rfl), rfl⟩
theorem pX10_pulled_13 : At cX10_pulled 13 (.ineg) 1 14 := ⟨tX10_pulled_0_ok (13, .ineg, 1) (List.mem_of_getElem? (i := 9) rfl), rfl⟩
theorem pX10_pulled_14 : Bt cX10_pulled 14 (.goto 16) 16 30 17 := ⟨tX10_pulled_0_ok (14, .goto 16, 3) (List.mem_of_getElem? (i := 10) rfl), by decide, rfl⟩
theorem pX10_pulled_17 : At cX10_pulled 17 (.iload_n 0) 1 18 := ⟨tX10_pulled_0_ok (17, .iload_n 0, 1) (List.mem_of_getElem? (i := 11) rfl), rfl⟩
theorem pX10_pulled_18 : At cX10_pulled 18 (.bipush 6) 2 20 := ⟨tX10_pulled_0_ok (18, .bipush 6, 2) (List.mem_of_getElem? (i := 12) rfl), rfl⟩
theorem pX10_pulled_20 : Bt cX10_pulled 20 (.if_icmp .ne 9) 9 29 23 := ⟨tX10_pulled_0_ok (20, .if_icmp .ne 9, 3) (List.mem_of_getElem? (i := 13) rfl), by decide, rfl⟩
theorem pX10_pulled_23 : At cX10_pulled 23 (.iconst 2) 1 24 := ⟨tX10_pulled_0_ok (23, .iconst 2, 1) (List.mem_of_getElem? (i := 14) rfl), rfl⟩
theorem pX10_pulled_24 : At cX10_pulled 24 (.iload_n 1) 1 25 := ⟨tX10_pulled_0_ok (24, .iload_n 1, 1) (List.mem_of_getElem? (i := 15) rfl), rfl⟩
theorem pX10_pulled_25 : At cX10_pulled 25 (.imul) 1 26 := ⟨tX10_pulled_0_ok (25, .imul, 1) (List.mem_of_getElem? (i := 16) rfl), rfl⟩
theorem pX10_pulled_26 : Bt cX10_pulled 26 (.goto 4) 4 30 29 := ⟨tX10_pulled_0_ok (26, .goto 4, 3) (List.mem_of_getElem? (i := 17) rfl), by decide, rfl⟩
theorem pX10_pulled_29 : At cX10_pulled 29 (.iload_n 1) 1 30 := ⟨tX10_pulled_0_ok (29, .iload_n 1, 1) (List.mem_of_getElem? (i := 18) rfl), rfl⟩
theorem pX10_pulled_30 : At cX10_pulled 30 (.ireturn) 1 31 := ⟨tX10_pulled_0_ok (30, .ireturn, 1) (List.mem_of_getElem? (i := 19) rfl), rfl⟩
def tX10_drag_0 : List (Nat × Instr × Nat) := [(0, .iload_n 0, 1), (1, .iconst 1, 1), (2, .if_icmp .eq 9, 3), (5, .iload_n 0, 1), (6, .bipush 6, 2), (8, .if_icmp .ne 7, 3), (11, .iconst 0, 1), (12, .goto 24, 3), (15, .iload_n 0, 1), (16, .iconst 3, 1), (17, .if_icmp .ne 7, 3), (20, .iconst 2, 1), (21, .goto 15, 3), (24, .iload_n 0, 1), (25, .iconst 5, 1), (26, .if_icmp .ne 7, 3), (29, .iconst 1, 1), (30, .goto 6, 3), (33, .iload_n 1, 1), (34, .iconst 2, 1), (35, .irem, 1), (36, .ireturn, 1)]
theorem tX10_drag_0_ok : ∀ q ∈ tX10_drag_0, decode cX10_drag q.1 = .ok (q.2.1, q.2.2) := by decide +kernel
theorem pX10_drag_0 : At cX10_drag 0 (.iload_n 0) 1 1 := ⟨tX10_drag_0_ok (0, .iload_n 0, 1) (List.mem_of_getElem? (i := 0) rfl), rfl⟩
theorem pX10_drag_1 : At cX10_drag 1 (.iconst 1) 1 2 := ⟨tX10_drag_0_ok (1, .iconst 1, 1) (List.mem_of_getElem? (i := 1) rfl), rfl⟩
theorem pX10_drag_2 : Bt cX10_drag 2 (.if_icmp .eq 9) 9 11 5 := ⟨tX10_drag_0_ok (2, .if_icmp .eq 9, 3) (List.mem_of_getElem? (i := 2) rfl), by decide, rfl⟩
theorem pX10_drag_5 : At cX10_drag 5 (.iload_n 0) 1 6 := ⟨tX10_drag_0_ok (5, .iload_n 0, 1) (List.mem_of_getElem? (i := 3) rfl), rfl⟩
theorem pX10_drag_6 : At cX10_drag 6 (.bipush 6) 2 8 := ⟨tX10_drag_0_ok (6, .bipush 6, 2) (List.mem_of_getElem? (i := 4) rfl), rfl⟩
theorem pX10_drag_8 : Bt cX10_drag 8 (.if_icmp .ne 7) 7 15 11 := ⟨tX10_drag_0_ok (8, .if_icmp .ne 7, 3) (List.mem_of_getElem? (i := 5) rfl), by decide, rfl⟩
theorem pX10_drag_11 : At cX10_drag 11 (.iconst 0) 1 12 := ⟨tX10_drag_0_ok (11, .iconst 0, 1) (List.mem_of_getElem? (i := 6) rfl), rfl⟩
theorem pX10_drag_12 : Bt cX10_drag 12 (.goto 24) 24 36 15 := ⟨tX10_drag_0_ok (12, .goto 24, 3) (List.mem_of_getElem? (i := 7) rfl), by decide, rfl⟩
theorem pX10_drag_15 : At cX10_drag 15 (.iload_n 0) 1 16 := ⟨tX10_drag_0_ok (15, .iload_n 0, 1) (List.mem_of_getElem? (i := 8) rfl), rfl⟩
theorem pX10_drag_16 : At cX10_drag 16 (.iconst 3) 1 17 := ⟨tX10_drag_0_ok (16, .iconst 3, 1) (List.mem_of_getElem? (i := 9) rfl), rfl⟩
theorem pX10_drag_17 : Bt cX10_drag 17 (.if_icmp .ne 7) 7 24 20 := ⟨tX10_drag_0_ok (17, .if_icmp .ne 7, 3) (List.mem_of_getElem? (i := 10) rfl), by decide, rfl⟩
theorem pX10_drag_20 : At cX10_drag 20 (.iconst 2) 1 21 := ⟨tX10_drag_0_ok (20, .iconst 2, 1) (List.mem_of_getElem? (i := 11) rfl), rfl⟩
theorem pX10_drag_21 : Bt cX10_drag 21 (.goto 15) 15 36 24 := ⟨tX10_drag_0_ok (21, .goto 15, 3) (List.mem_of_getElem? (i := 12) rfl), by decide, rfl⟩
theorem pX10_drag_24 : At cX10_drag 24 (.iload_n 0) 1 25 := ⟨tX10_drag_0_ok (24, .iload_n 0, 1) (List.mem_of_getElem? (i := 13) rfl), rfl⟩
theorem pX10_drag_25 : At cX10_drag 25 (.iconst 5) 1 26 := ⟨tX10_drag_0_ok (25, .iconst 5, 1) (List.mem_of_getElem? (i := 14) rfl), rfl⟩
theorem pX10_drag_26 : Bt cX10_drag 26 (.if_icmp .ne 7) 7 33 29 := ⟨tX10_drag_0_ok (26, .if_icmp .ne 7, 3) (List.mem_of_getElem? (i := 15) rfl), by decide, rfl⟩
theorem pX10_drag_29 : At cX10_drag 29 (.iconst 1) 1 30 := ⟨tX10_drag_0_ok (29, .iconst 1, 1) (List.mem_of_getElem? (i := 16) rfl), rfl⟩
theorem pX10_drag_30 : Bt cX10_drag 30 (.goto 6) 6 36 33 := ⟨tX10_drag_0_ok (30, .goto 6, 3) (List.mem_of_getElem? (i := 17) rfl), by decide, rfl⟩
theorem pX10_drag_33 : At cX10_drag 33 (.iload_n 1) 1 34 := ⟨tX10_drag_0_ok (33, .iload_n 1, 1) (List.mem_of_getElem? (i := 18) rfl), rfl⟩
theorem pX10_drag_34 : At cX10_drag 34 (.iconst 2) 1 35 := ⟨tX10_drag_0_ok (34, .iconst 2, 1) (List.mem_of_getElem? (i := 19) rfl), rfl⟩
theorem pX10_drag_35 : At cX10_drag 35 (.irem) 1 36 := ⟨tX10_drag_0_ok (35, .irem, 1) (List.mem_of_getElem? (i := 20) rfl), rfl⟩
theorem pX10_drag_36 : At cX10_drag 36 (.ireturn) 1 37 := ⟨tX10_drag_0_ok (36, .ireturn, 1) (List.mem_of_getElem? (i := 21) rfl), rfl⟩
def tX10_reach_0 : List (Nat × Instr × Nat) := [(0, .iload_n 0, 1), (1, .iconst 2, 1), (2, .if_icmp .ne 9, 3), (5, .iload_n 1, 1), (6, .iconst 2, 1), (7, .iadd, 1), (8, .goto 18, 3), (11, .iload_n 0, 1), (12, .iconst 4, 1), (13, .if_icmp .ne 11, 3), (16, .iload_n 1, 1), (17, .iconst 2, 1), (18, .iadd, 1), (19, .iconst 2, 1), (20, .idiv, 1), (21, .goto 5, 3), (24, .bipush 40, 2), (26, .ireturn, 1)]
theorem tX10_reach_0_ok : ∀ q ∈ tX10_reach_0, decode cX10_reach q.1 = .ok (q.2.1, q.2.2) := by decide +kernel
theorem pX10_reach_0 : At cX10_reach 0 (.iload_n 0) 1 1 := ⟨tX10_reach_0_ok (0, .iload_n 0, 1) (List.mem_of_getElem? (i := 0) rfl), rfl⟩
theorem pX10_reach_1 : At cX10_reach 1 (.iconst 2) 1 2 := ⟨tX10_reach_0_ok (1, .iconst 2, 1) (List.mem_of_getElem? (i := 1) rfl), rfl⟩
theorem pX10_reach_2 : Bt cX10_reach 2 (.if_icmp .ne 9) 9 11 5 := ⟨tX10_reach_0_ok (2, .if_icmp .ne 9, 3) (List.mem_of_getElem? (i := 2) rfl), by decide, rfl⟩
theorem pX10_reach_5 : At cX10_reach 5 (.iload_n 1) 1 6 := ⟨tX10_reach_0_ok (5, .iload_n 1, 1) (List.mem_of_getElem? (i := 3) rfl), rfl⟩
theorem pX10_reach_6 : At cX10_reach 6 (.iconst 2) 1 7 := ⟨tX10_reach_0_ok (6, .iconst 2, 1) (List.mem_of_getElem? (i := 4) rfl), rfl⟩
theorem pX10_reach_7 : At cX10_reach 7 (.iadd) 1 8 := ⟨tX10_reach_0_ok (7, .iadd, 1) (List.mem_of_getElem? (i := 5) rfl), rfl⟩
theorem pX10_reach_8 : Bt cX10_reach 8 (.goto 18) 18 26 11 := ⟨tX10_reach_0_ok (8, .goto 18, 3) (List.mem_of_getElem? (i := 6) rfl), by decide, rfl⟩
theorem pX10_reach_11 : At cX10_reach 11 (.iload_n 0) 1 12 := ⟨tX10_reach_0_ok (11, .iload_n 0, 1) (List.mem_of_getElem? (i := 7) rfl), rfl⟩
theorem pX10_reach_12 : At cX10_reach 12 (.iconst 4) 1 13 := ⟨tX10_reach_0_ok (12, .iconst 4, 1) (List.mem_of_getElem? (i := 8) rfl), rfl⟩
theorem pX10_reach_13 : Bt cX10_reach 13 (.if_icmp .ne 11) 11 24 16 := ⟨tX10_reach_0_ok (13, .if_icmp .ne 11, 3) (List.mem_of_getElem? (i := 9) rfl), by decide, rfl⟩
theorem pX10_reach_16 : At cX10_reach 16 (.iload_n 1) 1 17 := ⟨tX10_reach_0_ok (16, .iload_n 1, 1) (List.mem_of_getElem? (i := 10) rfl), rfl⟩
theorem pX10_reach_17 : At cX10_reach 17 (.iconst 2) 1 18 := ⟨tX10_reach_0_ok (17, .iconst 2, 1) (List.mem_of_getElem? (i := 11) rfl), rfl⟩
theorem pX10_reach_18 : At cX10_reach 18 (.iadd) 1 19 := ⟨tX10_reach_0_ok (18, .iadd, 1) (List.mem_of_getElem? (i := 12) rfl), rfl⟩
theorem pX10_reach_19 : At cX10_reach 19 (.iconst 2) 1 20 := ⟨tX10_reach_0_ok (19, .iconst 2, 1) (List.mem_of_getElem? (i := 13) rfl), rfl⟩
theorem pX10_reach_20 : At cX10_reach 20 (.idiv) 1 21 := ⟨tX10_reach_0_ok (20, .idiv, 1) (List.mem_of_getElem? (i := 14) rfl), rfl⟩
theorem pX10_reach_21 : Bt cX10_reach 21 (.goto 5) 5 26 24 := ⟨tX10_reach_0_ok (21, .goto 5, 3) (List.mem_of_getElem? (i := 15) rfl), by decide, rfl⟩
theorem pX10_reach_24 : At cX10_reach 24 (.bipush 40) 2 26 := ⟨tX10_reach_0_ok (24, .bipush 40, 2) (List.mem_of_getElem? (i := 16) rfl), rfl⟩
theorem pX10_reach_26 : At cX10_reach 26 (.ireturn) 1 27 := ⟨tX10_reach_0_ok (26, .ireturn, 1) (List.mem_of_getElem? (i := 17) rfl), rfl⟩
def tX10_loadOf_0 : List (Nat × Instr × Nat) := [(0, .aload_n 0, 1), (1, .iload_n 1, 1), (2, .iconst 0, 1), (3, .invokevirtual 61, 3), (6, .aload_n 0, 1), (7, .iload_n 1, 1), (8, .iconst 1, 1), (9, .invokevirtual 61, 3), (12, .invokestatic 65, 3), (15, .ireturn, 1)]
theorem tX10_loadOf_0_ok : ∀ q ∈ tX10_loadOf_0, decode cX10_loadOf q.1 = .ok (q.2.1, q.2.2) := by decide +kernel
theorem pX10_loadOf_0 : At cX10_loadOf 0 (.aload_n 0) 1 1 := ⟨tX10_loadOf_0_ok (0, .aload_n 0, 1) (List.mem_of_getElem? (i := 0) rfl), rfl⟩
theorem pX10_loadOf_1 : At cX10_loadOf 1 (.iload_n 1) 1 2 := ⟨tX10_loadOf_0_ok (1, .iload_n 1, 1) (List.mem_of_getElem? (i := 1) rfl), rfl⟩
theorem pX10_loadOf_2 : At cX10_loadOf 2 (.iconst 0) 1 3 := ⟨tX10_loadOf_0_ok (2, .iconst 0, 1) (List.mem_of_getElem? (i := 2) rfl), rfl⟩
theorem pX10_loadOf_3 : At cX10_loadOf 3 (.invokevirtual 61) 3 6 := ⟨tX10_loadOf_0_ok (3, .invokevirtual 61, 3) (List.mem_of_getElem? (i := 3) rfl), rfl⟩
theorem pX10_loadOf_6 : At cX10_loadOf 6 (.aload_n 0) 1 7 := ⟨tX10_loadOf_0_ok (6, .aload_n 0, 1) (List.mem_of_getElem? (i := 4) rfl), rfl⟩
theorem pX10_loadOf_7 : At cX10_loadOf 7 (.iload_n 1) 1 8 := ⟨tX10_loadOf_0_ok (7, .iload_n 1, 1) (List.mem_of_getElem? (i := 5) rfl), rfl⟩
theorem pX10_loadOf_8 : At cX10_loadOf 8 (.iconst 1) 1 9 := ⟨tX10_loadOf_0_ok (8, .iconst 1, 1) (List.mem_of_getElem? (i := 6) rfl), rfl⟩
theorem pX10_loadOf_9 : At cX10_loadOf 9 (.invokevirtual 61) 3 12 := ⟨tX10_loadOf_0_ok (9, .invokevirtual 61, 3) (List.mem_of_getElem? (i := 7) rfl), rfl⟩
theorem pX10_loadOf_12 : At cX10_loadOf 12 (.invokestatic 65) 3 15 := ⟨tX10_loadOf_0_ok (12, .invokestatic 65, 3) (List.mem_of_getElem? (i := 8) rfl), rfl⟩
theorem pX10_loadOf_15 : At cX10_loadOf 15 (.ireturn) 1 16 := ⟨tX10_loadOf_0_ok (15, .ireturn, 1) (List.mem_of_getElem? (i := 9) rfl), rfl⟩
def tX10_worked_0 : List (Nat × Instr × Nat) := [(0, .iload_n 0, 1), (1, .lookupswitch 178 #[(38, 97), (42, 152), (43, 144), (45, 148), (47, 156), (60, 111), (61, 122), (62, 133), (124, 83)], 83), (84, .iload_n 1, 1), (85, .ifCond .ne 7, 3), (88, .iload_n 2, 1), (89, .ifCond .eq 7, 3), (92, .iconst 1, 1), (93, .goto 4, 3), (96, .iconst 0, 1), (97, .ireturn, 1), (98, .iload_n 1, 1), (99, .ifCond .eq 11, 3), (102, .iload_n 2, 1), (103, .ifCond .eq 7, 3), (106, .iconst 1, 1), (107, .goto 4, 3), (110, .iconst 0, 1), (111, .ireturn, 1), (112, .iload_n 1, 1), (113, .iload_n 2, 1), (114, .if_icmp .ge 7, 3), (117, .iconst 1, 1), (118, .goto 4, 3), (121, .iconst 0, 1), (122, .ireturn, 1), (123, .iload_n 1, 1), (124, .iload_n 2, 1), (125, .if_icmp .ne 7, 3), (128, .iconst 1, 1), (129, .goto 4, 3), (132, .iconst 0, 1), (133, .ireturn, 1), (134, .iload_n 1, 1), (135, .iload_n 2, 1), (136, .if_icmp .le 7, 3), (139, .iconst 1, 1), (140, .goto 4, 3), (143, .iconst 0, 1), (144, .ireturn, 1), (145, .iload_n 1, 1), (146, .iload_n 2, 1), (147, .iadd, 1), (148, .ireturn, 1), (149, .iload_n 1, 1), (150, .iload_n 2, 1), (151, .isub, 1), (152, .ireturn, 1), (153, .iload_n 1, 1), (154, .iload_n 2, 1), (155, .imul, 1), (156, .ireturn, 1), (157, .iload_n 2, 1), (158, .ifCond .ne 7, 3), (161, .iconst 0, 1), (162, .goto 16, 3), (165, .iload_n 2, 1), (166, .iconst (-1), 1), (167, .if_icmp .ne 8, 3), (170, .iload_n 1, 1), (171, .ineg, 1), (172, .goto 6, 3), (175, .iload_n 1, 1), (176, .iload_n 2, 1), (177, .idiv, 1), (178, .ireturn, 1), (179, .iload_n 2, 1), (180, .ifCond .eq 8, 3), (183, .iload_n 2, 1), (184, .iconst (-1), 1), (185, .if_icmp .ne 7, 3), (188, .iconst 0, 1), (189, .goto 6, 3), (192, .iload_n 1, 1), (193, .iload_n 2, 1), (194, .irem, 1), (195, .ireturn, 1)]
theorem tX10_worked_0_ok : ∀ q ∈ tX10_worked_0, decode cX10_worked q.1 = .ok (q.2.1, q.2.2) := by decide +kernel
theorem pX10_worked_0 : At cX10_worked 0 (.iload_n 0) 1 1 := ⟨tX10_worked_0_ok (0, .iload_n 0, 1) (List.mem_of_getElem? (i := 0) rfl), rfl⟩
theorem pX10_worked_1 : decode cX10_worked 1 = .ok (.lookupswitch 178 #[(38, 97), (42, 152), (43, 144), (45, 148), (47, 156), (60, 111), (61, 122), (62, 133), (124, 83)], 83) := tX10_worked_0_ok (1, .lookupswitch 178 #[(38, 97), (42, 152), (43, 144), (45, 148), (47, 156), (60, 111), (61, 122), (62, 133), (124, 83)], 83) (List.mem_of_getElem? (i := 1) rfl)
theorem pX10_worked_84 : At cX10_worked 84 (.iload_n 1) 1 85 := ⟨tX10_worked_0_ok (84, .iload_n 1, 1) (List.mem_of_getElem? (i := 2) rfl), rfl⟩
theorem pX10_worked_85 : Bt cX10_worked 85 (.ifCond .ne 7) 7 92 88 := ⟨tX10_worked_0_ok (85, .ifCond .ne 7, 3) (List.mem_of_getElem? (i := 3) rfl), by decide, rfl⟩
theorem pX10_worked_88 : At cX10_worked 88 (.iload_n 2) 1 89 := ⟨tX10_worked_0_ok (88, .iload_n 2, 1) (List.mem_of_getElem? (i := 4) rfl), rfl⟩
theorem pX10_worked_89 : Bt cX10_worked 89 (.ifCond .eq 7) 7 96 92 := ⟨tX10_worked_0_ok (89, .ifCond .eq 7, 3) (List.mem_of_getElem? (i := 5) rfl), by decide, rfl⟩
theorem pX10_worked_92 : At cX10_worked 92 (.iconst 1) 1 93 := ⟨tX10_worked_0_ok (92, .iconst 1, 1) (List.mem_of_getElem? (i := 6) rfl), rfl⟩
theorem pX10_worked_93 : Bt cX10_worked 93 (.goto 4) 4 97 96 := ⟨tX10_worked_0_ok (93, .goto 4, 3) (List.mem_of_getElem? (i := 7) rfl), by decide, rfl⟩
theorem pX10_worked_96 : At cX10_worked 96 (.iconst 0) 1 97 := ⟨tX10_worked_0_ok (96, .iconst 0, 1) (List.mem_of_getElem? (i := 8) rfl), rfl⟩
theorem pX10_worked_97 : At cX10_worked 97 (.ireturn) 1 98 := ⟨tX10_worked_0_ok (97, .ireturn, 1) (List.mem_of_getElem? (i := 9) rfl), rfl⟩
theorem pX10_worked_98 : At cX10_worked 98 (.iload_n 1) 1 99 := ⟨tX10_worked_0_ok (98, .iload_n 1, 1) (List.mem_of_getElem? (i := 10) rfl), rfl⟩
theorem pX10_worked_99 : Bt cX10_worked 99 (.ifCond .eq 11) 11 110 102 := ⟨tX10_worked_0_ok (99, .ifCond .eq 11, 3) (List.mem_of_getElem? (i := 11) rfl), by decide, rfl⟩
theorem pX10_worked_102 : At cX10_worked 102 (.iload_n 2) 1 103 := ⟨tX10_worked_0_ok (102, .iload_n 2, 1) (List.mem_of_getElem? (i := 12) rfl), rfl⟩
theorem pX10_worked_103 : Bt cX10_worked 103 (.ifCond .eq 7) 7 110 106 := ⟨tX10_worked_0_ok (103, .ifCond .eq 7, 3) (List.mem_of_getElem? (i := 13) rfl), by decide, rfl⟩
theorem pX10_worked_106 : At cX10_worked 106 (.iconst 1) 1 107 := ⟨tX10_worked_0_ok (106, .iconst 1, 1) (List.mem_of_getElem? (i := 14) rfl), rfl⟩
theorem pX10_worked_107 : Bt cX10_worked 107 (.goto 4) 4 111 110 := ⟨tX10_worked_0_ok (107, .goto 4, 3) (List.mem_of_getElem? (i := 15) rfl), by decide, rfl⟩
theorem pX10_worked_110 : At cX10_worked 110 (.iconst 0) 1 111 := ⟨tX10_worked_0_ok (110, .iconst 0, 1) (List.mem_of_getElem? (i := 16) rfl), rfl⟩
theorem pX10_worked_111 : At cX10_worked 111 (.ireturn) 1 112 := ⟨tX10_worked_0_ok (111, .ireturn, 1) (List.mem_of_getElem? (i := 17) rfl), rfl⟩
theorem pX10_worked_112 : At cX10_worked 112 (.iload_n 1) 1 113 := ⟨tX10_worked_0_ok (112, .iload_n 1, 1) (List.mem_of_getElem? (i := 18) rfl), rfl⟩
theorem pX10_worked_113 : At cX10_worked 113 (.iload_n 2) 1 114 := ⟨tX10_worked_0_ok (113, .iload_n 2, 1) (List.mem_of_getElem? (i := 19) rfl), rfl⟩
theorem pX10_worked_114 : Bt cX10_worked 114 (.if_icmp .ge 7) 7 121 117 := ⟨tX10_worked_0_ok (114, .if_icmp .ge 7, 3) (List.mem_of_getElem? (i := 20) rfl), by decide, rfl⟩
theorem pX10_worked_117 : At cX10_worked 117 (.iconst 1) 1 118 := ⟨tX10_worked_0_ok (117, .iconst 1, 1) (List.mem_of_getElem? (i := 21) rfl), rfl⟩
theorem pX10_worked_118 : Bt cX10_worked 118 (.goto 4) 4 122 121 := ⟨tX10_worked_0_ok (118, .goto 4, 3) (List.mem_of_getElem? (i := 22) rfl), by decide, rfl⟩
theorem pX10_worked_121 : At cX10_worked 121 (.iconst 0) 1 122 := ⟨tX10_worked_0_ok (121, .iconst 0, 1) (List.mem_of_getElem? (i := 23) rfl), rfl⟩
theorem pX10_worked_122 : At cX10_worked 122 (.ireturn) 1 123 := ⟨tX10_worked_0_ok (122, .ireturn, 1) (List.mem_of_getElem? (i := 24) rfl), rfl⟩
theorem pX10_worked_123 : At cX10_worked 123 (.iload_n 1) 1 124 := ⟨tX10_worked_0_ok (123, .iload_n 1, 1) (List.mem_of_getElem? (i := 25) rfl), rfl⟩
theorem pX10_worked_124 : At cX10_worked 124 (.iload_n 2) 1 125 := ⟨tX10_worked_0_ok (124, .iload_n 2, 1) (List.mem_of_getElem? (i := 26) rfl), rfl⟩
theorem pX10_worked_125 : Bt cX10_worked 125 (.if_icmp .ne 7) 7 132 128 := ⟨tX10_worked_0_ok (125, .if_icmp .ne 7, 3) (List.mem_of_getElem? (i := 27) rfl), by decide, rfl⟩
theorem pX10_worked_128 : At cX10_worked 128 (.iconst 1) 1 129 := ⟨tX10_worked_0_ok (128, .iconst 1, 1) (List.mem_of_getElem? (i := 28) rfl), rfl⟩
theorem pX10_worked_129 : Bt cX10_worked 129 (.goto 4) 4 133 132 := ⟨tX10_worked_0_ok (129, .goto 4, 3) (List.mem_of_getElem? (i := 29) rfl), by decide, rfl⟩
theorem pX10_worked_132 : At cX10_worked 132 (.iconst 0) 1 133 := ⟨tX10_worked_0_ok (132, .iconst 0, 1) (List.mem_of_getElem? (i := 30) rfl), rfl⟩
theorem pX10_worked_133 : At cX10_worked 133 (.ireturn) 1 134 := ⟨tX10_worked_0_ok (133, .ireturn, 1) (List.mem_of_getElem? (i := 31) rfl), rfl⟩
theorem pX10_worked_134 : At cX10_worked 134 (.iload_n 1) 1 135 := ⟨tX10_worked_0_ok (134, .iload_n 1, 1) (List.mem_of_getElem? (i := 32) rfl), rfl⟩
theorem pX10_worked_135 : At cX10_worked 135 (.iload_n 2) 1 136 := ⟨tX10_worked_0_ok (135, .iload_n 2, 1) (List.mem_of_getElem? (i := 33) rfl), rfl⟩
theorem pX10_worked_136 : Bt cX10_worked 136 (.if_icmp .le 7) 7 143 139 := ⟨tX10_worked_0_ok (136, .if_icmp .le 7, 3) (List.mem_of_getElem? (i := 34) rfl), by decide, rfl⟩
theorem pX10_worked_139 : At cX10_worked 139 (.iconst 1) 1 140 := ⟨tX10_worked_0_ok (139, .iconst 1, 1) (List.mem_of_getElem? (i := 35) rfl), rfl⟩
theorem pX10_worked_140 : Bt cX10_worked 140 (.goto 4) 4 144 143 := ⟨tX10_worked_0_ok (140, .goto 4, 3) (List.mem_of_getElem? (i := 36) rfl), by decide, rfl⟩
theorem pX10_worked_143 : At cX10_worked 143 (.iconst 0) 1 144 := ⟨tX10_worked_0_ok (143, .iconst 0, 1) (List.mem_of_getElem? (i := 37) rfl), rfl⟩
theorem pX10_worked_144 : At cX10_worked 144 (.ireturn) 1 145 := ⟨tX10_worked_0_ok (144, .ireturn, 1) (List.mem_of_getElem? (i := 38) rfl), rfl⟩
theorem pX10_worked_145 : At cX10_worked 145 (.iload_n 1) 1 146 := ⟨tX10_worked_0_ok (145, .iload_n 1, 1) (List.mem_of_getElem? (i := 39) rfl), rfl⟩
theorem pX10_worked_146 : At cX10_worked 146 (.iload_n 2) 1 147 := ⟨tX10_worked_0_ok (146, .iload_n 2, 1) (List.mem_of_getElem? (i := 40) rfl), rfl⟩
theorem pX10_worked_147 : At cX10_worked 147 (.iadd) 1 148 := ⟨tX10_worked_0_ok (147, .iadd, 1) (List.mem_of_getElem? (i := 41) rfl), rfl⟩
theorem pX10_worked_148 : At cX10_worked 148 (.ireturn) 1 149 := ⟨tX10_worked_0_ok (148, .ireturn, 1) (List.mem_of_getElem? (i := 42) rfl), rfl⟩
theorem pX10_worked_149 : At cX10_worked 149 (.iload_n 1) 1 150 := ⟨tX10_worked_0_ok (149, .iload_n 1, 1) (List.mem_of_getElem? (i := 43) rfl), rfl⟩
theorem pX10_worked_150 : At cX10_worked 150 (.iload_n 2) 1 151 := ⟨tX10_worked_0_ok (150, .iload_n 2, 1) (List.mem_of_getElem? (i := 44) rfl), rfl⟩
theorem pX10_worked_151 : At cX10_worked 151 (.isub) 1 152 := ⟨tX10_worked_0_ok (151, .isub, 1) (List.mem_of_getElem? (i := 45) rfl), rfl⟩
theorem pX10_worked_152 : At cX10_worked 152 (.ireturn) 1 153 := ⟨tX10_worked_0_ok (152, .ireturn, 1) (List.mem_of_getElem? (i := 46) rfl), rfl⟩
theorem pX10_worked_153 : At cX10_worked 153 (.iload_n 1) 1 154 := ⟨tX10_worked_0_ok (153, .iload_n 1, 1) (List.mem_of_getElem? (i := 47) rfl), rfl⟩
theorem pX10_worked_154 : At cX10_worked 154 (.iload_n 2) 1 155 := ⟨tX10_worked_0_ok (154, .iload_n 2, 1) (List.mem_of_getElem? (i := 48) rfl), rfl⟩
theorem pX10_worked_155 : At cX10_worked 155 (.imul) 1 156 := ⟨tX10_worked_0_ok (155, .imul, 1) (List.mem_of_getElem? (i := 49) rfl), rfl⟩
theorem pX10_worked_156 : At cX10_worked 156 (.ireturn) 1 157 := ⟨tX10_worked_0_ok (156, .ireturn, 1) (List.mem_of_getElem? (i := 50) rfl), rfl⟩
theorem pX10_worked_157 : At cX10_worked 157 (.iload_n 2) 1 158 := ⟨tX10_worked_0_ok (157, .iload_n 2, 1) (List.mem_of_getElem? (i := 51) rfl), rfl⟩
theorem pX10_worked_158 : Bt cX10_worked 158 (.ifCond .ne 7) 7 165 161 := ⟨tX10_worked_0_ok (158, .ifCond .ne 7, 3) (List.mem_of_getElem? (i := 52) rfl), by decide, rfl⟩
theorem pX10_worked_161 : At cX10_worked 161 (.iconst 0) 1 162 := ⟨tX10_worked_0_ok (161, .iconst 0, 1) (List.mem_of_getElem? (i := 53) rfl), rfl⟩
theorem pX10_worked_162 : Bt cX10_worked 162 (.goto 16) 16 178 165 := ⟨tX10_worked_0_ok (162, .goto 16, 3) (List.mem_of_getElem? (i := 54) rfl), by decide, rfl⟩
theorem pX10_worked_165 : At cX10_worked 165 (.iload_n 2) 1 166 := ⟨tX10_worked_0_ok (165, .iload_n 2, 1) (List.mem_of_getElem? (i := 55) rfl), rfl⟩
theorem pX10_worked_166 : At cX10_worked 166 (.iconst (-1)) 1 167 := ⟨tX10_worked_0_ok (166, .iconst (-1), 1) (List.mem_of_getElem? (i := 56) rfl), rfl⟩
theorem pX10_worked_167 : Bt cX10_worked 167 (.if_icmp .ne 8) 8 175 170 := ⟨tX10_worked_0_ok (167, .if_icmp .ne 8, 3) (List.mem_of_getElem? (i := 57) rfl), by decide, rfl⟩
theorem pX10_worked_170 : At cX10_worked 170 (.iload_n 1) 1 171 := ⟨tX10_worked_0_ok (170, .iload_n 1, 1) (List.mem_of_getElem? (i := 58) rfl), rfl⟩
theorem pX10_worked_171 : At cX10_worked 171 (.ineg) 1 172 := ⟨tX10_worked_0_ok (171, .ineg, 1) (List.mem_of_getElem? (i := 59) rfl), rfl⟩
theorem pX10_worked_172 : Bt cX10_worked 172 (.goto 6) 6 178 175 := ⟨tX10_worked_0_ok (172, .goto 6, 3) (List.mem_of_getElem? (i := 60) rfl), by decide, rfl⟩
theorem pX10_worked_175 : At cX10_worked 175 (.iload_n 1) 1 176 := ⟨tX10_worked_0_ok (175, .iload_n 1, 1) (List.mem_of_getElem? (i := 61) rfl), rfl⟩
theorem pX10_worked_176 : At cX10_worked 176 (.iload_n 2) 1 177 := ⟨tX10_worked_0_ok (176, .iload_n 2, 1) (List.mem_of_getElem? (i := 62) rfl), rfl⟩
theorem pX10_worked_177 : At cX10_worked 177 (.idiv) 1 178 := ⟨tX10_worked_0_ok (177, .idiv, 1) (List.mem_of_getElem? (i := 63) rfl), rfl⟩
theorem pX10_worked_178 : At cX10_worked 178 (.ireturn) 1 179 := ⟨tX10_worked_0_ok (178, .ireturn, 1) (List.mem_of_getElem? (i := 64) rfl), rfl⟩
theorem pX10_worked_179 : At cX10_worked 179 (.iload_n 2) 1 180 := ⟨tX10_worked_0_ok (179, .iload_n 2, 1) (List.mem_of_getElem? (i := 65) rfl), rfl⟩
theorem pX10_worked_180 : Bt cX10_worked 180 (.ifCond .eq 8) 8 188 183 := ⟨tX10_worked_0_ok (180, .ifCond .eq 8, 3) (List.mem_of_getElem? (i := 66) rfl), by decide, rfl⟩
theorem pX10_worked_183 : At cX10_worked 183 (.iload_n 2) 1 184 := ⟨tX10_worked_0_ok (183, .iload_n 2, 1) (List.mem_of_getElem? (i := 67) rfl), rfl⟩
theorem pX10_worked_184 : At cX10_worked 184 (.iconst (-1)) 1 185 := ⟨tX10_worked_0_ok (184, .iconst (-1), 1) (List.mem_of_getElem? (i := 68) rfl), rfl⟩
theorem pX10_worked_185 : Bt cX10_worked 185 (.if_icmp .ne 7) 7 192 188 := ⟨tX10_worked_0_ok (185, .if_icmp .ne 7, 3) (List.mem_of_getElem? (i := 69) rfl), by decide, rfl⟩
theorem pX10_worked_188 : At cX10_worked 188 (.iconst 0) 1 189 := ⟨tX10_worked_0_ok (188, .iconst 0, 1) (List.mem_of_getElem? (i := 70) rfl), rfl⟩
theorem pX10_worked_189 : Bt cX10_worked 189 (.goto 6) 6 195 192 := ⟨tX10_worked_0_ok (189, .goto 6, 3) (List.mem_of_getElem? (i := 71) rfl), by decide, rfl⟩
theorem pX10_worked_192 : At cX10_worked 192 (.iload_n 1) 1 193 := ⟨tX10_worked_0_ok (192, .iload_n 1, 1) (List.mem_of_getElem? (i := 72) rfl), rfl⟩
theorem pX10_worked_193 : At cX10_worked 193 (.iload_n 2) 1 194 := ⟨tX10_worked_0_ok (193, .iload_n 2, 1) (List.mem_of_getElem? (i := 73) rfl), rfl⟩
theorem pX10_worked_194 : At cX10_worked 194 (.irem) 1 195 := ⟨tX10_worked_0_ok (194, .irem, 1) (List.mem_of_getElem? (i := 74) rfl), rfl⟩
theorem pX10_worked_195 : At cX10_worked 195 (.ireturn) 1 196 := ⟨tX10_worked_0_ok (195, .ireturn, 1) (List.mem_of_getElem? (i := 75) rfl), rfl⟩
def tX10_worksOut_0 : List (Nat × Instr × Nat) := [(0, .iconst 0, 1), (1, .istore_n 2, 1), (2, .iconst 0, 1), (3, .istore_n 3, 1), (4, .iload_n 3, 1), (5, .aload_n 0, 1), (6, .getfield 9, 3), (9, .iload_n 1, 1), (10, .iaload, 1), (11, .if_icmp .ge 135, 3), (14, .aload_n 0, 1), (15, .getfield 9, 3), (18, .iload_n 1, 1), (19, .iconst 1, 1), (20, .iadd, 1), (21, .iconst 2, 1), (22, .iload_n 3, 1), (23, .imul, 1), (24, .iadd, 1), (25, .iaload, 1), (26, .istore 4, 2), (28, .aload_n 0, 1), (29, .getfield 9, 3), (32, .iload_n 1, 1), (33, .iconst 2, 1), (34, .iadd, 1), (35, .iconst 2, 1), (36, .iload_n 3, 1), (37, .imul, 1), (38, .iadd, 1), (39, .iaload, 1), (40, .istore 5, 2), (42, .iload 4, 2), (44, .iconst 2, 1), (45, .if_icmp .ge 32, 3), (48, .aload_n 0, 1), (49, .getfield 22, 3), (52, .iload_n 2, 1), (53, .iload 4, 2), (55, .ifCond .ne 8, 3), (58, .iload 5, 2), (60, .goto 10, 3), (63, .aload_n 0, 1), (64, .getfield 25, 3), (67, .iload 5, 2), (69, .iaload, 1), (70, .iastore, 1), (71, .iinc 2 1, 3), (74, .goto 66, 3), (77, .iload 4, 2), (79, .iconst 3, 1), (80, .if_icmp .ne 30, 3), (83, .aload_n 0, 1), (84, .getfield 22, 3), (87, .iload_n 2, 1), (88, .iconst 1, 1), (89, .isub, 1), (90, .aload_n 0, 1), (91, .getfield 22, 3), (94, .iload_n 2, 1), (95, .iconst 1, 1), (96, .isub, 1), (97, .iaload, 1), (98, .ifCond .ne 7, 3), (101, .iconst 1, 1), (102, .goto 4, 3), (105, .iconst 0, 1), (106, .iastore, 1), (107, .goto 33, 3), (110, .iinc 2 (-1), 3), (113, .aload_n 0, 1), (114, .getfield 22, 3), (117, .iload_n 2, 1), (118, .iconst 1, 1), (119, .isub, 1), (120, .iload 5, 2), (122, .aload_n 0, 1), (123, .getfield 22, 3), (126, .iload_n 2, 1), (127, .iconst 1, 1), (128, .isub, 1), (129, .iaload, 1), (130, .aload_n 0, 1), (131, .getfield 22, 3), (134, .iload_n 2, 1), (135, .iaload, 1), (136, .invokestatic 189, 3), (139, .iastore, 1), (140, .iinc 3 1, 3), (143, .goto (-139), 3), (146, .aload_n 0, 1), (147, .getfield 22, 3), (150, .iconst 0, 1), (151, .iaload, 1), (152, .ireturn, 1)]
theorem tX10_worksOut_0_ok : ∀ q ∈ tX10_worksOut_0, decode cX10_worksOut q.1 = .ok (q.2.1, q.2.2) := by decide +kernel
theorem pX10_worksOut_0 : At cX10_worksOut 0 (.iconst 0) 1 1 := ⟨tX10_worksOut_0_ok (0, .iconst 0, 1) (List.mem_of_getElem? (i := 0) rfl), rfl⟩
theorem pX10_worksOut_1 : At cX10_worksOut 1 (.istore_n 2) 1 2 := ⟨tX10_worksOut_0_ok (1, .istore_n 2, 1) (List.mem_of_getElem? (i := 1) rfl), rfl⟩
theorem pX10_worksOut_2 : At cX10_worksOut 2 (.iconst 0) 1 3 := ⟨tX10_worksOut_0_ok (2, .iconst 0, 1) (List.mem_of_getElem? (i := 2) rfl), rfl⟩
theorem pX10_worksOut_3 : At cX10_worksOut 3 (.istore_n 3) 1 4 := ⟨tX10_worksOut_0_ok (3, .istore_n 3, 1) (List.mem_of_getElem? (i := 3) rfl), rfl⟩
theorem pX10_worksOut_4 : At cX10_worksOut 4 (.iload_n 3) 1 5 := ⟨tX10_worksOut_0_ok (4, .iload_n 3, 1) (List.mem_of_getElem? (i := 4) rfl), rfl⟩
theorem pX10_worksOut_5 : At cX10_worksOut 5 (.aload_n 0) 1 6 := ⟨tX10_worksOut_0_ok (5, .aload_n 0, 1) (List.mem_of_getElem? (i := 5) rfl), rfl⟩
theorem pX10_worksOut_6 : At cX10_worksOut 6 (.getfield 9) 3 9 := ⟨tX10_worksOut_0_ok (6, .getfield 9, 3) (List.mem_of_getElem? (i := 6) rfl), rfl⟩
theorem pX10_worksOut_9 : At cX10_worksOut 9 (.iload_n 1) 1 10 := ⟨tX10_worksOut_0_ok (9, .iload_n 1, 1) (List.mem_of_getElem? (i := 7) rfl), rfl⟩
theorem pX10_worksOut_10 : At cX10_worksOut 10 (.iaload) 1 11 := ⟨tX10_worksOut_0_ok (10, .iaload, 1) (List.mem_of_getElem? (i := 8) rfl), rfl⟩
theorem pX10_worksOut_11 : Bt cX10_worksOut 11 (.if_icmp .ge 135) 135 146 14 := ⟨tX10_worksOut_0_ok (11, .if_icmp .ge 135, 3) (List.mem_of_getElem? (i := 9) rfl), by decide, rfl⟩
theorem pX10_worksOut_14 : At cX10_worksOut 14 (.aload_n 0) 1 15 := ⟨tX10_worksOut_0_ok (14, .aload_n 0, 1) (List.mem_of_getElem? (i := 10) rfl), rfl⟩
theorem pX10_worksOut_15 : At cX10_worksOut 15 (.getfield 9) 3 18 := ⟨tX10_worksOut_0_ok (15, .getfield 9, 3) (List.mem_of_getElem? (i := 11) rfl), rfl⟩
theorem pX10_worksOut_18 : At cX10_worksOut 18 (.iload_n 1) 1 19 := ⟨tX10_worksOut_0_ok (18, .iload_n 1, 1) (List.mem_of_getElem? (i := 12) rfl), rfl⟩
theorem pX10_worksOut_19 : At cX10_worksOut 19 (.iconst 1) 1 20 := ⟨tX10_worksOut_0_ok (19, .iconst 1, 1) (List.mem_of_getElem? (i := 13) rfl), rfl⟩
theorem pX10_worksOut_20 : At cX10_worksOut 20 (.iadd) 1 21 := ⟨tX10_worksOut_0_ok (20, .iadd, 1) (List.mem_of_getElem? (i := 14) rfl), rfl⟩
theorem pX10_worksOut_21 : At cX10_worksOut 21 (.iconst 2) 1 22 := ⟨tX10_worksOut_0_ok (21, .iconst 2, 1) (List.mem_of_getElem? (i := 15) rfl), rfl⟩
theorem pX10_worksOut_22 : At cX10_worksOut 22 (.iload_n 3) 1 23 := ⟨tX10_worksOut_0_ok (22, .iload_n 3, 1) (List.mem_of_getElem? (i := 16) rfl), rfl⟩
theorem pX10_worksOut_23 : At cX10_worksOut 23 (.imul) 1 24 := ⟨tX10_worksOut_0_ok (23, .imul, 1) (List.mem_of_getElem? (i := 17) rfl), rfl⟩
theorem pX10_worksOut_24 : At cX10_worksOut 24 (.iadd) 1 25 := ⟨tX10_worksOut_0_ok (24, .iadd, 1) (List.mem_of_getElem? (i := 18) rfl), rfl⟩
theorem pX10_worksOut_25 : At cX10_worksOut 25 (.iaload) 1 26 := ⟨tX10_worksOut_0_ok (25, .iaload, 1) (List.mem_of_getElem? (i := 19) rfl), rfl⟩
theorem pX10_worksOut_26 : At cX10_worksOut 26 (.istore 4) 2 28 := ⟨tX10_worksOut_0_ok (26, .istore 4, 2) (List.mem_of_getElem? (i := 20) rfl), rfl⟩
theorem pX10_worksOut_28 : At cX10_worksOut 28 (.aload_n 0) 1 29 := ⟨tX10_worksOut_0_ok (28, .aload_n 0, 1) (List.mem_of_getElem? (i := 21) rfl), rfl⟩
theorem pX10_worksOut_29 : At cX10_worksOut 29 (.getfield 9) 3 32 := ⟨tX10_worksOut_0_ok (29, .getfield 9, 3) (List.mem_of_getElem? (i := 22) rfl), rfl⟩
theorem pX10_worksOut_32 : At cX10_worksOut 32 (.iload_n 1) 1 33 := ⟨tX10_worksOut_0_ok (32, .iload_n 1, 1) (List.mem_of_getElem? (i := 23) rfl), rfl⟩
theorem pX10_worksOut_33 : At cX10_worksOut 33 (.iconst 2) 1 34 := ⟨tX10_worksOut_0_ok (33, .iconst 2, 1) (List.mem_of_getElem? (i := 24) rfl), rfl⟩
theorem pX10_worksOut_34 : At cX10_worksOut 34 (.iadd) 1 35 := ⟨tX10_worksOut_0_ok (34, .iadd, 1) (List.mem_of_getElem? (i := 25) rfl), rfl⟩
theorem pX10_worksOut_35 : At cX10_worksOut 35 (.iconst 2) 1 36 := ⟨tX10_worksOut_0_ok (35, .iconst 2, 1) (List.mem_of_getElem? (i := 26) rfl), rfl⟩
theorem pX10_worksOut_36 : At cX10_worksOut 36 (.iload_n 3) 1 37 := ⟨tX10_worksOut_0_ok (36, .iload_n 3, 1) (List.mem_of_getElem? (i := 27) rfl), rfl⟩
theorem pX10_worksOut_37 : At cX10_worksOut 37 (.imul) 1 38 := ⟨tX10_worksOut_0_ok (37, .imul, 1) (List.mem_of_getElem? (i := 28) rfl), rfl⟩
theorem pX10_worksOut_38 : At cX10_worksOut 38 (.iadd) 1 39 := ⟨tX10_worksOut_0_ok (38, .iadd, 1) (List.mem_of_getElem? (i := 29) rfl), rfl⟩
theorem pX10_worksOut_39 : At cX10_worksOut 39 (.iaload) 1 40 := ⟨tX10_worksOut_0_ok (39, .iaload, 1) (List.mem_of_getElem? (i := 30) rfl), rfl⟩
theorem pX10_worksOut_40 : At cX10_worksOut 40 (.istore 5) 2 42 := ⟨tX10_worksOut_0_ok (40, .istore 5, 2) (List.mem_of_getElem? (i := 31) rfl), rfl⟩
theorem pX10_worksOut_42 : At cX10_worksOut 42 (.iload 4) 2 44 := ⟨tX10_worksOut_0_ok (42, .iload 4, 2) (List.mem_of_getElem? (i := 32) rfl), rfl⟩
theorem pX10_worksOut_44 : At cX10_worksOut 44 (.iconst 2) 1 45 := ⟨tX10_worksOut_0_ok (44, .iconst 2, 1) (List.mem_of_getElem? (i := 33) rfl), rfl⟩
theorem pX10_worksOut_45 : Bt cX10_worksOut 45 (.if_icmp .ge 32) 32 77 48 := ⟨tX10_worksOut_0_ok (45, .if_icmp .ge 32, 3) (List.mem_of_getElem? (i := 34) rfl), by decide, rfl⟩
theorem pX10_worksOut_48 : At cX10_worksOut 48 (.aload_n 0) 1 49 := ⟨tX10_worksOut_0_ok (48, .aload_n 0, 1) (List.mem_of_getElem? (i := 35) rfl), rfl⟩
theorem pX10_worksOut_49 : At cX10_worksOut 49 (.getfield 22) 3 52 := ⟨tX10_worksOut_0_ok (49, .getfield 22, 3) (List.mem_of_getElem? (i := 36) rfl), rfl⟩
theorem pX10_worksOut_52 : At cX10_worksOut 52 (.iload_n 2) 1 53 := ⟨tX10_worksOut_0_ok (52, .iload_n 2, 1) (List.mem_of_getElem? (i := 37) rfl), rfl⟩
theorem pX10_worksOut_53 : At cX10_worksOut 53 (.iload 4) 2 55 := ⟨tX10_worksOut_0_ok (53, .iload 4, 2) (List.mem_of_getElem? (i := 38) rfl), rfl⟩
theorem pX10_worksOut_55 : Bt cX10_worksOut 55 (.ifCond .ne 8) 8 63 58 := ⟨tX10_worksOut_0_ok (55, .ifCond .ne 8, 3) (List.mem_of_getElem? (i := 39) rfl), by decide, rfl⟩
theorem pX10_worksOut_58 : At cX10_worksOut 58 (.iload 5) 2 60 := ⟨tX10_worksOut_0_ok (58, .iload 5, 2) (List.mem_of_getElem? (i := 40) rfl), rfl⟩
theorem pX10_worksOut_60 : Bt cX10_worksOut 60 (.goto 10) 10 70 63 := ⟨tX10_worksOut_0_ok (60, .goto 10, 3) (List.mem_of_getElem? (i := 41) rfl), by decide, rfl⟩
theorem pX10_worksOut_63 : At cX10_worksOut 63 (.aload_n 0) 1 64 := ⟨tX10_worksOut_0_ok (63, .aload_n 0, 1) (List.mem_of_getElem? (i := 42) rfl), rfl⟩
theorem pX10_worksOut_64 : At cX10_worksOut 64 (.getfield 25) 3 67 := ⟨tX10_worksOut_0_ok (64, .getfield 25, 3) (List.mem_of_getElem? (i := 43) rfl), rfl⟩
theorem pX10_worksOut_67 : At cX10_worksOut 67 (.iload 5) 2 69 := ⟨tX10_worksOut_0_ok (67, .iload 5, 2) (List.mem_of_getElem? (i := 44) rfl), rfl⟩
theorem pX10_worksOut_69 : At cX10_worksOut 69 (.iaload) 1 70 := ⟨tX10_worksOut_0_ok (69, .iaload, 1) (List.mem_of_getElem? (i := 45) rfl), rfl⟩
theorem pX10_worksOut_70 : At cX10_worksOut 70 (.iastore) 1 71 := ⟨tX10_worksOut_0_ok (70, .iastore, 1) (List.mem_of_getElem? (i := 46) rfl), rfl⟩
theorem pX10_worksOut_71 : At cX10_worksOut 71 (.iinc 2 1) 3 74 := ⟨tX10_worksOut_0_ok (71, .iinc 2 1, 3) (List.mem_of_getElem? (i := 47) rfl), rfl⟩
theorem pX10_worksOut_74 : Bt cX10_worksOut 74 (.goto 66) 66 140 77 := ⟨tX10_worksOut_0_ok (74, .goto 66, 3) (List.mem_of_getElem? (i := 48) rfl), by decide, rfl⟩
theorem pX10_worksOut_77 : At cX10_worksOut 77 (.iload 4) 2 79 := ⟨tX10_worksOut_0_ok (77, .iload 4, 2) (List.mem_of_getElem? (i := 49) rfl), rfl⟩
theorem pX10_worksOut_79 : At cX10_worksOut 79 (.iconst 3) 1 80 := ⟨tX10_worksOut_0_ok (79, .iconst 3, 1) (List.mem_of_getElem? (i := 50) rfl), rfl⟩
theorem pX10_worksOut_80 : Bt cX10_worksOut 80 (.if_icmp .ne 30) 30 110 83 := ⟨tX10_worksOut_0_ok (80, .if_icmp .ne 30, 3) (List.mem_of_getElem? (i := 51) rfl), by decide, rfl⟩
theorem pX10_worksOut_83 : At cX10_worksOut 83 (.aload_n 0) 1 84 := ⟨tX10_worksOut_0_ok (83, .aload_n 0, 1) (List.mem_of_getElem? (i := 52) rfl), rfl⟩
theorem pX10_worksOut_84 : At cX10_worksOut 84 (.getfield 22) 3 87 := ⟨tX10_worksOut_0_ok (84, .getfield 22, 3) (List.mem_of_getElem? (i := 53) rfl), rfl⟩
theorem pX10_worksOut_87 : At cX10_worksOut 87 (.iload_n 2) 1 88 := ⟨tX10_worksOut_0_ok (87, .iload_n 2, 1) (List.mem_of_getElem? (i := 54) rfl), rfl⟩
theorem pX10_worksOut_88 : At cX10_worksOut 88 (.iconst 1) 1 89 := ⟨tX10_worksOut_0_ok (88, .iconst 1, 1) (List.mem_of_getElem? (i := 55) rfl), rfl⟩
theorem pX10_worksOut_89 : At cX10_worksOut 89 (.isub) 1 90 := ⟨tX10_worksOut_0_ok (89, .isub, 1) (List.mem_of_getElem? (i := 56) rfl), rfl⟩
theorem pX10_worksOut_90 : At cX10_worksOut 90 (.aload_n 0) 1 91 := ⟨tX10_worksOut_0_ok (90, .aload_n 0, 1) (List.mem_of_getElem? (i := 57) rfl), rfl⟩
theorem pX10_worksOut_91 : At cX10_worksOut 91 (.getfield 22) 3 94 := ⟨tX10_worksOut_0_ok (91, .getfield 22, 3) (List.mem_of_getElem? (i := 58) rfl), rfl⟩
theorem pX10_worksOut_94 : At cX10_worksOut 94 (.iload_n 2) 1 95 := ⟨tX10_worksOut_0_ok (94, .iload_n 2, 1) (List.mem_of_getElem? (i := 59) rfl), rfl⟩
theorem pX10_worksOut_95 : At cX10_worksOut 95 (.iconst 1) 1 96 := ⟨tX10_worksOut_0_ok (95, .iconst 1, 1) (List.mem_of_getElem? (i := 60) rfl), rfl⟩
theorem pX10_worksOut_96 : At cX10_worksOut 96 (.isub) 1 97 := ⟨tX10_worksOut_0_ok (96, .isub, 1) (List.mem_of_getElem? (i := 61) rfl), rfl⟩
theorem pX10_worksOut_97 : At cX10_worksOut 97 (.iaload) 1 98 := ⟨tX10_worksOut_0_ok (97, .iaload, 1) (List.mem_of_getElem? (i := 62) rfl), rfl⟩
theorem pX10_worksOut_98 : Bt cX10_worksOut 98 (.ifCond .ne 7) 7 105 101 := ⟨tX10_worksOut_0_ok (98, .ifCond .ne 7, 3) (List.mem_of_getElem? (i := 63) rfl), by decide, rfl⟩
theorem pX10_worksOut_101 : At cX10_worksOut 101 (.iconst 1) 1 102 := ⟨tX10_worksOut_0_ok (101, .iconst 1, 1) (List.mem_of_getElem? (i := 64) rfl), rfl⟩
theorem pX10_worksOut_102 : Bt cX10_worksOut 102 (.goto 4) 4 106 105 := ⟨tX10_worksOut_0_ok (102, .goto 4, 3) (List.mem_of_getElem? (i := 65) rfl), by decide, rfl⟩
theorem pX10_worksOut_105 : At cX10_worksOut 105 (.iconst 0) 1 106 := ⟨tX10_worksOut_0_ok (105, .iconst 0, 1) (List.mem_of_getElem? (i := 66) rfl), rfl⟩
theorem pX10_worksOut_106 : At cX10_worksOut 106 (.iastore) 1 107 := ⟨tX10_worksOut_0_ok (106, .iastore, 1) (List.mem_of_getElem? (i := 67) rfl), rfl⟩
theorem pX10_worksOut_107 : Bt cX10_worksOut 107 (.goto 33) 33 140 110 := ⟨tX10_worksOut_0_ok (107, .goto 33, 3) (List.mem_of_getElem? (i := 68) rfl), by decide, rfl⟩
theorem pX10_worksOut_110 : At cX10_worksOut 110 (.iinc 2 (-1)) 3 113 := ⟨tX10_worksOut_0_ok (110, .iinc 2 (-1), 3) (List.mem_of_getElem? (i := 69) rfl), rfl⟩
theorem pX10_worksOut_113 : At cX10_worksOut 113 (.aload_n 0) 1 114 := ⟨tX10_worksOut_0_ok (113, .aload_n 0, 1) (List.mem_of_getElem? (i := 70) rfl), rfl⟩
theorem pX10_worksOut_114 : At cX10_worksOut 114 (.getfield 22) 3 117 := ⟨tX10_worksOut_0_ok (114, .getfield 22, 3) (List.mem_of_getElem? (i := 71) rfl), rfl⟩
theorem pX10_worksOut_117 : At cX10_worksOut 117 (.iload_n 2) 1 118 := ⟨tX10_worksOut_0_ok (117, .iload_n 2, 1) (List.mem_of_getElem? (i := 72) rfl), rfl⟩
theorem pX10_worksOut_118 : At cX10_worksOut 118 (.iconst 1) 1 119 := ⟨tX10_worksOut_0_ok (118, .iconst 1, 1) (List.mem_of_getElem? (i := 73) rfl), rfl⟩
theorem pX10_worksOut_119 : At cX10_worksOut 119 (.isub) 1 120 := ⟨tX10_worksOut_0_ok (119, .isub, 1) (List.mem_of_getElem? (i := 74) rfl), rfl⟩
theorem pX10_worksOut_120 : At cX10_worksOut 120 (.iload 5) 2 122 := ⟨tX10_worksOut_0_ok (120, .iload 5, 2) (List.mem_of_getElem? (i := 75) rfl), rfl⟩
theorem pX10_worksOut_122 : At cX10_worksOut 122 (.aload_n 0) 1 123 := ⟨tX10_worksOut_0_ok (122, .aload_n 0, 1) (List.mem_of_getElem? (i := 76) rfl), rfl⟩
theorem pX10_worksOut_123 : At cX10_worksOut 123 (.getfield 22) 3 126 := ⟨tX10_worksOut_0_ok (123, .getfield 22, 3) (List.mem_of_getElem? (i := 77) rfl), rfl⟩
theorem pX10_worksOut_126 : At cX10_worksOut 126 (.iload_n 2) 1 127 := ⟨tX10_worksOut_0_ok (126, .iload_n 2, 1) (List.mem_of_getElem? (i := 78) rfl), rfl⟩
theorem pX10_worksOut_127 : At cX10_worksOut 127 (.iconst 1) 1 128 := ⟨tX10_worksOut_0_ok (127, .iconst 1, 1) (List.mem_of_getElem? (i := 79) rfl), rfl⟩
theorem pX10_worksOut_128 : At cX10_worksOut 128 (.isub) 1 129 := ⟨tX10_worksOut_0_ok (128, .isub, 1) (List.mem_of_getElem? (i := 80) rfl), rfl⟩
theorem pX10_worksOut_129 : At cX10_worksOut 129 (.iaload) 1 130 := ⟨tX10_worksOut_0_ok (129, .iaload, 1) (List.mem_of_getElem? (i := 81) rfl), rfl⟩
theorem pX10_worksOut_130 : At cX10_worksOut 130 (.aload_n 0) 1 131 := ⟨tX10_worksOut_0_ok (130, .aload_n 0, 1) (List.mem_of_getElem? (i := 82) rfl), rfl⟩
theorem pX10_worksOut_131 : At cX10_worksOut 131 (.getfield 22) 3 134 := ⟨tX10_worksOut_0_ok (131, .getfield 22, 3) (List.mem_of_getElem? (i := 83) rfl), rfl⟩
theorem pX10_worksOut_134 : At cX10_worksOut 134 (.iload_n 2) 1 135 := ⟨tX10_worksOut_0_ok (134, .iload_n 2, 1) (List.mem_of_getElem? (i := 84) rfl), rfl⟩
theorem pX10_worksOut_135 : At cX10_worksOut 135 (.iaload) 1 136 := ⟨tX10_worksOut_0_ok (135, .iaload, 1) (List.mem_of_getElem? (i := 85) rfl), rfl⟩
theorem pX10_worksOut_136 : At cX10_worksOut 136 (.invokestatic 189) 3 139 := ⟨tX10_worksOut_0_ok (136, .invokestatic 189, 3) (List.mem_of_getElem? (i := 86) rfl), rfl⟩
theorem pX10_worksOut_139 : At cX10_worksOut 139 (.iastore) 1 140 := ⟨tX10_worksOut_0_ok (139, .iastore, 1) (List.mem_of_getElem? (i := 87) rfl), rfl⟩
theorem pX10_worksOut_140 : At cX10_worksOut 140 (.iinc 3 1) 3 143 := ⟨tX10_worksOut_0_ok (140, .iinc 3 1, 3) (List.mem_of_getElem? (i := 88) rfl), rfl⟩
theorem pX10_worksOut_143 : Bt cX10_worksOut 143 (.goto (-139)) (-139) 4 146 := ⟨tX10_worksOut_0_ok (143, .goto (-139), 3) (List.mem_of_getElem? (i := 89) rfl), by decide, rfl⟩
theorem pX10_worksOut_146 : At cX10_worksOut 146 (.aload_n 0) 1 147 := ⟨tX10_worksOut_0_ok (146, .aload_n 0, 1) (List.mem_of_getElem? (i := 90) rfl), rfl⟩
theorem pX10_worksOut_147 : At cX10_worksOut 147 (.getfield 22) 3 150 := ⟨tX10_worksOut_0_ok (147, .getfield 22, 3) (List.mem_of_getElem? (i := 91) rfl), rfl⟩
theorem pX10_worksOut_150 : At cX10_worksOut 150 (.iconst 0) 1 151 := ⟨tX10_worksOut_0_ok (150, .iconst 0, 1) (List.mem_of_getElem? (i := 92) rfl), rfl⟩
theorem pX10_worksOut_151 : At cX10_worksOut 151 (.iaload) 1 152 := ⟨tX10_worksOut_0_ok (151, .iaload, 1) (List.mem_of_getElem? (i := 93) rfl), rfl⟩
theorem pX10_worksOut_152 : At cX10_worksOut 152 (.ireturn) 1 153 := ⟨tX10_worksOut_0_ok (152, .ireturn, 1) (List.mem_of_getElem? (i := 94) rfl), rfl⟩
def tX10_gives_0 : List (Nat × Instr × Nat) := [(0, .aload_n 0, 1), (1, .getfield 25, 3), (4, .iconst 0, 1), (5, .iload_n 2, 1), (6, .iastore, 1), (7, .aload_n 0, 1), (8, .getfield 25, 3), (11, .iconst 1, 1), (12, .iload_n 3, 1), (13, .iastore, 1), (14, .aload_n 0, 1), (15, .getfield 25, 3), (18, .iconst 2, 1), (19, .iload 4, 2), (21, .iastore, 1), (22, .bipush 120, 2), (24, .bipush 101, 2), (26, .iload_n 1, 1), (27, .imul, 1), (28, .iadd, 1), (29, .istore 5, 2), (31, .aload_n 0, 1), (32, .getfield 9, 3), (35, .iload 5, 2), (37, .iaload, 1), (38, .ifCond .lt 12, 3), (41, .aload_n 0, 1), (42, .iload 5, 2), (44, .invokevirtual 192, 3), (47, .goto 21, 3), (50, .iload_n 1, 1), (51, .ifCond .ne 12, 3), (54, .iload_n 2, 1), (55, .bipush 20, 2), (57, .isub, 1), (58, .iconst 5, 1), (59, .idiv, 1), (60, .goto 8, 3), (63, .iload_n 3, 1), (64, .iload_n 2, 1), (65, .iconst 1, 1), (66, .iadd, 1), (67, .imul, 1), (68, .istore 6, 2), (70, .iload_n 1, 1), (71, .ifCond .ne 15, 3), (74, .iload 6, 2), (76, .bipush (-9), 2), (78, .bipush 9, 2), (80, .invokestatic 112, 3), (83, .goto 12, 3), (86, .iload 6, 2), (88, .bipush (-99), 2), (90, .bipush 99, 2), (92, .invokestatic 112, 3), (95, .ireturn, 1)]
theorem tX10_gives_0_ok : ∀ q ∈ tX10_gives_0, decode cX10_gives q.1 = .ok (q.2.1, q.2.2) := by decide +kernel
theorem pX10_gives_0 : At cX10_gives 0 (.aload_n 0) 1 1 := ⟨tX10_gives_0_ok (0, .aload_n 0, 1) (List.mem_of_getElem? (i := 0) rfl), rfl⟩
theorem pX10_gives_1 : At cX10_gives 1 (.getfield 25) 3 4 := ⟨tX10_gives_0_ok (1, .getfield 25, 3) (List.mem_of_getElem? (i := 1) rfl), rfl⟩
theorem pX10_gives_4 : At cX10_gives 4 (.iconst 0) 1 5 := ⟨tX10_gives_0_ok (4, .iconst 0, 1) (List.mem_of_getElem? (i := 2) rfl), rfl⟩
theorem pX10_gives_5 : At cX10_gives 5 (.iload_n 2) 1 6 := ⟨tX10_gives_0_ok (5, .iload_n 2, 1) (List.mem_of_getElem? (i := 3) rfl), rfl⟩
theorem pX10_gives_6 : At cX10_gives 6 (.iastore) 1 7 := ⟨tX10_gives_0_ok (6, .iastore, 1) (List.mem_of_getElem? (i := 4) rfl), rfl⟩
theorem pX10_gives_7 : At cX10_gives 7 (.aload_n 0) 1 8 := ⟨tX10_gives_0_ok (7, .aload_n 0, 1) (List.mem_of_getElem? (i := 5) rfl), rfl⟩
theorem pX10_gives_8 : At cX10_gives 8 (.getfield 25) 3 11 := ⟨tX10_gives_0_ok (8, .getfield 25, 3) (List.mem_of_getElem? (i := 6) rfl), rfl⟩
theorem pX10_gives_11 : At cX10_gives 11 (.iconst 1) 1 12 := ⟨tX10_gives_0_ok (11, .iconst 1, 1) (List.mem_of_getElem? (i := 7) rfl), rfl⟩
theorem pX10_gives_12 : At cX10_gives 12 (.iload_n 3) 1 13 := ⟨tX10_gives_0_ok (12, .iload_n 3, 1) (List.mem_of_getElem? (i := 8) rfl), rfl⟩
theorem pX10_gives_13 : At cX10_gives 13 (.iastore) 1 14 := ⟨tX10_gives_0_ok (13, .iastore, 1) (List.mem_of_getElem? (i := 9) rfl), rfl⟩
theorem pX10_gives_14 : At cX10_gives 14 (.aload_n 0) 1 15 := ⟨tX10_gives_0_ok (14, .aload_n 0, 1) (List.mem_of_getElem? (i := 10) rfl), rfl⟩
theorem pX10_gives_15 : At cX10_gives 15 (.getfield 25) 3 18 := ⟨tX10_gives_0_ok (15, .getfield 25, 3) (List.mem_of_getElem? (i := 11) rfl), rfl⟩
theorem pX10_gives_18 : At cX10_gives 18 (.iconst 2) 1 19 := ⟨tX10_gives_0_ok (18, .iconst 2, 1) (List.mem_of_getElem? (i := 12) rfl), rfl⟩
theorem pX10_gives_19 : At cX10_gives 19 (.iload 4) 2 21 := ⟨tX10_gives_0_ok (19, .iload 4, 2) (List.mem_of_getElem? (i := 13) rfl), rfl⟩
theorem pX10_gives_21 : At cX10_gives 21 (.iastore) 1 22 := ⟨tX10_gives_0_ok (21, .iastore, 1) (List.mem_of_getElem? (i := 14) rfl), rfl⟩
theorem pX10_gives_22 : At cX10_gives 22 (.bipush 120) 2 24 := ⟨tX10_gives_0_ok (22, .bipush 120, 2) (List.mem_of_getElem? (i := 15) rfl), rfl⟩
theorem pX10_gives_24 : At cX10_gives 24 (.bipush 101) 2 26 := ⟨tX10_gives_0_ok (24, .bipush 101, 2) (List.mem_of_getElem? (i := 16) rfl), rfl⟩
theorem pX10_gives_26 : At cX10_gives 26 (.iload_n 1) 1 27 := ⟨tX10_gives_0_ok (26, .iload_n 1, 1) (List.mem_of_getElem? (i := 17) rfl), rfl⟩
theorem pX10_gives_27 : At cX10_gives 27 (.imul) 1 28 := ⟨tX10_gives_0_ok (27, .imul, 1) (List.mem_of_getElem? (i := 18) rfl), rfl⟩
theorem pX10_gives_28 : At cX10_gives 28 (.iadd) 1 29 := ⟨tX10_gives_0_ok (28, .iadd, 1) (List.mem_of_getElem? (i := 19) rfl), rfl⟩
theorem pX10_gives_29 : At cX10_gives 29 (.istore 5) 2 31 := ⟨tX10_gives_0_ok (29, .istore 5, 2) (List.mem_of_getElem? (i := 20) rfl), rfl⟩
theorem pX10_gives_31 : At cX10_gives 31 (.aload_n 0) 1 32 := ⟨tX10_gives_0_ok (31, .aload_n 0, 1) (List.mem_of_getElem? (i := 21) rfl), rfl⟩
theorem pX10_gives_32 : At cX10_gives 32 (.getfield 9) 3 35 := ⟨tX10_gives_0_ok (32, .getfield 9, 3) (List.mem_of_getElem? (i := 22) rfl), rfl⟩
theorem pX10_gives_35 : At cX10_gives 35 (.iload 5) 2 37 := ⟨tX10_gives_0_ok (35, .iload 5, 2) (List.mem_of_getElem? (i := 23) rfl), rfl⟩
theorem pX10_gives_37 : At cX10_gives 37 (.iaload) 1 38 := ⟨tX10_gives_0_ok (37, .iaload, 1) (List.mem_of_getElem? (i := 24) rfl), rfl⟩
theorem pX10_gives_38 : Bt cX10_gives 38 (.ifCond .lt 12) 12 50 41 := ⟨tX10_gives_0_ok (38, .ifCond .lt 12, 3) (List.mem_of_getElem? (i := 25) rfl), by decide, rfl⟩
theorem pX10_gives_41 : At cX10_gives 41 (.aload_n 0) 1 42 := ⟨tX10_gives_0_ok (41, .aload_n 0, 1) (List.mem_of_getElem? (i := 26) rfl), rfl⟩
theorem pX10_gives_42 : At cX10_gives 42 (.iload 5) 2 44 := ⟨tX10_gives_0_ok (42, .iload 5, 2) (List.mem_of_getElem? (i := 27) rfl), rfl⟩
theorem pX10_gives_44 : At cX10_gives 44 (.invokevirtual 192) 3 47 := ⟨tX10_gives_0_ok (44, .invokevirtual 192, 3) (List.mem_of_getElem? (i := 28) rfl), rfl⟩
theorem pX10_gives_47 : Bt cX10_gives 47 (.goto 21) 21 68 50 := ⟨tX10_gives_0_ok (47, .goto 21, 3) (List.mem_of_getElem? (i := 29) rfl), by decide, rfl⟩
theorem pX10_gives_50 : At cX10_gives 50 (.iload_n 1) 1 51 := ⟨tX10_gives_0_ok (50, .iload_n 1, 1) (List.mem_of_getElem? (i := 30) rfl), rfl⟩
theorem pX10_gives_51 : Bt cX10_gives 51 (.ifCond .ne 12) 12 63 54 := ⟨tX10_gives_0_ok (51, .ifCond .ne 12, 3) (List.mem_of_getElem? (i := 31) rfl), by decide, rfl⟩
theorem pX10_gives_54 : At cX10_gives 54 (.iload_n 2) 1 55 := ⟨tX10_gives_0_ok (54, .iload_n 2, 1) (List.mem_of_getElem? (i := 32) rfl), rfl⟩
theorem pX10_gives_55 : At cX10_gives 55 (.bipush 20) 2 57 := ⟨tX10_gives_0_ok (55, .bipush 20, 2) (List.mem_of_getElem? (i := 33) rfl), rfl⟩
theorem pX10_gives_57 : At cX10_gives 57 (.isub) 1 58 := ⟨tX10_gives_0_ok (57, .isub, 1) (List.mem_of_getElem? (i := 34) rfl), rfl⟩
theorem pX10_gives_58 : At cX10_gives 58 (.iconst 5) 1 59 := ⟨tX10_gives_0_ok (58, .iconst 5, 1) (List.mem_of_getElem? (i := 35) rfl), rfl⟩
theorem pX10_gives_59 : At cX10_gives 59 (.idiv) 1 60 := ⟨tX10_gives_0_ok (59, .idiv, 1) (List.mem_of_getElem? (i := 36) rfl), rfl⟩
theorem pX10_gives_60 : Bt cX10_gives 60 (.goto 8) 8 68 63 := ⟨tX10_gives_0_ok (60, .goto 8, 3) (List.mem_of_getElem? (i := 37) rfl), by decide, rfl⟩
theorem pX10_gives_63 : At cX10_gives 63 (.iload_n 3) 1 64 := ⟨tX10_gives_0_ok (63, .iload_n 3, 1) (List.mem_of_getElem? (i := 38) rfl), rfl⟩
theorem pX10_gives_64 : At cX10_gives 64 (.iload_n 2) 1 65 := ⟨tX10_gives_0_ok (64, .iload_n 2, 1) (List.mem_of_getElem? (i := 39) rfl), rfl⟩
theorem pX10_gives_65 : At cX10_gives 65 (.iconst 1) 1 66 := ⟨tX10_gives_0_ok (65, .iconst 1, 1) (List.mem_of_getElem? (i := 40) rfl), rfl⟩
theorem pX10_gives_66 : At cX10_gives 66 (.iadd) 1 67 := ⟨tX10_gives_0_ok (66, .iadd, 1) (List.mem_of_getElem? (i := 41) rfl), rfl⟩
theorem pX10_gives_67 : At cX10_gives 67 (.imul) 1 68 := ⟨tX10_gives_0_ok (67, .imul, 1) (List.mem_of_getElem? (i := 42) rfl), rfl⟩
theorem pX10_gives_68 : At cX10_gives 68 (.istore 6) 2 70 := ⟨tX10_gives_0_ok (68, .istore 6, 2) (List.mem_of_getElem? (i := 43) rfl), rfl⟩
theorem pX10_gives_70 : At cX10_gives 70 (.iload_n 1) 1 71 := ⟨tX10_gives_0_ok (70, .iload_n 1, 1) (List.mem_of_getElem? (i := 44) rfl), rfl⟩
theorem pX10_gives_71 : Bt cX10_gives 71 (.ifCond .ne 15) 15 86 74 := ⟨tX10_gives_0_ok (71, .ifCond .ne 15, 3) (List.mem_of_getElem? (i := 45) rfl), by decide, rfl⟩
theorem pX10_gives_74 : At cX10_gives 74 (.iload 6) 2 76 := ⟨tX10_gives_0_ok (74, .iload 6, 2) (List.mem_of_getElem? (i := 46) rfl), rfl⟩
theorem pX10_gives_76 : At cX10_gives 76 (.bipush (-9)) 2 78 := ⟨tX10_gives_0_ok (76, .bipush (-9), 2) (List.mem_of_getElem? (i := 47) rfl), rfl⟩
theorem pX10_gives_78 : At cX10_gives 78 (.bipush 9) 2 80 := ⟨tX10_gives_0_ok (78, .bipush 9, 2) (List.mem_of_getElem? (i := 48) rfl), rfl⟩
theorem pX10_gives_80 : At cX10_gives 80 (.invokestatic 112) 3 83 := ⟨tX10_gives_0_ok (80, .invokestatic 112, 3) (List.mem_of_getElem? (i := 49) rfl), rfl⟩
theorem pX10_gives_83 : Bt cX10_gives 83 (.goto 12) 12 95 86 := ⟨tX10_gives_0_ok (83, .goto 12, 3) (List.mem_of_getElem? (i := 50) rfl), by decide, rfl⟩
theorem pX10_gives_86 : At cX10_gives 86 (.iload 6) 2 88 := ⟨tX10_gives_0_ok (86, .iload 6, 2) (List.mem_of_getElem? (i := 51) rfl), rfl⟩
theorem pX10_gives_88 : At cX10_gives 88 (.bipush (-99)) 2 90 := ⟨tX10_gives_0_ok (88, .bipush (-99), 2) (List.mem_of_getElem? (i := 52) rfl), rfl⟩
theorem pX10_gives_90 : At cX10_gives 90 (.bipush 99) 2 92 := ⟨tX10_gives_0_ok (90, .bipush 99, 2) (List.mem_of_getElem? (i := 53) rfl), rfl⟩
theorem pX10_gives_92 : At cX10_gives 92 (.invokestatic 112) 3 95 := ⟨tX10_gives_0_ok (92, .invokestatic 112, 3) (List.mem_of_getElem? (i := 54) rfl), rfl⟩
theorem pX10_gives_95 : At cX10_gives 95 (.ireturn) 1 96 := ⟨tX10_gives_0_ok (95, .ireturn, 1) (List.mem_of_getElem? (i := 55) rfl), rfl⟩
def tX10_pulledNow_0 : List (Nat × Instr × Nat) := [(0, .aload_n 0, 1), (1, .iload_n 1, 1), (2, .iconst 0, 1), (3, .invokevirtual 61, 3), (6, .aload_n 0, 1), (7, .iconst 0, 1), (8, .aload_n 0, 1), (9, .iload_n 1, 1), (10, .iconst 2, 1), (11, .invokevirtual 61, 3), (14, .aload_n 0, 1), (15, .iload_n 1, 1), (16, .iconst 1, 1), (17, .invokevirtual 61, 3), (20, .iconst 0, 1), (21, .invokevirtual 68, 3), (24, .invokestatic 72, 3), (27, .ireturn, 1)]
theorem tX10_pulledNow_0_ok : ∀ q ∈ tX10_pulledNow_0, decode cX10_pulledNow q.1 = .ok (q.2.1, q.2.2) := by decide +kernel
theorem pX10_pulledNow_0 : At cX10_pulledNow 0 (.aload_n 0) 1 1 := ⟨tX10_pulledNow_0_ok (0, .aload_n 0, 1) (List.mem_of_getElem? (i := 0) rfl), rfl⟩
theorem pX10_pulledNow_1 : At cX10_pulledNow 1 (.iload_n 1) 1 2 := ⟨tX10_pulledNow_0_ok (1, .iload_n 1, 1) (List.mem_of_getElem? (i := 1) rfl), rfl⟩
theorem pX10_pulledNow_2 : At cX10_pulledNow 2 (.iconst 0) 1 3 := ⟨tX10_pulledNow_0_ok (2, .iconst 0, 1) (List.mem_of_getElem? (i := 2) rfl), rfl⟩
theorem pX10_pulledNow_3 : At cX10_pulledNow 3 (.invokevirtual 61) 3 6 := ⟨tX10_pulledNow_0_ok (3, .invokevirtual 61, 3) (List.mem_of_getElem? (i := 3) rfl), rfl⟩
theorem pX10_pulledNow_6 : At cX10_pulledNow 6 (.aload_n 0) 1 7 := ⟨tX10_pulledNow_0_ok (6, .aload_n 0, 1) (List.mem_of_getElem? (i := 4) rfl), rfl⟩
theorem pX10_pulledNow_7 : At cX10_pulledNow 7 (.iconst 0) 1 8 := ⟨tX10_pulledNow_0_ok (7, .iconst 0, 1) (List.mem_of_getElem? (i := 5) rfl), rfl⟩
theorem pX10_pulledNow_8 : At cX10_pulledNow 8 (.aload_n 0) 1 9 := ⟨tX10_pulledNow_0_ok (8, .aload_n 0, 1) (List.mem_of_getElem? (i := 6) rfl), rfl⟩
theorem pX10_pulledNow_9 : At cX10_pulledNow 9 (.iload_n 1) 1 10 := ⟨tX10_pulledNow_0_ok (9, .iload_n 1, 1) (List.mem_of_getElem? (i := 7) rfl), rfl⟩
theorem pX10_pulledNow_10 : At cX10_pulledNow 10 (.iconst 2) 1 11 := ⟨tX10_pulledNow_0_ok (10, .iconst 2, 1) (List.mem_of_getElem? (i := 8) rfl), rfl⟩
theorem pX10_pulledNow_11 : At cX10_pulledNow 11 (.invokevirtual 61) 3 14 := ⟨tX10_pulledNow_0_ok (11, .invokevirtual 61, 3) (List.mem_of_getElem? (i := 9) rfl), rfl⟩
theorem pX10_pulledNow_14 : At cX10_pulledNow 14 (.aload_n 0) 1 15 := ⟨tX10_pulledNow_0_ok (14, .aload_n 0, 1) (List.mem_of_getElem? (i := 10) rfl), rfl⟩
theorem pX10_pulledNow_15 : At cX10_pulledNow 15 (.iload_n 1) 1 16 := ⟨tX10_pulledNow_0_ok (15, .iload_n 1, 1) (List.mem_of_getElem? (i := 11) rfl), rfl⟩
theorem pX10_pulledNow_16 : At cX10_pulledNow 16 (.iconst 1) 1 17 := ⟨tX10_pulledNow_0_ok (16, .iconst 1, 1) (List.mem_of_getElem? (i := 12) rfl), rfl⟩
theorem pX10_pulledNow_17 : At cX10_pulledNow 17 (.invokevirtual 61) 3 20 := ⟨tX10_pulledNow_0_ok (17, .invokevirtual 61, 3) (List.mem_of_getElem? (i := 13) rfl), rfl⟩
theorem pX10_pulledNow_20 : At cX10_pulledNow 20 (.iconst 0) 1 21 := ⟨tX10_pulledNow_0_ok (20, .iconst 0, 1) (List.mem_of_getElem? (i := 14) rfl), rfl⟩
theorem pX10_pulledNow_21 : At cX10_pulledNow 21 (.invokevirtual 68) 3 24 := ⟨tX10_pulledNow_0_ok (21, .invokevirtual 68, 3) (List.mem_of_getElem? (i := 15) rfl), rfl⟩
theorem pX10_pulledNow_24 : At cX10_pulledNow 24 (.invokestatic 72) 3 27 := ⟨tX10_pulledNow_0_ok (24, .invokestatic 72, 3) (List.mem_of_getElem? (i := 16) rfl), rfl⟩
theorem pX10_pulledNow_27 : At cX10_pulledNow 27 (.ireturn) 1 28 := ⟨tX10_pulledNow_0_ok (27, .ireturn, 1) (List.mem_of_getElem? (i := 17) rfl), rfl⟩
def tX10_good_0 : List (Nat × Instr × Nat) := [(0, .iload_n 1, 1), (1, .i2l, 1), (2, .lconst 0, 1), (3, .ldc2_w 75, 3), (6, .invokestatic 53, 3), (9, .ifCond .eq 15, 3), (12, .iload_n 2, 1), (13, .i2l, 1), (14, .lconst 0, 1), (15, .ldc2_w 77, 3), (18, .invokestatic 53, 3), (21, .ifCond .ne 9, 3), (24, .aload_n 0, 1), (25, .iconst 1, 1), (26, .invokevirtual 79, 3), (29, .ireturn, 1), (30, .aload_n 0, 1), (31, .getfield 9, 3), (34, .bipush 6, 2), (36, .iaload, 1), (37, .bipush 8, 2), (39, .if_icmp .ne 9, 3), (42, .aload_n 0, 1), (43, .iconst 4, 1), (44, .invokevirtual 79, 3), (47, .ireturn, 1), (48, .aload_n 0, 1), (49, .getfield 9, 3), (52, .bipush 6, 2), (54, .iaload, 1), (55, .istore_n 3, 1), (56, .aload_n 0, 1), (57, .getfield 9, 3), (60, .bipush 6, 2), (62, .dup2, 1), (63, .iaload, 1), (64, .iconst 1, 1), (65, .iadd, 1), (66, .iastore, 1), (67, .aload_n 0, 1), (68, .iload_n 3, 1), (69, .iconst 0, 1), (70, .iload_n 1, 1), (71, .bipush 10, 2), (73, .idiv, 1), (74, .invokevirtual 83, 3), (77, .aload_n 0, 1), (78, .iload_n 3, 1), (79, .iconst 1, 1), (80, .iload_n 1, 1), (81, .bipush 10, 2), (83, .irem, 1), (84, .invokevirtual 83, 3), (87, .aload_n 0, 1), (88, .iload_n 3, 1), (89, .iconst 2, 1), (90, .iload_n 2, 1), (91, .invokevirtual 83, 3), (94, .aload_n 0, 1), (95, .iload_n 3, 1), (96, .iconst 3, 1), (97, .iconst 0, 1), (98, .invokevirtual 83, 3), (101, .aload_n 0, 1), (102, .iload_n 3, 1), (103, .iconst 4, 1), (104, .iload_n 2, 1), (105, .invokevirtual 83, 3), (108, .iload_n 3, 1), (109, .ireturn, 1)]
theorem tX10_good_0_ok : ∀ q ∈ tX10_good_0, decode cX10_good q.1 = .ok (q.2.1, q.2.2) := by decide +kernel
theorem pX10_good_0 : At cX10_good 0 (.iload_n 1) 1 1 := ⟨tX10_good_0_ok (0, .iload_n 1, 1) (List.mem_of_getElem? (i := 0) rfl), rfl⟩
theorem pX10_good_1 : At cX10_good 1 (.i2l) 1 2 := ⟨tX10_good_0_ok (1, .i2l, 1) (List.mem_of_getElem? (i := 1) rfl), rfl⟩
theorem pX10_good_2 : At cX10_good 2 (.lconst 0) 1 3 := ⟨tX10_good_0_ok (2, .lconst 0, 1) (List.mem_of_getElem? (i := 2) rfl), rfl⟩
theorem pX10_good_3 : At cX10_good 3 (.ldc2_w 75) 3 6 := ⟨tX10_good_0_ok (3, .ldc2_w 75, 3) (List.mem_of_getElem? (i := 3) rfl), rfl⟩
theorem pX10_good_6 : At cX10_good 6 (.invokestatic 53) 3 9 := ⟨tX10_good_0_ok (6, .invokestatic 53, 3) (List.mem_of_getElem? (i := 4) rfl), rfl⟩
theorem pX10_good_9 : Bt cX10_good 9 (.ifCond .eq 15) 15 24 12 := ⟨tX10_good_0_ok (9, .ifCond .eq 15, 3) (List.mem_of_getElem? (i := 5) rfl), by decide, rfl⟩
theorem pX10_good_12 : At cX10_good 12 (.iload_n 2) 1 13 := ⟨tX10_good_0_ok (12, .iload_n 2, 1) (List.mem_of_getElem? (i := 6) rfl), rfl⟩
theorem pX10_good_13 : At cX10_good 13 (.i2l) 1 14 := ⟨tX10_good_0_ok (13, .i2l, 1) (List.mem_of_getElem? (i := 7) rfl), rfl⟩
theorem pX10_good_14 : At cX10_good 14 (.lconst 0) 1 15 := ⟨tX10_good_0_ok (14, .lconst 0, 1) (List.mem_of_getElem? (i := 8) rfl), rfl⟩
theorem pX10_good_15 : At cX10_good 15 (.ldc2_w 77) 3 18 := ⟨tX10_good_0_ok (15, .ldc2_w 77, 3) (List.mem_of_getElem? (i := 9) rfl), rfl⟩
theorem pX10_good_18 : At cX10_good 18 (.invokestatic 53) 3 21 := ⟨tX10_good_0_ok (18, .invokestatic 53, 3) (List.mem_of_getElem? (i := 10) rfl), rfl⟩
theorem pX10_good_21 : Bt cX10_good 21 (.ifCond .ne 9) 9 30 24 := ⟨tX10_good_0_ok (21, .ifCond .ne 9, 3) (List.mem_of_getElem? (i := 11) rfl), by decide, rfl⟩
theorem pX10_good_24 : At cX10_good 24 (.aload_n 0) 1 25 := ⟨tX10_good_0_ok (24, .aload_n 0, 1) (List.mem_of_getElem? (i := 12) rfl), rfl⟩
theorem pX10_good_25 : At cX10_good 25 (.iconst 1) 1 26 := ⟨tX10_good_0_ok (25, .iconst 1, 1) (List.mem_of_getElem? (i := 13) rfl), rfl⟩
theorem pX10_good_26 : At cX10_good 26 (.invokevirtual 79) 3 29 := ⟨tX10_good_0_ok (26, .invokevirtual 79, 3) (List.mem_of_getElem? (i := 14) rfl), rfl⟩
theorem pX10_good_29 : At cX10_good 29 (.ireturn) 1 30 := ⟨tX10_good_0_ok (29, .ireturn, 1) (List.mem_of_getElem? (i := 15) rfl), rfl⟩
theorem pX10_good_30 : At cX10_good 30 (.aload_n 0) 1 31 := ⟨tX10_good_0_ok (30, .aload_n 0, 1) (List.mem_of_getElem? (i := 16) rfl), rfl⟩
theorem pX10_good_31 : At cX10_good 31 (.getfield 9) 3 34 := ⟨tX10_good_0_ok (31, .getfield 9, 3) (List.mem_of_getElem? (i := 17) rfl), rfl⟩
theorem pX10_good_34 : At cX10_good 34 (.bipush 6) 2 36 := ⟨tX10_good_0_ok (34, .bipush 6, 2) (List.mem_of_getElem? (i := 18) rfl), rfl⟩
theorem pX10_good_36 : At cX10_good 36 (.iaload) 1 37 := ⟨tX10_good_0_ok (36, .iaload, 1) (List.mem_of_getElem? (i := 19) rfl), rfl⟩
theorem pX10_good_37 : At cX10_good 37 (.bipush 8) 2 39 := ⟨tX10_good_0_ok (37, .bipush 8, 2) (List.mem_of_getElem? (i := 20) rfl), rfl⟩
theorem pX10_good_39 : Bt cX10_good 39 (.if_icmp .ne 9) 9 48 42 := ⟨tX10_good_0_ok (39, .if_icmp .ne 9, 3) (List.mem_of_getElem? (i := 21) rfl), by decide, rfl⟩
theorem pX10_good_42 : At cX10_good 42 (.aload_n 0) 1 43 := ⟨tX10_good_0_ok (42, .aload_n 0, 1) (List.mem_of_getElem? (i := 22) rfl), rfl⟩
theorem pX10_good_43 : At cX10_good 43 (.iconst 4) 1 44 := ⟨tX10_good_0_ok (43, .iconst 4, 1) (List.mem_of_getElem? (i := 23) rfl), rfl⟩
theorem pX10_good_44 : At cX10_good 44 (.invokevirtual 79) 3 47 := ⟨tX10_good_0_ok (44, .invokevirtual 79, 3) (List.mem_of_getElem? (i := 24) rfl), rfl⟩
theorem pX10_good_47 : At cX10_good 47 (.ireturn) 1 48 := ⟨tX10_good_0_ok (47, .ireturn, 1) (List.mem_of_getElem? (i := 25) rfl), rfl⟩
theorem pX10_good_48 : At cX10_good 48 (.aload_n 0) 1 49 := ⟨tX10_good_0_ok (48, .aload_n 0, 1) (List.mem_of_getElem? (i := 26) rfl), rfl⟩
theorem pX10_good_49 : At cX10_good 49 (.getfield 9) 3 52 := ⟨tX10_good_0_ok (49, .getfield 9, 3) (List.mem_of_getElem? (i := 27) rfl), rfl⟩
theorem pX10_good_52 : At cX10_good 52 (.bipush 6) 2 54 := ⟨tX10_good_0_ok (52, .bipush 6, 2) (List.mem_of_getElem? (i := 28) rfl), rfl⟩
theorem pX10_good_54 : At cX10_good 54 (.iaload) 1 55 := ⟨tX10_good_0_ok (54, .iaload, 1) (List.mem_of_getElem? (i := 29) rfl), rfl⟩
theorem pX10_good_55 : At cX10_good 55 (.istore_n 3) 1 56 := ⟨tX10_good_0_ok (55, .istore_n 3, 1) (List.mem_of_getElem? (i := 30) rfl), rfl⟩
theorem pX10_good_56 : At cX10_good 56 (.aload_n 0) 1 57 := ⟨tX10_good_0_ok (56, .aload_n 0, 1) (List.mem_of_getElem? (i := 31) rfl), rfl⟩
theorem pX10_good_57 : At cX10_good 57 (.getfield 9) 3 60 := ⟨tX10_good_0_ok (57, .getfield 9, 3) (List.mem_of_getElem? (i := 32) rfl), rfl⟩
theorem pX10_good_60 : At cX10_good 60 (.bipush 6) 2 62 := ⟨tX10_good_0_ok (60, .bipush 6, 2) (List.mem_of_getElem? (i := 33) rfl), rfl⟩
theorem pX10_good_62 : At cX10_good 62 (.dup2) 1 63 := ⟨tX10_good_0_ok (62, .dup2, 1) (List.mem_of_getElem? (i := 34) rfl), rfl⟩
theorem pX10_good_63 : At cX10_good 63 (.iaload) 1 64 := ⟨tX10_good_0_ok (63, .iaload, 1) (List.mem_of_getElem? (i := 35) rfl), rfl⟩
theorem pX10_good_64 : At cX10_good 64 (.iconst 1) 1 65 := ⟨tX10_good_0_ok (64, .iconst 1, 1) (List.mem_of_getElem? (i := 36) rfl), rfl⟩
theorem pX10_good_65 : At cX10_good 65 (.iadd) 1 66 := ⟨tX10_good_0_ok (65, .iadd, 1) (List.mem_of_getElem? (i := 37) rfl), rfl⟩
theorem pX10_good_66 : At cX10_good 66 (.iastore) 1 67 := ⟨tX10_good_0_ok (66, .iastore, 1) (List.mem_of_getElem? (i := 38) rfl), rfl⟩
theorem pX10_good_67 : At cX10_good 67 (.aload_n 0) 1 68 := ⟨tX10_good_0_ok (67, .aload_n 0, 1) (List.mem_of_getElem? (i := 39) rfl), rfl⟩
theorem pX10_good_68 : At cX10_good 68 (.iload_n 3) 1 69 := ⟨tX10_good_0_ok (68, .iload_n 3, 1) (List.mem_of_getElem? (i := 40) rfl), rfl⟩
theorem pX10_good_69 : At cX10_good 69 (.iconst 0) 1 70 := ⟨tX10_good_0_ok (69, .iconst 0, 1) (List.mem_of_getElem? (i := 41) rfl), rfl⟩
theorem pX10_good_70 : At cX10_good 70 (.iload_n 1) 1 71 := ⟨tX10_good_0_ok (70, .iload_n 1, 1) (List.mem_of_getElem? (i := 42) rfl), rfl⟩
theorem pX10_good_71 : At cX10_good 71 (.bipush 10) 2 73 := ⟨tX10_good_0_ok (71, .bipush 10, 2) (List.mem_of_getElem? (i := 43) rfl), rfl⟩
theorem pX10_good_73 : At cX10_good 73 (.idiv) 1 74 := ⟨tX10_good_0_ok (73, .idiv, 1) (List.mem_of_getElem? (i := 44) rfl), rfl⟩
theorem pX10_good_74 : At cX10_good 74 (.invokevirtual 83) 3 77 := ⟨tX10_good_0_ok (74, .invokevirtual 83, 3) (List.mem_of_getElem? (i := 45) rfl), rfl⟩
theorem pX10_good_77 : At cX10_good 77 (.aload_n 0) 1 78 := ⟨tX10_good_0_ok (77, .aload_n 0, 1) (List.mem_of_getElem? (i := 46) rfl), rfl⟩
theorem pX10_good_78 : At cX10_good 78 (.iload_n 3) 1 79 := ⟨tX10_good_0_ok (78, .iload_n 3, 1) (List.mem_of_getElem? (i := 47) rfl), rfl⟩
theorem pX10_good_79 : At cX10_good 79 (.iconst 1) 1 80 := ⟨tX10_good_0_ok (79, .iconst 1, 1) (List.mem_of_getElem? (i := 48) rfl), rfl⟩
theorem pX10_good_80 : At cX10_good 80 (.iload_n 1) 1 81 := ⟨tX10_good_0_ok (80, .iload_n 1, 1) (List.mem_of_getElem? (i := 49) rfl), rfl⟩
theorem pX10_good_81 : At cX10_good 81 (.bipush 10) 2 83 := ⟨tX10_good_0_ok (81, .bipush 10, 2) (List.mem_of_getElem? (i := 50) rfl), rfl⟩
theorem pX10_good_83 : At cX10_good 83 (.irem) 1 84 := ⟨tX10_good_0_ok (83, .irem, 1) (List.mem_of_getElem? (i := 51) rfl), rfl⟩
theorem pX10_good_84 : At cX10_good 84 (.invokevirtual 83) 3 87 := ⟨tX10_good_0_ok (84, .invokevirtual 83, 3) (List.mem_of_getElem? (i := 52) rfl), rfl⟩
theorem pX10_good_87 : At cX10_good 87 (.aload_n 0) 1 88 := ⟨tX10_good_0_ok (87, .aload_n 0, 1) (List.mem_of_getElem? (i := 53) rfl), rfl⟩
theorem pX10_good_88 : At cX10_good 88 (.iload_n 3) 1 89 := ⟨tX10_good_0_ok (88, .iload_n 3, 1) (List.mem_of_getElem? (i := 54) rfl), rfl⟩
theorem pX10_good_89 : At cX10_good 89 (.iconst 2) 1 90 := ⟨tX10_good_0_ok (89, .iconst 2, 1) (List.mem_of_getElem? (i := 55) rfl), rfl⟩
theorem pX10_good_90 : At cX10_good 90 (.iload_n 2) 1 91 := ⟨tX10_good_0_ok (90, .iload_n 2, 1) (List.mem_of_getElem? (i := 56) rfl), rfl⟩
theorem pX10_good_91 : At cX10_good 91 (.invokevirtual 83) 3 94 := ⟨tX10_good_0_ok (91, .invokevirtual 83, 3) (List.mem_of_getElem? (i := 57) rfl), rfl⟩
theorem pX10_good_94 : At cX10_good 94 (.aload_n 0) 1 95 := ⟨tX10_good_0_ok (94, .aload_n 0, 1) (List.mem_of_getElem? (i := 58) rfl), rfl⟩
theorem pX10_good_95 : At cX10_good 95 (.iload_n 3) 1 96 := ⟨tX10_good_0_ok (95, .iload_n 3, 1) (List.mem_of_getElem? (i := 59) rfl), rfl⟩
theorem pX10_good_96 : At cX10_good 96 (.iconst 3) 1 97 := ⟨tX10_good_0_ok (96, .iconst 3, 1) (List.mem_of_getElem? (i := 60) rfl), rfl⟩
theorem pX10_good_97 : At cX10_good 97 (.iconst 0) 1 98 := ⟨tX10_good_0_ok (97, .iconst 0, 1) (List.mem_of_getElem? (i := 61) rfl), rfl⟩
theorem pX10_good_98 : At cX10_good 98 (.invokevirtual 83) 3 101 := ⟨tX10_good_0_ok (98, .invokevirtual 83, 3) (List.mem_of_getElem? (i := 62) rfl), rfl⟩
theorem pX10_good_101 : At cX10_good 101 (.aload_n 0) 1 102 := ⟨tX10_good_0_ok (101, .aload_n 0, 1) (List.mem_of_getElem? (i := 63) rfl), rfl⟩
theorem pX10_good_102 : At cX10_good 102 (.iload_n 3) 1 103 := ⟨tX10_good_0_ok (102, .iload_n 3, 1) (List.mem_of_getElem? (i := 64) rfl), rfl⟩
theorem pX10_good_103 : At cX10_good 103 (.iconst 4) 1 104 := ⟨tX10_good_0_ok (103, .iconst 4, 1) (List.mem_of_getElem? (i := 65) rfl), rfl⟩
theorem pX10_good_104 : At cX10_good 104 (.iload_n 2) 1 105 := ⟨tX10_good_0_ok (104, .iload_n 2, 1) (List.mem_of_getElem? (i := 66) rfl), rfl⟩
theorem pX10_good_105 : At cX10_good 105 (.invokevirtual 83) 3 108 := ⟨tX10_good_0_ok (105, .invokevirtual 83, 3) (List.mem_of_getElem? (i := 67) rfl), rfl⟩
theorem pX10_good_108 : At cX10_good 108 (.iload_n 3) 1 109 := ⟨tX10_good_0_ok (108, .iload_n 3, 1) (List.mem_of_getElem? (i := 68) rfl), rfl⟩
theorem pX10_good_109 : At cX10_good 109 (.ireturn) 1 110 := ⟨tX10_good_0_ok (109, .ireturn, 1) (List.mem_of_getElem? (i := 69) rfl), rfl⟩
def tX10_looksAhead_0 : List (Nat × Instr × Nat) := [(0, .aload_n 0, 1), (1, .iload_n 1, 1), (2, .iconst 0, 1), (3, .invokevirtual 61, 3), (6, .istore_n 2, 1), (7, .aload_n 0, 1), (8, .iload_n 1, 1), (9, .iconst 1, 1), (10, .invokevirtual 61, 3), (13, .istore_n 3, 1), (14, .aload_n 0, 1), (15, .iload_n 1, 1), (16, .iconst 3, 1), (17, .invokevirtual 61, 3), (20, .aload_n 0, 1), (21, .iload_n 1, 1), (22, .invokevirtual 94, 3), (25, .iadd, 1), (26, .istore 4, 2), (28, .iload_n 2, 1), (29, .iload_n 3, 1), (30, .invokestatic 97, 3), (33, .istore 5, 2), (35, .iload 4, 2), (37, .ifCond .le 23, 3), (40, .iload 4, 2), (42, .iload 5, 2), (44, .iload 4, 2), (46, .if_icmp .ge 8, 3), (49, .iload 5, 2), (51, .goto 5, 3), (54, .iload 4, 2), (56, .isub, 1), (57, .goto 22, 3), (60, .iload 4, 2), (62, .iload 5, 2), (64, .iload 4, 2), (66, .ineg, 1), (67, .if_icmp .ge 8, 3), (70, .iload 5, 2), (72, .goto 6, 3), (75, .iload 4, 2), (77, .ineg, 1), (78, .iadd, 1), (79, .istore 4, 2), (81, .iload 4, 2), (83, .bipush (-9), 2), (85, .bipush 9, 2), (87, .invokestatic 112, 3), (90, .istore 4, 2), (92, .aload_n 0, 1), (93, .iload_n 1, 1), (94, .iconst 2, 1), (95, .invokevirtual 61, 3), (98, .iload 4, 2), (100, .iadd, 1), (101, .istore 6, 2), (103, .iload_n 2, 1), (104, .iload_n 3, 1), (105, .invokestatic 100, 3), (108, .istore 7, 2), (110, .iload 6, 2), (112, .iconst 0, 1), (113, .bipush 40, 2), (115, .invokestatic 112, 3), (118, .aload_n 0, 1), (119, .iload_n 1, 1), (120, .iconst 4, 1), (121, .invokevirtual 61, 3), (124, .iload 7, 2), (126, .isub, 1), (127, .aload_n 0, 1), (128, .iload_n 1, 1), (129, .iconst 4, 1), (130, .invokevirtual 61, 3), (133, .iload 7, 2), (135, .iadd, 1), (136, .invokestatic 112, 3), (139, .istore 8, 2), (141, .aload_n 0, 1), (142, .iload 8, 2), (144, .putfield 195, 3), (147, .aload_n 0, 1), (148, .iload 8, 2), (150, .iload 6, 2), (152, .if_icmp .ne 8, 3), (155, .iload 4, 2), (157, .goto 4, 3), (160, .iconst 0, 1), (161, .putfield 198, 3), (164, .return_, 1)]
theorem tX10_looksAhead_0_ok : ∀ q ∈ tX10_looksAhead_0, decode cX10_looksAhead q.1 = .ok (q.2.1, q.2.2) := by decide +kernel
theorem pX10_looksAhead_0 : At cX10_looksAhead 0 (.aload_n 0) 1 1 := ⟨tX10_looksAhead_0_ok (0, .aload_n 0, 1) (List.mem_of_getElem? (i := 0) rfl), rfl⟩
theorem pX10_looksAhead_1 : At cX10_looksAhead 1 (.iload_n 1) 1 2 := ⟨tX10_looksAhead_0_ok (1, .iload_n 1, 1) (List.mem_of_getElem? (i := 1) rfl), rfl⟩
theorem pX10_looksAhead_2 : At cX10_looksAhead 2 (.iconst 0) 1 3 := ⟨tX10_looksAhead_0_ok (2, .iconst 0, 1) (List.mem_of_getElem? (i := 2) rfl), rfl⟩
theorem pX10_looksAhead_3 : At cX10_looksAhead 3 (.invokevirtual 61) 3 6 := ⟨tX10_looksAhead_0_ok (3, .invokevirtual 61, 3) (List.mem_of_getElem? (i := 3) rfl), rfl⟩
theorem pX10_looksAhead_6 : At cX10_looksAhead 6 (.istore_n 2) 1 7 := ⟨tX10_looksAhead_0_ok (6, .istore_n 2, 1) (List.mem_of_getElem? (i := 4) rfl), rfl⟩
theorem pX10_looksAhead_7 : At cX10_looksAhead 7 (.aload_n 0) 1 8 := ⟨tX10_looksAhead_0_ok (7, .aload_n 0, 1) (List.mem_of_getElem? (i := 5) rfl), rfl⟩
theorem pX10_looksAhead_8 : At cX10_looksAhead 8 (.iload_n 1) 1 9 := ⟨tX10_looksAhead_0_ok (8, .iload_n 1, 1) (List.mem_of_getElem? (i := 6) rfl), rfl⟩
theorem pX10_looksAhead_9 : At cX10_looksAhead 9 (.iconst 1) 1 10 := ⟨tX10_looksAhead_0_ok (9, .iconst 1, 1) (List.mem_of_getElem? (i := 7) rfl), rfl⟩
theorem pX10_looksAhead_10 : At cX10_looksAhead 10 (.invokevirtual 61) 3 13 := ⟨tX10_looksAhead_0_ok (10, .invokevirtual 61, 3) (List.mem_of_getElem? (i := 8) rfl), rfl⟩
theorem pX10_looksAhead_13 : At cX10_looksAhead 13 (.istore_n 3) 1 14 := ⟨tX10_looksAhead_0_ok (13, .istore_n 3, 1) (List.mem_of_getElem? (i := 9) rfl), rfl⟩
theorem pX10_looksAhead_14 : At cX10_looksAhead 14 (.aload_n 0) 1 15 := ⟨tX10_looksAhead_0_ok (14, .aload_n 0, 1) (List.mem_of_getElem? (i := 10) rfl), rfl⟩
theorem pX10_looksAhead_15 : At cX10_looksAhead 15 (.iload_n 1) 1 16 := ⟨tX10_looksAhead_0_ok (15, .iload_n 1, 1) (List.mem_of_getElem? (i := 11) rfl), rfl⟩
theorem pX10_looksAhead_16 : At cX10_looksAhead 16 (.iconst 3) 1 17 := ⟨tX10_looksAhead_0_ok (16, .iconst 3, 1) (List.mem_of_getElem? (i := 12) rfl), rfl⟩
theorem pX10_looksAhead_17 : At cX10_looksAhead 17 (.invokevirtual 61) 3 20 := ⟨tX10_looksAhead_0_ok (17, .invokevirtual 61, 3) (List.mem_of_getElem? (i := 13) rfl), rfl⟩
theorem pX10_looksAhead_20 : At cX10_looksAhead 20 (.aload_n 0) 1 21 := ⟨tX10_looksAhead_0_ok (20, .aload_n 0, 1) (List.mem_of_getElem? (i := 14) rfl), rfl⟩
theorem pX10_looksAhead_21 : At cX10_looksAhead 21 (.iload_n 1) 1 22 := ⟨tX10_looksAhead_0_ok (21, .iload_n 1, 1) (List.mem_of_getElem? (i := 15) rfl), rfl⟩
theorem pX10_looksAhead_22 : At cX10_looksAhead 22 (.invokevirtual 94) 3 25 := ⟨tX10_looksAhead_0_ok (22, .invokevirtual 94, 3) (List.mem_of_getElem? (i := 16) rfl), rfl⟩
theorem pX10_looksAhead_25 : At cX10_looksAhead 25 (.iadd) 1 26 := ⟨tX10_looksAhead_0_ok (25, .iadd, 1) (List.mem_of_getElem? (i := 17) rfl), rfl⟩
theorem pX10_looksAhead_26 : At cX10_looksAhead 26 (.istore 4) 2 28 := ⟨tX10_looksAhead_0_ok (26, .istore 4, 2) (List.mem_of_getElem? (i := 18) rfl), rfl⟩
theorem pX10_looksAhead_28 : At cX10_looksAhead 28 (.iload_n 2) 1 29 := ⟨tX10_looksAhead_0_ok (28, .iload_n 2, 1) (List.mem_of_getElem? (i := 19) rfl), rfl⟩
theorem pX10_looksAhead_29 : At cX10_looksAhead 29 (.iload_n 3) 1 30 := ⟨tX10_looksAhead_0_ok (29, .iload_n 3, 1) (List.mem_of_getElem? (i := 20) rfl), rfl⟩
theorem pX10_looksAhead_30 : At cX10_looksAhead 30 (.invokestatic 97) 3 33 := ⟨tX10_looksAhead_0_ok (30, .invokestatic 97, 3) (List.mem_of_getElem? (i := 21) rfl), rfl⟩
theorem pX10_looksAhead_33 : At cX10_looksAhead 33 (.istore 5) 2 35 := ⟨tX10_looksAhead_0_ok (33, .istore 5, 2) (List.mem_of_getElem? (i := 22) rfl), rfl⟩
theorem pX10_looksAhead_35 : At cX10_looksAhead 35 (.iload 4) 2 37 := ⟨tX10_looksAhead_0_ok (35, .iload 4, 2) (List.mem_of_getElem? (i := 23) rfl), rfl⟩
theorem pX10_looksAhead_37 : Bt cX10_looksAhead 37 (.ifCond .le 23) 23 60 40 := ⟨tX10_looksAhead_0_ok (37, .ifCond .le 23, 3) (List.mem_of_getElem? (i := 24) rfl), by decide, rfl⟩
theorem pX10_looksAhead_40 : At cX10_looksAhead 40 (.iload 4) 2 42 := ⟨tX10_looksAhead_0_ok (40, .iload 4, 2) (List.mem_of_getElem? (i := 25) rfl), rfl⟩
theorem pX10_looksAhead_42 : At cX10_looksAhead 42 (.iload 5) 2 44 := ⟨tX10_looksAhead_0_ok (42, .iload 5, 2) (List.mem_of_getElem? (i := 26) rfl), rfl⟩
theorem pX10_looksAhead_44 : At cX10_looksAhead 44 (.iload 4) 2 46 := ⟨tX10_looksAhead_0_ok (44, .iload 4, 2) (List.mem_of_getElem? (i := 27) rfl), rfl⟩
theorem pX10_looksAhead_46 : Bt cX10_looksAhead 46 (.if_icmp .ge 8) 8 54 49 := ⟨tX10_looksAhead_0_ok (46, .if_icmp .ge 8, 3) (List.mem_of_getElem? (i := 28) rfl), by decide, rfl⟩
theorem pX10_looksAhead_49 : At cX10_looksAhead 49 (.iload 5) 2 51 := ⟨tX10_looksAhead_0_ok (49, .iload 5, 2) (List.mem_of_getElem? (i := 29) rfl), rfl⟩
theorem pX10_looksAhead_51 : Bt cX10_looksAhead 51 (.goto 5) 5 56 54 := ⟨tX10_looksAhead_0_ok (51, .goto 5, 3) (List.mem_of_getElem? (i := 30) rfl), by decide, rfl⟩
theorem pX10_looksAhead_54 : At cX10_looksAhead 54 (.iload 4) 2 56 := ⟨tX10_looksAhead_0_ok (54, .iload 4, 2) (List.mem_of_getElem? (i := 31) rfl), rfl⟩
theorem pX10_looksAhead_56 : At cX10_looksAhead 56 (.isub) 1 57 := ⟨tX10_looksAhead_0_ok (56, .isub, 1) (List.mem_of_getElem? (i := 32) rfl), rfl⟩
theorem pX10_looksAhead_57 : Bt cX10_looksAhead 57 (.goto 22) 22 79 60 := ⟨tX10_looksAhead_0_ok (57, .goto 22, 3) (List.mem_of_getElem? (i := 33) rfl), by decide, rfl⟩
theorem pX10_looksAhead_60 : At cX10_looksAhead 60 (.iload 4) 2 62 := ⟨tX10_looksAhead_0_ok (60, .iload 4, 2) (List.mem_of_getElem? (i := 34) rfl), rfl⟩
theorem pX10_looksAhead_62 : At cX10_looksAhead 62 (.iload 5) 2 64 := ⟨tX10_looksAhead_0_ok (62, .iload 5, 2) (List.mem_of_getElem? (i := 35) rfl), rfl⟩
theorem pX10_looksAhead_64 : At cX10_looksAhead 64 (.iload 4) 2 66 := ⟨tX10_looksAhead_0_ok (64, .iload 4, 2) (List.mem_of_getElem? (i := 36) rfl), rfl⟩
theorem pX10_looksAhead_66 : At cX10_looksAhead 66 (.ineg) 1 67 := ⟨tX10_looksAhead_0_ok (66, .ineg, 1) (List.mem_of_getElem? (i := 37) rfl), rfl⟩
theorem pX10_looksAhead_67 : Bt cX10_looksAhead 67 (.if_icmp .ge 8) 8 75 70 := ⟨tX10_looksAhead_0_ok (67, .if_icmp .ge 8, 3) (List.mem_of_getElem? (i := 38) rfl), by decide, rfl⟩
theorem pX10_looksAhead_70 : At cX10_looksAhead 70 (.iload 5) 2 72 := ⟨tX10_looksAhead_0_ok (70, .iload 5, 2) (List.mem_of_getElem? (i := 39) rfl), rfl⟩
theorem pX10_looksAhead_72 : Bt cX10_looksAhead 72 (.goto 6) 6 78 75 := ⟨tX10_looksAhead_0_ok (72, .goto 6, 3) (List.mem_of_getElem? (i := 40) rfl), by decide, rfl⟩
theorem pX10_looksAhead_75 : At cX10_looksAhead 75 (.iload 4) 2 77 := ⟨tX10_looksAhead_0_ok (75, .iload 4, 2) (List.mem_of_getElem? (i := 41) rfl), rfl⟩
theorem pX10_looksAhead_77 : At cX10_looksAhead 77 (.ineg) 1 78 := ⟨tX10_looksAhead_0_ok (77, .ineg, 1) (List.mem_of_getElem? (i := 42) rfl), rfl⟩
theorem pX10_looksAhead_78 : At cX10_looksAhead 78 (.iadd) 1 79 := ⟨tX10_looksAhead_0_ok (78, .iadd, 1) (List.mem_of_getElem? (i := 43) rfl), rfl⟩
theorem pX10_looksAhead_79 : At cX10_looksAhead 79 (.istore 4) 2 81 := ⟨tX10_looksAhead_0_ok (79, .istore 4, 2) (List.mem_of_getElem? (i := 44) rfl), rfl⟩
theorem pX10_looksAhead_81 : At cX10_looksAhead 81 (.iload 4) 2 83 := ⟨tX10_looksAhead_0_ok (81, .iload 4, 2) (List.mem_of_getElem? (i := 45) rfl), rfl⟩
theorem pX10_looksAhead_83 : At cX10_looksAhead 83 (.bipush (-9)) 2 85 := ⟨tX10_looksAhead_0_ok (83, .bipush (-9), 2) (List.mem_of_getElem? (i := 46) rfl), rfl⟩
theorem pX10_looksAhead_85 : At cX10_looksAhead 85 (.bipush 9) 2 87 := ⟨tX10_looksAhead_0_ok (85, .bipush 9, 2) (List.mem_of_getElem? (i := 47) rfl), rfl⟩
theorem pX10_looksAhead_87 : At cX10_looksAhead 87 (.invokestatic 112) 3 90 := ⟨tX10_looksAhead_0_ok (87, .invokestatic 112, 3) (List.mem_of_getElem? (i := 48) rfl), rfl⟩
theorem pX10_looksAhead_90 : At cX10_looksAhead 90 (.istore 4) 2 92 := ⟨tX10_looksAhead_0_ok (90, .istore 4, 2) (List.mem_of_getElem? (i := 49) rfl), rfl⟩
theorem pX10_looksAhead_92 : At cX10_looksAhead 92 (.aload_n 0) 1 93 := ⟨tX10_looksAhead_0_ok (92, .aload_n 0, 1) (List.mem_of_getElem? (i := 50) rfl), rfl⟩
theorem pX10_looksAhead_93 : At cX10_looksAhead 93 (.iload_n 1) 1 94 := ⟨tX10_looksAhead_0_ok (93, .iload_n 1, 1) (List.mem_of_getElem? (i := 51) rfl), rfl⟩
theorem pX10_looksAhead_94 : At cX10_looksAhead 94 (.iconst 2) 1 95 := ⟨tX10_looksAhead_0_ok (94, .iconst 2, 1) (List.mem_of_getElem? (i := 52) rfl), rfl⟩
theorem pX10_looksAhead_95 : At cX10_looksAhead 95 (.invokevirtual 61) 3 98 := ⟨tX10_looksAhead_0_ok (95, .invokevirtual 61, 3) (List.mem_of_getElem? (i := 53) rfl), rfl⟩
theorem pX10_looksAhead_98 : At cX10_looksAhead 98 (.iload 4) 2 100 := ⟨tX10_looksAhead_0_ok (98, .iload 4, 2) (List.mem_of_getElem? (i := 54) rfl), rfl⟩
theorem pX10_looksAhead_100 : At cX10_looksAhead 100 (.iadd) 1 101 := ⟨tX10_looksAhead_0_ok (100, .iadd, 1) (List.mem_of_getElem? (i := 55) rfl), rfl⟩
theorem pX10_looksAhead_101 : At cX10_looksAhead 101 (.istore 6) 2 103 := ⟨tX10_looksAhead_0_ok (101, .istore 6, 2) (List.mem_of_getElem? (i := 56) rfl), rfl⟩
theorem pX10_looksAhead_103 : At cX10_looksAhead 103 (.iload_n 2) 1 104 := ⟨tX10_looksAhead_0_ok (103, .iload_n 2, 1) (List.mem_of_getElem? (i := 57) rfl), rfl⟩
theorem pX10_looksAhead_104 : At cX10_looksAhead 104 (.iload_n 3) 1 105 := ⟨tX10_looksAhead_0_ok (104, .iload_n 3, 1) (List.mem_of_getElem? (i := 58) rfl), rfl⟩
theorem pX10_looksAhead_105 : At cX10_looksAhead 105 (.invokestatic 100) 3 108 := ⟨tX10_looksAhead_0_ok (105, .invokestatic 100, 3) (List.mem_of_getElem? (i := 59) rfl), rfl⟩
theorem pX10_looksAhead_108 : At cX10_looksAhead 108 (.istore 7) 2 110 := ⟨tX10_looksAhead_0_ok (108, .istore 7, 2) (List.mem_of_getElem? (i := 60) rfl), rfl⟩
theorem pX10_looksAhead_110 : At cX10_looksAhead 110 (.iload 6) 2 112 := ⟨tX10_looksAhead_0_ok (110, .iload 6, 2) (List.mem_of_getElem? (i := 61) rfl), rfl⟩
theorem pX10_looksAhead_112 : At cX10_looksAhead 112 (.iconst 0) 1 113 := ⟨tX10_looksAhead_0_ok (112, .iconst 0, 1) (List.mem_of_getElem? (i := 62) rfl), rfl⟩
theorem pX10_looksAhead_113 : At cX10_looksAhead 113 (.bipush 40) 2 115 := ⟨tX10_looksAhead_0_ok (113, .bipush 40, 2) (List.mem_of_getElem? (i := 63) rfl), rfl⟩
theorem pX10_looksAhead_115 : At cX10_looksAhead 115 (.invokestatic 112) 3 118 := ⟨tX10_looksAhead_0_ok (115, .invokestatic 112, 3) (List.mem_of_getElem? (i := 64) rfl), rfl⟩
theorem pX10_looksAhead_118 : At cX10_looksAhead 118 (.aload_n 0) 1 119 := ⟨tX10_looksAhead_0_ok (118, .aload_n 0, 1) (List.mem_of_getElem? (i := 65) rfl), rfl⟩
theorem pX10_looksAhead_119 : At cX10_looksAhead 119 (.iload_n 1) 1 120 := ⟨tX10_looksAhead_0_ok (119, .iload_n 1, 1) (List.mem_of_getElem? (i := 66) rfl), rfl⟩
theorem pX10_looksAhead_120 : At cX10_looksAhead 120 (.iconst 4) 1 121 := ⟨tX10_looksAhead_0_ok (120, .iconst 4, 1) (List.mem_of_getElem? (i := 67) rfl), rfl⟩
theorem pX10_looksAhead_121 : At cX10_looksAhead 121 (.invokevirtual 61) 3 124 := ⟨tX10_looksAhead_0_ok (121, .invokevirtual 61, 3) (List.mem_of_getElem? (i := 68) rfl), rfl⟩
theorem pX10_looksAhead_124 : At cX10_looksAhead 124 (.iload 7) 2 126 := ⟨tX10_looksAhead_0_ok (124, .iload 7, 2) (List.mem_of_getElem? (i := 69) rfl), rfl⟩
theorem pX10_looksAhead_126 : At cX10_looksAhead 126 (.isub) 1 127 := ⟨tX10_looksAhead_0_ok (126, .isub, 1) (List.mem_of_getElem? (i := 70) rfl), rfl⟩
theorem pX10_looksAhead_127 : At cX10_looksAhead 127 (.aload_n 0) 1 128 := ⟨tX10_looksAhead_0_ok (127, .aload_n 0, 1) (List.mem_of_getElem? (i := 71) rfl), rfl⟩
theorem pX10_looksAhead_128 : At cX10_looksAhead 128 (.iload_n 1) 1 129 := ⟨tX10_looksAhead_0_ok (128, .iload_n 1, 1) (List.mem_of_getElem? (i := 72) rfl), rfl⟩
theorem pX10_looksAhead_129 : At cX10_looksAhead 129 (.iconst 4) 1 130 := ⟨tX10_looksAhead_0_ok (129, .iconst 4, 1) (List.mem_of_getElem? (i := 73) rfl), rfl⟩
theorem pX10_looksAhead_130 : At cX10_looksAhead 130 (.invokevirtual 61) 3 133 := ⟨tX10_looksAhead_0_ok (130, .invokevirtual 61, 3) (List.mem_of_getElem? (i := 74) rfl), rfl⟩
theorem pX10_looksAhead_133 : At cX10_looksAhead 133 (.iload 7) 2 135 := ⟨tX10_looksAhead_0_ok (133, .iload 7, 2) (List.mem_of_getElem? (i := 75) rfl), rfl⟩
theorem pX10_looksAhead_135 : At cX10_looksAhead 135 (.iadd) 1 136 := ⟨tX10_looksAhead_0_ok (135, .iadd, 1) (List.mem_of_getElem? (i := 76) rfl), rfl⟩
theorem pX10_looksAhead_136 : At cX10_looksAhead 136 (.invokestatic 112) 3 139 := ⟨tX10_looksAhead_0_ok (136, .invokestatic 112, 3) (List.mem_of_getElem? (i := 77) rfl), rfl⟩
theorem pX10_looksAhead_139 : At cX10_looksAhead 139 (.istore 8) 2 141 := ⟨tX10_looksAhead_0_ok (139, .istore 8, 2) (List.mem_of_getElem? (i := 78) rfl), rfl⟩
theorem pX10_looksAhead_141 : At cX10_looksAhead 141 (.aload_n 0) 1 142 := ⟨tX10_looksAhead_0_ok (141, .aload_n 0, 1) (List.mem_of_getElem? (i := 79) rfl), rfl⟩
theorem pX10_looksAhead_142 : At cX10_looksAhead 142 (.iload 8) 2 144 := ⟨tX10_looksAhead_0_ok (142, .iload 8, 2) (List.mem_of_getElem? (i := 80) rfl), rfl⟩
theorem pX10_looksAhead_144 : At cX10_looksAhead 144 (.putfield 195) 3 147 := ⟨tX10_looksAhead_0_ok (144, .putfield 195, 3) (List.mem_of_getElem? (i := 81) rfl), rfl⟩
theorem pX10_looksAhead_147 : At cX10_looksAhead 147 (.aload_n 0) 1 148 := ⟨tX10_looksAhead_0_ok (147, .aload_n 0, 1) (List.mem_of_getElem? (i := 82) rfl), rfl⟩
theorem pX10_looksAhead_148 : At cX10_looksAhead 148 (.iload 8) 2 150 := ⟨tX10_looksAhead_0_ok (148, .iload 8, 2) (List.mem_of_getElem? (i := 83) rfl), rfl⟩
theorem pX10_looksAhead_150 : At cX10_looksAhead 150 (.iload 6) 2 152 := ⟨tX10_looksAhead_0_ok (150, .iload 6, 2) (List.mem_of_getElem? (i := 84) rfl), rfl⟩
theorem pX10_looksAhead_152 : Bt cX10_looksAhead 152 (.if_icmp .ne 8) 8 160 155 := ⟨tX10_looksAhead_0_ok (152, .if_icmp .ne 8, 3) (List.mem_of_getElem? (i := 85) rfl), by decide, rfl⟩
theorem pX10_looksAhead_155 : At cX10_looksAhead 155 (.iload 4) 2 157 := ⟨tX10_looksAhead_0_ok (155, .iload 4, 2) (List.mem_of_getElem? (i := 86) rfl), rfl⟩
theorem pX10_looksAhead_157 : Bt cX10_looksAhead 157 (.goto 4) 4 161 160 := ⟨tX10_looksAhead_0_ok (157, .goto 4, 3) (List.mem_of_getElem? (i := 87) rfl), by decide, rfl⟩
theorem pX10_looksAhead_160 : At cX10_looksAhead 160 (.iconst 0) 1 161 := ⟨tX10_looksAhead_0_ok (160, .iconst 0, 1) (List.mem_of_getElem? (i := 88) rfl), rfl⟩
theorem pX10_looksAhead_161 : At cX10_looksAhead 161 (.putfield 198) 3 164 := ⟨tX10_looksAhead_0_ok (161, .putfield 198, 3) (List.mem_of_getElem? (i := 89) rfl), rfl⟩
theorem pX10_looksAhead_164 : At cX10_looksAhead 164 (.return_) 1 165 := ⟨tX10_looksAhead_0_ok (164, .return_, 1) (List.mem_of_getElem? (i := 90) rfl), rfl⟩
def tX10_isAtRest_0 : List (Nat × Instr × Nat) := [(0, .aload_n 0, 1), (1, .iload_n 1, 1), (2, .invokevirtual 201, 3), (5, .aload_n 0, 1), (6, .getfield 195, 3), (9, .aload_n 0, 1), (10, .iload_n 1, 1), (11, .iconst 2, 1), (12, .invokevirtual 61, 3), (15, .if_icmp .ne 20, 3), (18, .aload_n 0, 1), (19, .getfield 198, 3), (22, .aload_n 0, 1), (23, .iload_n 1, 1), (24, .iconst 3, 1), (25, .invokevirtual 61, 3), (28, .if_icmp .ne 7, 3), (31, .iconst 1, 1), (32, .goto 4, 3), (35, .iconst 0, 1), (36, .ireturn, 1)]
theorem tX10_isAtRest_0_ok : ∀ q ∈ tX10_isAtRest_0, decode cX10_isAtRest q.1 = .ok (q.2.1, q.2.2) := by decide +kernel
theorem pX10_isAtRest_0 : At cX10_isAtRest 0 (.aload_n 0) 1 1 := ⟨tX10_isAtRest_0_ok (0, .aload_n 0, 1) (List.mem_of_getElem? (i := 0) rfl), rfl⟩
theorem pX10_isAtRest_1 : At cX10_isAtRest 1 (.iload_n 1) 1 2 := ⟨tX10_isAtRest_0_ok (1, .iload_n 1, 1) (List.mem_of_getElem? (i := 1) rfl), rfl⟩
theorem pX10_isAtRest_2 : At cX10_isAtRest 2 (.invokevirtual 201) 3 5 := ⟨tX10_isAtRest_0_ok (2, .invokevirtual 201, 3) (List.mem_of_getElem? (i := 2) rfl), rfl⟩
theorem pX10_isAtRest_5 : At cX10_isAtRest 5 (.aload_n 0) 1 6 := ⟨tX10_isAtRest_0_ok (5, .aload_n 0, 1) (List.mem_of_getElem? (i := 3) rfl), rfl⟩
theorem pX10_isAtRest_6 : At cX10_isAtRest 6 (.getfield 195) 3 9 := ⟨tX10_isAtRest_0_ok (6, .getfield 195, 3) (List.mem_of_getElem? (i := 4) rfl), rfl⟩
theorem pX10_isAtRest_9 : At cX10_isAtRest 9 (.aload_n 0) 1 10 := ⟨tX10_isAtRest_0_ok (9, .aload_n 0, 1) (List.mem_of_getElem? (i := 5) rfl), rfl⟩
theorem pX10_isAtRest_10 : At cX10_isAtRest 10 (.iload_n 1) 1 11 := ⟨tX10_isAtRest_0_ok (10, .iload_n 1, 1) (List.mem_of_getElem? (i := 6) rfl), rfl⟩
theorem pX10_isAtRest_11 : At cX10_isAtRest 11 (.iconst 2) 1 12 := ⟨tX10_isAtRest_0_ok (11, .iconst 2, 1) (List.mem_of_getElem? (i := 7) rfl), rfl⟩
theorem pX10_isAtRest_12 : At cX10_isAtRest 12 (.invokevirtual 61) 3 15 := ⟨tX10_isAtRest_0_ok (12, .invokevirtual 61, 3) (List.mem_of_getElem? (i := 8) rfl), rfl⟩
theorem pX10_isAtRest_15 : Bt cX10_isAtRest 15 (.if_icmp .ne 20) 20 35 18 := ⟨tX10_isAtRest_0_ok (15, .if_icmp .ne 20, 3) (List.mem_of_getElem? (i := 9) rfl), by decide, rfl⟩
theorem pX10_isAtRest_18 : At cX10_isAtRest 18 (.aload_n 0) 1 19 := ⟨tX10_isAtRest_0_ok (18, .aload_n 0, 1) (List.mem_of_getElem? (i := 10) rfl), rfl⟩
theorem pX10_isAtRest_19 : At cX10_isAtRest 19 (.getfield 198) 3 22 := ⟨tX10_isAtRest_0_ok (19, .getfield 198, 3) (List.mem_of_getElem? (i := 11) rfl), rfl⟩
theorem pX10_isAtRest_22 : At cX10_isAtRest 22 (.aload_n 0) 1 23 := ⟨tX10_isAtRest_0_ok (22, .aload_n 0, 1) (List.mem_of_getElem? (i := 12) rfl), rfl⟩
theorem pX10_isAtRest_23 : At cX10_isAtRest 23 (.iload_n 1) 1 24 := ⟨tX10_isAtRest_0_ok (23, .iload_n 1, 1) (List.mem_of_getElem? (i := 13) rfl), rfl⟩
theorem pX10_isAtRest_24 : At cX10_isAtRest 24 (.iconst 3) 1 25 := ⟨tX10_isAtRest_0_ok (24, .iconst 3, 1) (List.mem_of_getElem? (i := 14) rfl), rfl⟩
theorem pX10_isAtRest_25 : At cX10_isAtRest 25 (.invokevirtual 61) 3 28 := ⟨tX10_isAtRest_0_ok (25, .invokevirtual 61, 3) (List.mem_of_getElem? (i := 15) rfl), rfl⟩
theorem pX10_isAtRest_28 : Bt cX10_isAtRest 28 (.if_icmp .ne 7) 7 35 31 := ⟨tX10_isAtRest_0_ok (28, .if_icmp .ne 7, 3) (List.mem_of_getElem? (i := 16) rfl), by decide, rfl⟩
theorem pX10_isAtRest_31 : At cX10_isAtRest 31 (.iconst 1) 1 32 := ⟨tX10_isAtRest_0_ok (31, .iconst 1, 1) (List.mem_of_getElem? (i := 17) rfl), rfl⟩
theorem pX10_isAtRest_32 : Bt cX10_isAtRest 32 (.goto 4) 4 36 35 := ⟨tX10_isAtRest_0_ok (32, .goto 4, 3) (List.mem_of_getElem? (i := 18) rfl), by decide, rfl⟩
theorem pX10_isAtRest_35 : At cX10_isAtRest 35 (.iconst 0) 1 36 := ⟨tX10_isAtRest_0_ok (35, .iconst 0, 1) (List.mem_of_getElem? (i := 19) rfl), rfl⟩
theorem pX10_isAtRest_36 : At cX10_isAtRest 36 (.ireturn) 1 37 := ⟨tX10_isAtRest_0_ok (36, .ireturn, 1) (List.mem_of_getElem? (i := 20) rfl), rfl⟩
def tX10_ofGood_0 : List (Nat × Instr × Nat) := [(0, .aload_n 0, 1), (1, .iload_n 1, 1), (2, .invokevirtual 87, 3), (5, .ifCond .ne 9, 3), (8, .aload_n 0, 1), (9, .iconst 1, 1), (10, .invokevirtual 79, 3), (13, .ireturn, 1), (14, .iload_n 2, 1), (15, .tableswitch 118 0 9 #[53, 53, 53, 53, 53, 60, 66, 72, 88, 104], 53), (68, .aload_n 0, 1), (69, .iload_n 1, 1), (70, .iload_n 2, 1), (71, .invokevirtual 61, 3), (74, .ireturn, 1), (75, .aload_n 0, 1), (76, .iload_n 1, 1), (77, .invokevirtual 91, 3), (80, .ireturn, 1), (81, .aload_n 0, 1), (82, .iload_n 1, 1), (83, .invokevirtual 94, 3), (86, .ireturn, 1), (87, .aload_n 0, 1), (88, .iload_n 1, 1), (89, .iconst 0, 1), (90, .invokevirtual 61, 3), (93, .aload_n 0, 1), (94, .iload_n 1, 1), (95, .iconst 1, 1), (96, .invokevirtual 61, 3), (99, .invokestatic 97, 3), (102, .ireturn, 1), (103, .aload_n 0, 1), (104, .iload_n 1, 1), (105, .iconst 0, 1), (106, .invokevirtual 61, 3), (109, .aload_n 0, 1), (110, .iload_n 1, 1), (111, .iconst 1, 1), (112, .invokevirtual 61, 3), (115, .invokestatic 100, 3), (118, .ireturn, 1), (119, .aload_n 0, 1), (120, .iload_n 1, 1), (121, .invokevirtual 103, 3), (124, .ifCond .eq 7, 3), (127, .iconst 1, 1), (128, .goto 4, 3), (131, .iconst 0, 1), (132, .ireturn, 1), (133, .aload_n 0, 1), (134, .iconst 1, 1), (135, .invokevirtual 79, 3), (138, .ireturn, 1)]
theorem tX10_ofGood_0_ok : ∀ q ∈ tX10_ofGood_0, decode cX10_ofGood q.1 = .ok (q.2.1, q.2.2) := by decide +kernel
theorem pX10_ofGood_0 : At cX10_ofGood 0 (.aload_n 0) 1 1 := ⟨tX10_ofGood_0_ok (0, .aload_n 0, 1) (List.mem_of_getElem? (i := 0) rfl), rfl⟩
theorem pX10_ofGood_1 : At cX10_ofGood 1 (.iload_n 1) 1 2 := ⟨tX10_ofGood_0_ok (1, .iload_n 1, 1) (List.mem_of_getElem? (i := 1) rfl), rfl⟩
theorem pX10_ofGood_2 : At cX10_ofGood 2 (.invokevirtual 87) 3 5 := ⟨tX10_ofGood_0_ok (2, .invokevirtual 87, 3) (List.mem_of_getElem? (i := 2) rfl), rfl⟩
theorem pX10_ofGood_5 : Bt cX10_ofGood 5 (.ifCond .ne 9) 9 14 8 := ⟨tX10_ofGood_0_ok (5, .ifCond .ne 9, 3) (List.mem_of_getElem? (i := 3) rfl), by decide, rfl⟩
theorem pX10_ofGood_8 : At cX10_ofGood 8 (.aload_n 0) 1 9 := ⟨tX10_ofGood_0_ok (8, .aload_n 0, 1) (List.mem_of_getElem? (i := 4) rfl), rfl⟩
theorem pX10_ofGood_9 : At cX10_ofGood 9 (.iconst 1) 1 10 := ⟨tX10_ofGood_0_ok (9, .iconst 1, 1) (List.mem_of_getElem? (i := 5) rfl), rfl⟩
theorem pX10_ofGood_10 : At cX10_ofGood 10 (.invokevirtual 79) 3 13 := ⟨tX10_ofGood_0_ok (10, .invokevirtual 79, 3) (List.mem_of_getElem? (i := 6) rfl), rfl⟩
theorem pX10_ofGood_13 : At cX10_ofGood 13 (.ireturn) 1 14 := ⟨tX10_ofGood_0_ok (13, .ireturn, 1) (List.mem_of_getElem? (i := 7) rfl), rfl⟩
theorem pX10_ofGood_14 : At cX10_ofGood 14 (.iload_n 2) 1 15 := ⟨tX10_ofGood_0_ok (14, .iload_n 2, 1) (List.mem_of_getElem? (i := 8) rfl), rfl⟩
theorem pX10_ofGood_15 : decode cX10_ofGood 15 = .ok (.tableswitch 118 0 9 #[53, 53, 53, 53, 53, 60, 66, 72, 88, 104], 53) := tX10_ofGood_0_ok (15, .tableswitch 118 0 9 #[53, 53, 53, 53, 53, 60, 66, 72, 88, 104], 53) (List.mem_of_getElem? (i := 9) rfl)
theorem pX10_ofGood_68 : At cX10_ofGood 68 (.aload_n 0) 1 69 := ⟨tX10_ofGood_0_ok (68, .aload_n 0, 1) (List.mem_of_getElem? (i := 10) rfl), rfl⟩
theorem pX10_ofGood_69 : At cX10_ofGood 69 (.iload_n 1) 1 70 := ⟨tX10_ofGood_0_ok (69, .iload_n 1, 1) (List.mem_of_getElem? (i := 11) rfl), rfl⟩
theorem pX10_ofGood_70 : At cX10_ofGood 70 (.iload_n 2) 1 71 := ⟨tX10_ofGood_0_ok (70, .iload_n 2, 1) (List.mem_of_getElem? (i := 12) rfl), rfl⟩
theorem pX10_ofGood_71 : At cX10_ofGood 71 (.invokevirtual 61) 3 74 := ⟨tX10_ofGood_0_ok (71, .invokevirtual 61, 3) (List.mem_of_getElem? (i := 13) rfl), rfl⟩
theorem pX10_ofGood_74 : At cX10_ofGood 74 (.ireturn) 1 75 := ⟨tX10_ofGood_0_ok (74, .ireturn, 1) (List.mem_of_getElem? (i := 14) rfl), rfl⟩
theorem pX10_ofGood_75 : At cX10_ofGood 75 (.aload_n 0) 1 76 := ⟨tX10_ofGood_0_ok (75, .aload_n 0, 1) (List.mem_of_getElem? (i := 15) rfl), rfl⟩
theorem pX10_ofGood_76 : At cX10_ofGood 76 (.iload_n 1) 1 77 := ⟨tX10_ofGood_0_ok (76, .iload_n 1, 1) (List.mem_of_getElem? (i := 16) rfl), rfl⟩
theorem pX10_ofGood_77 : At cX10_ofGood 77 (.invokevirtual 91) 3 80 := ⟨tX10_ofGood_0_ok (77, .invokevirtual 91, 3) (List.mem_of_getElem? (i := 17) rfl), rfl⟩
theorem pX10_ofGood_80 : At cX10_ofGood 80 (.ireturn) 1 81 := ⟨tX10_ofGood_0_ok (80, .ireturn, 1) (List.mem_of_getElem? (i := 18) rfl), rfl⟩
theorem pX10_ofGood_81 : At cX10_ofGood 81 (.aload_n 0) 1 82 := ⟨tX10_ofGood_0_ok (81, .aload_n 0, 1) (List.mem_of_getElem? (i := 19) rfl), rfl⟩
theorem pX10_ofGood_82 : At cX10_ofGood 82 (.iload_n 1) 1 83 := ⟨tX10_ofGood_0_ok (82, .iload_n 1, 1) (List.mem_of_getElem? (i := 20) rfl), rfl⟩
theorem pX10_ofGood_83 : At cX10_ofGood 83 (.invokevirtual 94) 3 86 := ⟨tX10_ofGood_0_ok (83, .invokevirtual 94, 3) (List.mem_of_getElem? (i := 21) rfl), rfl⟩
theorem pX10_ofGood_86 : At cX10_ofGood 86 (.ireturn) 1 87 := ⟨tX10_ofGood_0_ok (86, .ireturn, 1) (List.mem_of_getElem? (i := 22) rfl), rfl⟩
theorem pX10_ofGood_87 : At cX10_ofGood 87 (.aload_n 0) 1 88 := ⟨tX10_ofGood_0_ok (87, .aload_n 0, 1) (List.mem_of_getElem? (i := 23) rfl), rfl⟩
theorem pX10_ofGood_88 : At cX10_ofGood 88 (.iload_n 1) 1 89 := ⟨tX10_ofGood_0_ok (88, .iload_n 1, 1) (List.mem_of_getElem? (i := 24) rfl), rfl⟩
theorem pX10_ofGood_89 : At cX10_ofGood 89 (.iconst 0) 1 90 := ⟨tX10_ofGood_0_ok (89, .iconst 0, 1) (List.mem_of_getElem? (i := 25) rfl), rfl⟩
theorem pX10_ofGood_90 : At cX10_ofGood 90 (.invokevirtual 61) 3 93 := ⟨tX10_ofGood_0_ok (90, .invokevirtual 61, 3) (List.mem_of_getElem? (i := 26) rfl), rfl⟩
theorem pX10_ofGood_93 : At cX10_ofGood 93 (.aload_n 0) 1 94 := ⟨tX10_ofGood_0_ok (93, .aload_n 0, 1) (List.mem_of_getElem? (i := 27) rfl), rfl⟩
theorem pX10_ofGood_94 : At cX10_ofGood 94 (.iload_n 1) 1 95 := ⟨tX10_ofGood_0_ok (94, .iload_n 1, 1) (List.mem_of_getElem? (i := 28) rfl), rfl⟩
theorem pX10_ofGood_95 : At cX10_ofGood 95 (.iconst 1) 1 96 := ⟨tX10_ofGood_0_ok (95, .iconst 1, 1) (List.mem_of_getElem? (i := 29) rfl), rfl⟩
theorem pX10_ofGood_96 : At cX10_ofGood 96 (.invokevirtual 61) 3 99 := ⟨tX10_ofGood_0_ok (96, .invokevirtual 61, 3) (List.mem_of_getElem? (i := 30) rfl), rfl⟩
theorem pX10_ofGood_99 : At cX10_ofGood 99 (.invokestatic 97) 3 102 := ⟨tX10_ofGood_0_ok (99, .invokestatic 97, 3) (List.mem_of_getElem? (i := 31) rfl), rfl⟩
theorem pX10_ofGood_102 : At cX10_ofGood 102 (.ireturn) 1 103 := ⟨tX10_ofGood_0_ok (102, .ireturn, 1) (List.mem_of_getElem? (i := 32) rfl), rfl⟩
theorem pX10_ofGood_103 : At cX10_ofGood 103 (.aload_n 0) 1 104 := ⟨tX10_ofGood_0_ok (103, .aload_n 0, 1) (List.mem_of_getElem? (i := 33) rfl), rfl⟩
theorem pX10_ofGood_104 : At cX10_ofGood 104 (.iload_n 1) 1 105 := ⟨tX10_ofGood_0_ok (104, .iload_n 1, 1) (List.mem_of_getElem? (i := 34) rfl), rfl⟩
theorem pX10_ofGood_105 : At cX10_ofGood 105 (.iconst 0) 1 106 := ⟨tX10_ofGood_0_ok (105, .iconst 0, 1) (List.mem_of_getElem? (i := 35) rfl), rfl⟩
theorem pX10_ofGood_106 : At cX10_ofGood 106 (.invokevirtual 61) 3 109 := ⟨tX10_ofGood_0_ok (106, .invokevirtual 61, 3) (List.mem_of_getElem? (i := 36) rfl), rfl⟩
theorem pX10_ofGood_109 : At cX10_ofGood 109 (.aload_n 0) 1 110 := ⟨tX10_ofGood_0_ok (109, .aload_n 0, 1) (List.mem_of_getElem? (i := 37) rfl), rfl⟩
theorem pX10_ofGood_110 : At cX10_ofGood 110 (.iload_n 1) 1 111 := ⟨tX10_ofGood_0_ok (110, .iload_n 1, 1) (List.mem_of_getElem? (i := 38) rfl), rfl⟩
theorem pX10_ofGood_111 : At cX10_ofGood 111 (.iconst 1) 1 112 := ⟨tX10_ofGood_0_ok (111, .iconst 1, 1) (List.mem_of_getElem? (i := 39) rfl), rfl⟩
theorem pX10_ofGood_112 : At cX10_ofGood 112 (.invokevirtual 61) 3 115 := ⟨tX10_ofGood_0_ok (112, .invokevirtual 61, 3) (List.mem_of_getElem? (i := 40) rfl), rfl⟩
theorem pX10_ofGood_115 : At cX10_ofGood 115 (.invokestatic 100) 3 118 := ⟨tX10_ofGood_0_ok (115, .invokestatic 100, 3) (List.mem_of_getElem? (i := 41) rfl), rfl⟩
theorem pX10_ofGood_118 : At cX10_ofGood 118 (.ireturn) 1 119 := ⟨tX10_ofGood_0_ok (118, .ireturn, 1) (List.mem_of_getElem? (i := 42) rfl), rfl⟩
theorem pX10_ofGood_119 : At cX10_ofGood 119 (.aload_n 0) 1 120 := ⟨tX10_ofGood_0_ok (119, .aload_n 0, 1) (List.mem_of_getElem? (i := 43) rfl), rfl⟩
theorem pX10_ofGood_120 : At cX10_ofGood 120 (.iload_n 1) 1 121 := ⟨tX10_ofGood_0_ok (120, .iload_n 1, 1) (List.mem_of_getElem? (i := 44) rfl), rfl⟩
theorem pX10_ofGood_121 : At cX10_ofGood 121 (.invokevirtual 103) 3 124 := ⟨tX10_ofGood_0_ok (121, .invokevirtual 103, 3) (List.mem_of_getElem? (i := 45) rfl), rfl⟩
theorem pX10_ofGood_124 : Bt cX10_ofGood 124 (.ifCond .eq 7) 7 131 127 := ⟨tX10_ofGood_0_ok (124, .ifCond .eq 7, 3) (List.mem_of_getElem? (i := 46) rfl), by decide, rfl⟩
theorem pX10_ofGood_127 : At cX10_ofGood 127 (.iconst 1) 1 128 := ⟨tX10_ofGood_0_ok (127, .iconst 1, 1) (List.mem_of_getElem? (i := 47) rfl), rfl⟩
theorem pX10_ofGood_128 : Bt cX10_ofGood 128 (.goto 4) 4 132 131 := ⟨tX10_ofGood_0_ok (128, .goto 4, 3) (List.mem_of_getElem? (i := 48) rfl), by decide, rfl⟩
theorem pX10_ofGood_131 : At cX10_ofGood 131 (.iconst 0) 1 132 := ⟨tX10_ofGood_0_ok (131, .iconst 0, 1) (List.mem_of_getElem? (i := 49) rfl), rfl⟩
theorem pX10_ofGood_132 : At cX10_ofGood 132 (.ireturn) 1 133 := ⟨tX10_ofGood_0_ok (132, .ireturn, 1) (List.mem_of_getElem? (i := 50) rfl), rfl⟩
theorem pX10_ofGood_133 : At cX10_ofGood 133 (.aload_n 0) 1 134 := ⟨tX10_ofGood_0_ok (133, .aload_n 0, 1) (List.mem_of_getElem? (i := 51) rfl), rfl⟩
theorem pX10_ofGood_134 : At cX10_ofGood 134 (.iconst 1) 1 135 := ⟨tX10_ofGood_0_ok (134, .iconst 1, 1) (List.mem_of_getElem? (i := 52) rfl), rfl⟩
theorem pX10_ofGood_135 : At cX10_ofGood 135 (.invokevirtual 79) 3 138 := ⟨tX10_ofGood_0_ok (135, .invokevirtual 79, 3) (List.mem_of_getElem? (i := 53) rfl), rfl⟩
theorem pX10_ofGood_138 : At cX10_ofGood 138 (.ireturn) 1 139 := ⟨tX10_ofGood_0_ok (138, .ireturn, 1) (List.mem_of_getElem? (i := 54) rfl), rfl⟩
def tX10_become_0 : List (Nat × Instr × Nat) := [(0, .aload_n 0, 1), (1, .iload_n 1, 1), (2, .invokevirtual 87, 3), (5, .ifCond .eq 15, 3), (8, .iload_n 2, 1), (9, .i2l, 1), (10, .lconst 0, 1), (11, .ldc2_w 75, 3), (14, .invokestatic 53, 3), (17, .ifCond .ne 9, 3), (20, .aload_n 0, 1), (21, .iconst 1, 1), (22, .invokevirtual 79, 3), (25, .ireturn, 1), (26, .aload_n 0, 1), (27, .iload_n 1, 1), (28, .iconst 0, 1), (29, .invokevirtual 61, 3), (32, .istore_n 3, 1), (33, .aload_n 0, 1), (34, .iload_n 1, 1), (35, .iconst 0, 1), (36, .iload_n 2, 1), (37, .bipush 10, 2), (39, .idiv, 1), (40, .invokevirtual 83, 3), (43, .aload_n 0, 1), (44, .iload_n 1, 1), (45, .iconst 1, 1), (46, .iload_n 2, 1), (47, .bipush 10, 2), (49, .irem, 1), (50, .invokevirtual 83, 3), (53, .iload_n 3, 1), (54, .ireturn, 1)]
theorem tX10_become_0_ok : ∀ q ∈ tX10_become_0, decode cX10_become q.1 = .ok (q.2.1, q.2.2) := by decide +kernel
theorem pX10_become_0 : At cX10_become 0 (.aload_n 0) 1 1 := ⟨tX10_become_0_ok (0, .aload_n 0, 1) (List.mem_of_getElem? (i := 0) rfl), rfl⟩
theorem pX10_become_1 : At cX10_become 1 (.iload_n 1) 1 2 := ⟨tX10_become_0_ok (1, .iload_n 1, 1) (List.mem_of_getElem? (i := 1) rfl), rfl⟩
theorem pX10_become_2 : At cX10_become 2 (.invokevirtual 87) 3 5 := ⟨tX10_become_0_ok (2, .invokevirtual 87, 3) (List.mem_of_getElem? (i := 2) rfl), rfl⟩
theorem pX10_become_5 : Bt cX10_become 5 (.ifCond .eq 15) 15 20 8 := ⟨tX10_become_0_ok (5, .ifCond .eq 15, 3) (List.mem_of_getElem? (i := 3) rfl), by decide, rfl⟩
theorem pX10_become_8 : At cX10_become 8 (.iload_n 2) 1 9 := ⟨tX10_become_0_ok (8, .iload_n 2, 1) (List.mem_of_getElem? (i := 4) rfl), rfl⟩
theorem pX10_become_9 : At cX10_become 9 (.i2l) 1 10 := ⟨tX10_become_0_ok (9, .i2l, 1) (List.mem_of_getElem? (i := 5) rfl), rfl⟩
theorem pX10_become_10 : At cX10_become 10 (.lconst 0) 1 11 := ⟨tX10_become_0_ok (10, .lconst 0, 1) (List.mem_of_getElem? (i := 6) rfl), rfl⟩
theorem pX10_become_11 : At cX10_become 11 (.ldc2_w 75) 3 14 := ⟨tX10_become_0_ok (11, .ldc2_w 75, 3) (List.mem_of_getElem? (i := 7) rfl), rfl⟩
theorem pX10_become_14 : At cX10_become 14 (.invokestatic 53) 3 17 := ⟨tX10_become_0_ok (14, .invokestatic 53, 3) (List.mem_of_getElem? (i := 8) rfl), rfl⟩
theorem pX10_become_17 : Bt cX10_become 17 (.ifCond .ne 9) 9 26 20 := ⟨tX10_become_0_ok (17, .ifCond .ne 9, 3) (List.mem_of_getElem? (i := 9) rfl), by decide, rfl⟩
theorem pX10_become_20 : At cX10_become 20 (.aload_n 0) 1 21 := ⟨tX10_become_0_ok (20, .aload_n 0, 1) (List.mem_of_getElem? (i := 10) rfl), rfl⟩
theorem pX10_become_21 : At cX10_become 21 (.iconst 1) 1 22 := ⟨tX10_become_0_ok (21, .iconst 1, 1) (List.mem_of_getElem? (i := 11) rfl), rfl⟩
theorem pX10_become_22 : At cX10_become 22 (.invokevirtual 79) 3 25 := ⟨tX10_become_0_ok (22, .invokevirtual 79, 3) (List.mem_of_getElem? (i := 12) rfl), rfl⟩
theorem pX10_become_25 : At cX10_become 25 (.ireturn) 1 26 := ⟨tX10_become_0_ok (25, .ireturn, 1) (List.mem_of_getElem? (i := 13) rfl), rfl⟩
theorem pX10_become_26 : At cX10_become 26 (.aload_n 0) 1 27 := ⟨tX10_become_0_ok (26, .aload_n 0, 1) (List.mem_of_getElem? (i := 14) rfl), rfl⟩
theorem pX10_become_27 : At cX10_become 27 (.iload_n 1) 1 28 := ⟨tX10_become_0_ok (27, .iload_n 1, 1) (List.mem_of_getElem? (i := 15) rfl), rfl⟩
theorem pX10_become_28 : At cX10_become 28 (.iconst 0) 1 29 := ⟨tX10_become_0_ok (28, .iconst 0, 1) (List.mem_of_getElem? (i := 16) rfl), rfl⟩
theorem pX10_become_29 : At cX10_become 29 (.invokevirtual 61) 3 32 := ⟨tX10_become_0_ok (29, .invokevirtual 61, 3) (List.mem_of_getElem? (i := 17) rfl), rfl⟩
theorem pX10_become_32 : At cX10_become 32 (.istore_n 3) 1 33 := ⟨tX10_become_0_ok (32, .istore_n 3, 1) (List.mem_of_getElem? (i := 18) rfl), rfl⟩
theorem pX10_become_33 : At cX10_become 33 (.aload_n 0) 1 34 := ⟨tX10_become_0_ok (33, .aload_n 0, 1) (List.mem_of_getElem? (i := 19) rfl), rfl⟩
theorem pX10_become_34 : At cX10_become 34 (.iload_n 1) 1 35 := ⟨tX10_become_0_ok (34, .iload_n 1, 1) (List.mem_of_getElem? (i := 20) rfl), rfl⟩
theorem pX10_become_35 : At cX10_become 35 (.iconst 0) 1 36 := ⟨tX10_become_0_ok (35, .iconst 0, 1) (List.mem_of_getElem? (i := 21) rfl), rfl⟩
theorem pX10_become_36 : At cX10_become 36 (.iload_n 2) 1 37 := ⟨tX10_become_0_ok (36, .iload_n 2, 1) (List.mem_of_getElem? (i := 22) rfl), rfl⟩
theorem pX10_become_37 : At cX10_become 37 (.bipush 10) 2 39 := ⟨tX10_become_0_ok (37, .bipush 10, 2) (List.mem_of_getElem? (i := 23) rfl), rfl⟩
theorem pX10_become_39 : At cX10_become 39 (.idiv) 1 40 := ⟨tX10_become_0_ok (39, .idiv, 1) (List.mem_of_getElem? (i := 24) rfl), rfl⟩
theorem pX10_become_40 : At cX10_become 40 (.invokevirtual 83) 3 43 := ⟨tX10_become_0_ok (40, .invokevirtual 83, 3) (List.mem_of_getElem? (i := 25) rfl), rfl⟩
theorem pX10_become_43 : At cX10_become 43 (.aload_n 0) 1 44 := ⟨tX10_become_0_ok (43, .aload_n 0, 1) (List.mem_of_getElem? (i := 26) rfl), rfl⟩
theorem pX10_become_44 : At cX10_become 44 (.iload_n 1) 1 45 := ⟨tX10_become_0_ok (44, .iload_n 1, 1) (List.mem_of_getElem? (i := 27) rfl), rfl⟩
theorem pX10_become_45 : At cX10_become 45 (.iconst 1) 1 46 := ⟨tX10_become_0_ok (45, .iconst 1, 1) (List.mem_of_getElem? (i := 28) rfl), rfl⟩
theorem pX10_become_46 : At cX10_become 46 (.iload_n 2) 1 47 := ⟨tX10_become_0_ok (46, .iload_n 2, 1) (List.mem_of_getElem? (i := 29) rfl), rfl⟩
theorem pX10_become_47 : At cX10_become 47 (.bipush 10) 2 49 := ⟨tX10_become_0_ok (47, .bipush 10, 2) (List.mem_of_getElem? (i := 30) rfl), rfl⟩
theorem pX10_become_49 : At cX10_become 49 (.irem) 1 50 := ⟨tX10_become_0_ok (49, .irem, 1) (List.mem_of_getElem? (i := 31) rfl), rfl⟩
theorem pX10_become_50 : At cX10_become 50 (.invokevirtual 83) 3 53 := ⟨tX10_become_0_ok (50, .invokevirtual 83, 3) (List.mem_of_getElem? (i := 32) rfl), rfl⟩
theorem pX10_become_53 : At cX10_become 53 (.iload_n 3) 1 54 := ⟨tX10_become_0_ok (53, .iload_n 3, 1) (List.mem_of_getElem? (i := 33) rfl), rfl⟩
theorem pX10_become_54 : At cX10_become 54 (.ireturn) 1 55 := ⟨tX10_become_0_ok (54, .ireturn, 1) (List.mem_of_getElem? (i := 34) rfl), rfl⟩
def tX10_as_0 : List (Nat × Instr × Nat) := [(0, .aload_n 0, 1), (1, .iload_n 1, 1), (2, .invokevirtual 87, 3), (5, .ifCond .eq 15, 3), (8, .iload_n 2, 1), (9, .i2l, 1), (10, .lconst 0, 1), (11, .ldc2_w 106, 3), (14, .invokestatic 53, 3), (17, .ifCond .ne 9, 3), (20, .aload_n 0, 1), (21, .iconst 1, 1), (22, .invokevirtual 79, 3), (25, .ireturn, 1), (26, .aload_n 0, 1), (27, .iload_n 1, 1), (28, .iconst 0, 1), (29, .invokevirtual 61, 3), (32, .iload_n 2, 1), (33, .invokestatic 108, 3), (36, .ifCond .eq 12, 3), (39, .aload_n 0, 1), (40, .iload_n 1, 1), (41, .iconst 1, 1), (42, .invokevirtual 61, 3), (45, .goto 8, 3), (48, .aload_n 0, 1), (49, .iconst 5, 1), (50, .invokevirtual 79, 3), (53, .ireturn, 1)]
theorem tX10_as_0_ok : ∀ q ∈ tX10_as_0, decode cX10_as q.1 = .ok (q.2.1, q.2.2) := by decide +kernel
theorem pX10_as_0 : At cX10_as 0 (.aload_n 0) 1 1 := ⟨tX10_as_0_ok (0, .aload_n 0, 1) (List.mem_of_getElem? (i := 0) rfl), rfl⟩
theorem pX10_as_1 : At cX10_as 1 (.iload_n 1) 1 2 := ⟨tX10_as_0_ok (1, .iload_n 1, 1) (List.mem_of_getElem? (i := 1) rfl), rfl⟩
theorem pX10_as_2 : At cX10_as 2 (.invokevirtual 87) 3 5 := ⟨tX10_as_0_ok (2, .invokevirtual 87, 3) (List.mem_of_getElem? (i := 2) rfl), rfl⟩
theorem pX10_as_5 : Bt cX10_as 5 (.ifCond .eq 15) 15 20 8 := ⟨tX10_as_0_ok (5, .ifCond .eq 15, 3) (List.mem_of_getElem? (i := 3) rfl), by decide, rfl⟩
theorem pX10_as_8 : At cX10_as 8 (.iload_n 2) 1 9 := ⟨tX10_as_0_ok (8, .iload_n 2, 1) (List.mem_of_getElem? (i := 4) rfl), rfl⟩
theorem pX10_as_9 : At cX10_as 9 (.i2l) 1 10 := ⟨tX10_as_0_ok (9, .i2l, 1) (List.mem_of_getElem? (i := 5) rfl), rfl⟩
theorem pX10_as_10 : At cX10_as 10 (.lconst 0) 1 11 := ⟨tX10_as_0_ok (10, .lconst 0, 1) (List.mem_of_getElem? (i := 6) rfl), rfl⟩
theorem pX10_as_11 : At cX10_as 11 (.ldc2_w 106) 3 14 := ⟨tX10_as_0_ok (11, .ldc2_w 106, 3) (List.mem_of_getElem? (i := 7) rfl), rfl⟩
theorem pX10_as_14 : At cX10_as 14 (.invokestatic 53) 3 17 := ⟨tX10_as_0_ok (14, .invokestatic 53, 3) (List.mem_of_getElem? (i := 8) rfl), rfl⟩
theorem pX10_as_17 : Bt cX10_as 17 (.ifCond .ne 9) 9 26 20 := ⟨tX10_as_0_ok (17, .ifCond .ne 9, 3) (List.mem_of_getElem? (i := 9) rfl), by decide, rfl⟩
theorem pX10_as_20 : At cX10_as 20 (.aload_n 0) 1 21 := ⟨tX10_as_0_ok (20, .aload_n 0, 1) (List.mem_of_getElem? (i := 10) rfl), rfl⟩
theorem pX10_as_21 : At cX10_as 21 (.iconst 1) 1 22 := ⟨tX10_as_0_ok (21, .iconst 1, 1) (List.mem_of_getElem? (i := 11) rfl), rfl⟩
theorem pX10_as_22 : At cX10_as 22 (.invokevirtual 79) 3 25 := ⟨tX10_as_0_ok (22, .invokevirtual 79, 3) (List.mem_of_getElem? (i := 12) rfl), rfl⟩
theorem pX10_as_25 : At cX10_as 25 (.ireturn) 1 26 := ⟨tX10_as_0_ok (25, .ireturn, 1) (List.mem_of_getElem? (i := 13) rfl), rfl⟩
theorem pX10_as_26 : At cX10_as 26 (.aload_n 0) 1 27 := ⟨tX10_as_0_ok (26, .aload_n 0, 1) (List.mem_of_getElem? (i := 14) rfl), rfl⟩
theorem pX10_as_27 : At cX10_as 27 (.iload_n 1) 1 28 := ⟨tX10_as_0_ok (27, .iload_n 1, 1) (List.mem_of_getElem? (i := 15) rfl), rfl⟩
theorem pX10_as_28 : At cX10_as 28 (.iconst 0) 1 29 := ⟨tX10_as_0_ok (28, .iconst 0, 1) (List.mem_of_getElem? (i := 16) rfl), rfl⟩
theorem pX10_as_29 : At cX10_as 29 (.invokevirtual 61) 3 32 := ⟨tX10_as_0_ok (29, .invokevirtual 61, 3) (List.mem_of_getElem? (i := 17) rfl), rfl⟩
theorem pX10_as_32 : At cX10_as 32 (.iload_n 2) 1 33 := ⟨tX10_as_0_ok (32, .iload_n 2, 1) (List.mem_of_getElem? (i := 18) rfl), rfl⟩
theorem pX10_as_33 : At cX10_as 33 (.invokestatic 108) 3 36 := ⟨tX10_as_0_ok (33, .invokestatic 108, 3) (List.mem_of_getElem? (i := 19) rfl), rfl⟩
theorem pX10_as_36 : Bt cX10_as 36 (.ifCond .eq 12) 12 48 39 := ⟨tX10_as_0_ok (36, .ifCond .eq 12, 3) (List.mem_of_getElem? (i := 20) rfl), by decide, rfl⟩
theorem pX10_as_39 : At cX10_as 39 (.aload_n 0) 1 40 := ⟨tX10_as_0_ok (39, .aload_n 0, 1) (List.mem_of_getElem? (i := 21) rfl), rfl⟩
theorem pX10_as_40 : At cX10_as 40 (.iload_n 1) 1 41 := ⟨tX10_as_0_ok (40, .iload_n 1, 1) (List.mem_of_getElem? (i := 22) rfl), rfl⟩
theorem pX10_as_41 : At cX10_as 41 (.iconst 1) 1 42 := ⟨tX10_as_0_ok (41, .iconst 1, 1) (List.mem_of_getElem? (i := 23) rfl), rfl⟩
theorem pX10_as_42 : At cX10_as 42 (.invokevirtual 61) 3 45 := ⟨tX10_as_0_ok (42, .invokevirtual 61, 3) (List.mem_of_getElem? (i := 24) rfl), rfl⟩
theorem pX10_as_45 : Bt cX10_as 45 (.goto 8) 8 53 48 := ⟨tX10_as_0_ok (45, .goto 8, 3) (List.mem_of_getElem? (i := 25) rfl), by decide, rfl⟩
theorem pX10_as_48 : At cX10_as 48 (.aload_n 0) 1 49 := ⟨tX10_as_0_ok (48, .aload_n 0, 1) (List.mem_of_getElem? (i := 26) rfl), rfl⟩
theorem pX10_as_49 : At cX10_as 49 (.iconst 5) 1 50 := ⟨tX10_as_0_ok (49, .iconst 5, 1) (List.mem_of_getElem? (i := 27) rfl), rfl⟩
theorem pX10_as_50 : At cX10_as 50 (.invokevirtual 79) 3 53 := ⟨tX10_as_0_ok (50, .invokevirtual 79, 3) (List.mem_of_getElem? (i := 28) rfl), rfl⟩
theorem pX10_as_53 : At cX10_as 53 (.ireturn) 1 54 := ⟨tX10_as_0_ok (53, .ireturn, 1) (List.mem_of_getElem? (i := 29) rfl), rfl⟩
def tX10_place_0 : List (Nat × Instr × Nat) := [(0, .aload_n 0, 1), (1, .iload_n 1, 1), (2, .invokevirtual 87, 3), (5, .ifCond .eq 15, 3), (8, .iload_n 2, 1), (9, .i2l, 1), (10, .lconst 0, 1), (11, .ldc2_w 77, 3), (14, .invokestatic 53, 3), (17, .ifCond .ne 9, 3), (20, .aload_n 0, 1), (21, .iconst 1, 1), (22, .invokevirtual 79, 3), (25, .ireturn, 1), (26, .aload_n 0, 1), (27, .iload_n 1, 1), (28, .iconst 2, 1), (29, .invokevirtual 61, 3), (32, .istore_n 3, 1), (33, .aload_n 0, 1), (34, .iload_n 1, 1), (35, .iconst 2, 1), (36, .iload_n 2, 1), (37, .invokevirtual 83, 3), (40, .aload_n 0, 1), (41, .iload_n 1, 1), (42, .iconst 4, 1), (43, .iload_n 2, 1), (44, .invokevirtual 83, 3), (47, .aload_n 0, 1), (48, .iload_n 1, 1), (49, .iconst 3, 1), (50, .iconst 0, 1), (51, .invokevirtual 83, 3), (54, .iload_n 3, 1), (55, .ireturn, 1)]
theorem tX10_place_0_ok : ∀ q ∈ tX10_place_0, decode cX10_place q.1 = .ok (q.2.1, q.2.2) := by decide +kernel
theorem pX10_place_0 : At cX10_place 0 (.aload_n 0) 1 1 := ⟨tX10_place_0_ok (0, .aload_n 0, 1) (List.mem_of_getElem? (i := 0) rfl), rfl⟩
theorem pX10_place_1 : At cX10_place 1 (.iload_n 1) 1 2 := ⟨tX10_place_0_ok (1, .iload_n 1, 1) (List.mem_of_getElem? (i := 1) rfl), rfl⟩
theorem pX10_place_2 : At cX10_place 2 (.invokevirtual 87) 3 5 := ⟨tX10_place_0_ok (2, .invokevirtual 87, 3) (List.mem_of_getElem? (i := 2) rfl), rfl⟩
theorem pX10_place_5 : Bt cX10_place 5 (.ifCond .eq 15) 15 20 8 := ⟨tX10_place_0_ok (5, .ifCond .eq 15, 3) (List.mem_of_getElem? (i := 3) rfl), by decide, rfl⟩
theorem pX10_place_8 : At cX10_place 8 (.iload_n 2) 1 9 := ⟨tX10_place_0_ok (8, .iload_n 2, 1) (List.mem_of_getElem? (i := 4) rfl), rfl⟩
theorem pX10_place_9 : At cX10_place 9 (.i2l) 1 10 := ⟨tX10_place_0_ok (9, .i2l, 1) (List.mem_of_getElem? (i := 5) rfl), rfl⟩
theorem pX10_place_10 : At cX10_place 10 (.lconst 0) 1 11 := ⟨tX10_place_0_ok (10, .lconst 0, 1) (List.mem_of_getElem? (i := 6) rfl), rfl⟩
theorem pX10_place_11 : At cX10_place 11 (.ldc2_w 77) 3 14 := ⟨tX10_place_0_ok (11, .ldc2_w 77, 3) (List.mem_of_getElem? (i := 7) rfl), rfl⟩
theorem pX10_place_14 : At cX10_place 14 (.invokestatic 53) 3 17 := ⟨tX10_place_0_ok (14, .invokestatic 53, 3) (List.mem_of_getElem? (i := 8) rfl), rfl⟩
theorem pX10_place_17 : Bt cX10_place 17 (.ifCond .ne 9) 9 26 20 := ⟨tX10_place_0_ok (17, .ifCond .ne 9, 3) (List.mem_of_getElem? (i := 9) rfl), by decide, rfl⟩
theorem pX10_place_20 : At cX10_place 20 (.aload_n 0) 1 21 := ⟨tX10_place_0_ok (20, .aload_n 0, 1) (List.mem_of_getElem? (i := 10) rfl), rfl⟩
theorem pX10_place_21 : At cX10_place 21 (.iconst 1) 1 22 := ⟨tX10_place_0_ok (21, .iconst 1, 1) (List.mem_of_getElem? (i := 11) rfl), rfl⟩
theorem pX10_place_22 : At cX10_place 22 (.invokevirtual 79) 3 25 := ⟨tX10_place_0_ok (22, .invokevirtual 79, 3) (List.mem_of_getElem? (i := 12) rfl), rfl⟩
theorem pX10_place_25 : At cX10_place 25 (.ireturn) 1 26 := ⟨tX10_place_0_ok (25, .ireturn, 1) (List.mem_of_getElem? (i := 13) rfl), rfl⟩
theorem pX10_place_26 : At cX10_place 26 (.aload_n 0) 1 27 := ⟨tX10_place_0_ok (26, .aload_n 0, 1) (List.mem_of_getElem? (i := 14) rfl), rfl⟩
theorem pX10_place_27 : At cX10_place 27 (.iload_n 1) 1 28 := ⟨tX10_place_0_ok (27, .iload_n 1, 1) (List.mem_of_getElem? (i := 15) rfl), rfl⟩
theorem pX10_place_28 : At cX10_place 28 (.iconst 2) 1 29 := ⟨tX10_place_0_ok (28, .iconst 2, 1) (List.mem_of_getElem? (i := 16) rfl), rfl⟩
theorem pX10_place_29 : At cX10_place 29 (.invokevirtual 61) 3 32 := ⟨tX10_place_0_ok (29, .invokevirtual 61, 3) (List.mem_of_getElem? (i := 17) rfl), rfl⟩
theorem pX10_place_32 : At cX10_place 32 (.istore_n 3) 1 33 := ⟨tX10_place_0_ok (32, .istore_n 3, 1) (List.mem_of_getElem? (i := 18) rfl), rfl⟩
theorem pX10_place_33 : At cX10_place 33 (.aload_n 0) 1 34 := ⟨tX10_place_0_ok (33, .aload_n 0, 1) (List.mem_of_getElem? (i := 19) rfl), rfl⟩
theorem pX10_place_34 : At cX10_place 34 (.iload_n 1) 1 35 := ⟨tX10_place_0_ok (34, .iload_n 1, 1) (List.mem_of_getElem? (i := 20) rfl), rfl⟩
theorem pX10_place_35 : At cX10_place 35 (.iconst 2) 1 36 := ⟨tX10_place_0_ok (35, .iconst 2, 1) (List.mem_of_getElem? (i := 21) rfl), rfl⟩
theorem pX10_place_36 : At cX10_place 36 (.iload_n 2) 1 37 := ⟨tX10_place_0_ok (36, .iload_n 2, 1) (List.mem_of_getElem? (i := 22) rfl), rfl⟩
theorem pX10_place_37 : At cX10_place 37 (.invokevirtual 83) 3 40 := ⟨tX10_place_0_ok (37, .invokevirtual 83, 3) (List.mem_of_getElem? (i := 23) rfl), rfl⟩
theorem pX10_place_40 : At cX10_place 40 (.aload_n 0) 1 41 := ⟨tX10_place_0_ok (40, .aload_n 0, 1) (List.mem_of_getElem? (i := 24) rfl), rfl⟩
theorem pX10_place_41 : At cX10_place 41 (.iload_n 1) 1 42 := ⟨tX10_place_0_ok (41, .iload_n 1, 1) (List.mem_of_getElem? (i := 25) rfl), rfl⟩
theorem pX10_place_42 : At cX10_place 42 (.iconst 4) 1 43 := ⟨tX10_place_0_ok (42, .iconst 4, 1) (List.mem_of_getElem? (i := 26) rfl), rfl⟩
theorem pX10_place_43 : At cX10_place 43 (.iload_n 2) 1 44 := ⟨tX10_place_0_ok (43, .iload_n 2, 1) (List.mem_of_getElem? (i := 27) rfl), rfl⟩
theorem pX10_place_44 : At cX10_place 44 (.invokevirtual 83) 3 47 := ⟨tX10_place_0_ok (44, .invokevirtual 83, 3) (List.mem_of_getElem? (i := 28) rfl), rfl⟩
theorem pX10_place_47 : At cX10_place 47 (.aload_n 0) 1 48 := ⟨tX10_place_0_ok (47, .aload_n 0, 1) (List.mem_of_getElem? (i := 29) rfl), rfl⟩
theorem pX10_place_48 : At cX10_place 48 (.iload_n 1) 1 49 := ⟨tX10_place_0_ok (48, .iload_n 1, 1) (List.mem_of_getElem? (i := 30) rfl), rfl⟩
theorem pX10_place_49 : At cX10_place 49 (.iconst 3) 1 50 := ⟨tX10_place_0_ok (49, .iconst 3, 1) (List.mem_of_getElem? (i := 31) rfl), rfl⟩
theorem pX10_place_50 : At cX10_place 50 (.iconst 0) 1 51 := ⟨tX10_place_0_ok (50, .iconst 0, 1) (List.mem_of_getElem? (i := 32) rfl), rfl⟩
theorem pX10_place_51 : At cX10_place 51 (.invokevirtual 83) 3 54 := ⟨tX10_place_0_ok (51, .invokevirtual 83, 3) (List.mem_of_getElem? (i := 33) rfl), rfl⟩
theorem pX10_place_54 : At cX10_place 54 (.iload_n 3) 1 55 := ⟨tX10_place_0_ok (54, .iload_n 3, 1) (List.mem_of_getElem? (i := 34) rfl), rfl⟩
theorem pX10_place_55 : At cX10_place 55 (.ireturn) 1 56 := ⟨tX10_place_0_ok (55, .ireturn, 1) (List.mem_of_getElem? (i := 35) rfl), rfl⟩
def tX10_pushed_0 : List (Nat × Instr × Nat) := [(0, .aload_n 0, 1), (1, .iload_n 1, 1), (2, .iconst 3, 1), (3, .aload_n 0, 1), (4, .iload_n 1, 1), (5, .iconst 3, 1), (6, .invokevirtual 61, 3), (9, .iload_n 2, 1), (10, .iadd, 1), (11, .bipush (-9), 2), (13, .bipush 9, 2), (15, .invokestatic 112, 3), (18, .invokevirtual 83, 3), (21, .aload_n 0, 1), (22, .iload_n 1, 1), (23, .iconst 3, 1), (24, .invokevirtual 61, 3), (27, .ireturn, 1)]
theorem tX10_pushed_0_ok : ∀ q ∈ tX10_pushed_0, decode cX10_pushed q.1 = .ok (q.2.1, q.2.2) := by decide +kernel
theorem pX10_pushed_0 : At cX10_pushed 0 (.aload_n 0) 1 1 := ⟨tX10_pushed_0_ok (0, .aload_n 0, 1) (List.mem_of_getElem? (i := 0) rfl), rfl⟩
theorem pX10_pushed_1 : At cX10_pushed 1 (.iload_n 1) 1 2 := ⟨tX10_pushed_0_ok (1, .iload_n 1, 1) (List.mem_of_getElem? (i := 1) rfl), rfl⟩
theorem pX10_pushed_2 : At cX10_pushed 2 (.iconst 3) 1 3 := ⟨tX10_pushed_0_ok (2, .iconst 3, 1) (List.mem_of_getElem? (i := 2) rfl), rfl⟩
theorem pX10_pushed_3 : At cX10_pushed 3 (.aload_n 0) 1 4 := ⟨tX10_pushed_0_ok (3, .aload_n 0, 1) (List.mem_of_getElem? (i := 3) rfl), rfl⟩
theorem pX10_pushed_4 : At cX10_pushed 4 (.iload_n 1) 1 5 := ⟨tX10_pushed_0_ok (4, .iload_n 1, 1) (List.mem_of_getElem? (i := 4) rfl), rfl⟩
theorem pX10_pushed_5 : At cX10_pushed 5 (.iconst 3) 1 6 := ⟨tX10_pushed_0_ok (5, .iconst 3, 1) (List.mem_of_getElem? (i := 5) rfl), rfl⟩
theorem pX10_pushed_6 : At cX10_pushed 6 (.invokevirtual 61) 3 9 := ⟨tX10_pushed_0_ok (6, .invokevirtual 61, 3) (List.mem_of_getElem? (i := 6) rfl), rfl⟩
theorem pX10_pushed_9 : At cX10_pushed 9 (.iload_n 2) 1 10 := ⟨tX10_pushed_0_ok (9, .iload_n 2, 1) (List.mem_of_getElem? (i := 7) rfl), rfl⟩
theorem pX10_pushed_10 : At cX10_pushed 10 (.iadd) 1 11 := ⟨tX10_pushed_0_ok (10, .iadd, 1) (List.mem_of_getElem? (i := 8) rfl), rfl⟩
theorem pX10_pushed_11 : At cX10_pushed 11 (.bipush (-9)) 2 13 := ⟨tX10_pushed_0_ok (11, .bipush (-9), 2) (List.mem_of_getElem? (i := 9) rfl), rfl⟩
theorem pX10_pushed_13 : At cX10_pushed 13 (.bipush 9) 2 15 := ⟨tX10_pushed_0_ok (13, .bipush 9, 2) (List.mem_of_getElem? (i := 10) rfl), rfl⟩
theorem pX10_pushed_15 : At cX10_pushed 15 (.invokestatic 112) 3 18 := ⟨tX10_pushed_0_ok (15, .invokestatic 112, 3) (List.mem_of_getElem? (i := 11) rfl), rfl⟩
theorem pX10_pushed_18 : At cX10_pushed 18 (.invokevirtual 83) 3 21 := ⟨tX10_pushed_0_ok (18, .invokevirtual 83, 3) (List.mem_of_getElem? (i := 12) rfl), rfl⟩
theorem pX10_pushed_21 : At cX10_pushed 21 (.aload_n 0) 1 22 := ⟨tX10_pushed_0_ok (21, .aload_n 0, 1) (List.mem_of_getElem? (i := 13) rfl), rfl⟩
theorem pX10_pushed_22 : At cX10_pushed 22 (.iload_n 1) 1 23 := ⟨tX10_pushed_0_ok (22, .iload_n 1, 1) (List.mem_of_getElem? (i := 14) rfl), rfl⟩
theorem pX10_pushed_23 : At cX10_pushed 23 (.iconst 3) 1 24 := ⟨tX10_pushed_0_ok (23, .iconst 3, 1) (List.mem_of_getElem? (i := 15) rfl), rfl⟩
theorem pX10_pushed_24 : At cX10_pushed 24 (.invokevirtual 61) 3 27 := ⟨tX10_pushed_0_ok (24, .invokevirtual 61, 3) (List.mem_of_getElem? (i := 16) rfl), rfl⟩
theorem pX10_pushed_27 : At cX10_pushed 27 (.ireturn) 1 28 := ⟨tX10_pushed_0_ok (27, .ireturn, 1) (List.mem_of_getElem? (i := 17) rfl), rfl⟩
def tX10_push_0 : List (Nat × Instr × Nat) := [(0, .aload_n 0, 1), (1, .iload_n 1, 1), (2, .invokevirtual 87, 3), (5, .ifCond .eq 19, 3), (8, .iload_n 2, 1), (9, .invokestatic 116, 3), (12, .ifCond .eq 12, 3), (15, .aload_n 0, 1), (16, .iload_n 1, 1), (17, .iload_n 2, 1), (18, .invokevirtual 119, 3), (21, .goto 8, 3), (24, .aload_n 0, 1), (25, .iconst 1, 1), (26, .invokevirtual 79, 3), (29, .ireturn, 1)]
theorem tX10_push_0_ok : ∀ q ∈ tX10_push_0, decode cX10_push q.1 = .ok (q.2.1, q.2.2) := by decide +kernel
theorem pX10_push_0 : At cX10_push 0 (.aload_n 0) 1 1 := ⟨tX10_push_0_ok (0, .aload_n 0, 1) (List.mem_of_getElem? (i := 0) rfl), rfl⟩
theorem pX10_push_1 : At cX10_push 1 (.iload_n 1) 1 2 := ⟨tX10_push_0_ok (1, .iload_n 1, 1) (List.mem_of_getElem? (i := 1) rfl), rfl⟩
theorem pX10_push_2 : At cX10_push 2 (.invokevirtual 87) 3 5 := ⟨tX10_push_0_ok (2, .invokevirtual 87, 3) (List.mem_of_getElem? (i := 2) rfl), rfl⟩
theorem pX10_push_5 : Bt cX10_push 5 (.ifCond .eq 19) 19 24 8 := ⟨tX10_push_0_ok (5, .ifCond .eq 19, 3) (List.mem_of_getElem? (i := 3) rfl), by decide, rfl⟩
theorem pX10_push_8 : At cX10_push 8 (.iload_n 2) 1 9 := ⟨tX10_push_0_ok (8, .iload_n 2, 1) (List.mem_of_getElem? (i := 4) rfl), rfl⟩
theorem pX10_push_9 : At cX10_push 9 (.invokestatic 116) 3 12 := ⟨tX10_push_0_ok (9, .invokestatic 116, 3) (List.mem_of_getElem? (i := 5) rfl), rfl⟩
theorem pX10_push_12 : Bt cX10_push 12 (.ifCond .eq 12) 12 24 15 := ⟨tX10_push_0_ok (12, .ifCond .eq 12, 3) (List.mem_of_getElem? (i := 6) rfl), by decide, rfl⟩
theorem pX10_push_15 : At cX10_push 15 (.aload_n 0) 1 16 := ⟨tX10_push_0_ok (15, .aload_n 0, 1) (List.mem_of_getElem? (i := 7) rfl), rfl⟩
theorem pX10_push_16 : At cX10_push 16 (.iload_n 1) 1 17 := ⟨tX10_push_0_ok (16, .iload_n 1, 1) (List.mem_of_getElem? (i := 8) rfl), rfl⟩
theorem pX10_push_17 : At cX10_push 17 (.iload_n 2) 1 18 := ⟨tX10_push_0_ok (17, .iload_n 2, 1) (List.mem_of_getElem? (i := 9) rfl), rfl⟩
theorem pX10_push_18 : At cX10_push 18 (.invokevirtual 119) 3 21 := ⟨tX10_push_0_ok (18, .invokevirtual 119, 3) (List.mem_of_getElem? (i := 10) rfl), rfl⟩
theorem pX10_push_21 : Bt cX10_push 21 (.goto 8) 8 29 24 := ⟨tX10_push_0_ok (21, .goto 8, 3) (List.mem_of_getElem? (i := 11) rfl), by decide, rfl⟩
theorem pX10_push_24 : At cX10_push 24 (.aload_n 0) 1 25 := ⟨tX10_push_0_ok (24, .aload_n 0, 1) (List.mem_of_getElem? (i := 12) rfl), rfl⟩
theorem pX10_push_25 : At cX10_push 25 (.iconst 1) 1 26 := ⟨tX10_push_0_ok (25, .iconst 1, 1) (List.mem_of_getElem? (i := 13) rfl), rfl⟩
theorem pX10_push_26 : At cX10_push 26 (.invokevirtual 79) 3 29 := ⟨tX10_push_0_ok (26, .invokevirtual 79, 3) (List.mem_of_getElem? (i := 14) rfl), rfl⟩
theorem pX10_push_29 : At cX10_push 29 (.ireturn) 1 30 := ⟨tX10_push_0_ok (29, .ireturn, 1) (List.mem_of_getElem? (i := 15) rfl), rfl⟩
def tX10_off_0 : List (Nat × Instr × Nat) := [(0, .aload_n 0, 1), (1, .iload_n 1, 1), (2, .invokevirtual 87, 3), (5, .ifCond .eq 23, 3), (8, .aload_n 0, 1), (9, .iload_n 2, 1), (10, .invokevirtual 87, 3), (13, .ifCond .eq 15, 3), (16, .iload_n 1, 1), (17, .iload_n 2, 1), (18, .if_icmp .eq 10, 3), (21, .iload_n 3, 1), (22, .invokestatic 116, 3), (25, .ifCond .ne 9, 3), (28, .aload_n 0, 1), (29, .iconst 1, 1), (30, .invokevirtual 79, 3), (33, .ireturn, 1), (34, .aload_n 0, 1), (35, .iload_n 1, 1), (36, .iconst 2, 1), (37, .invokevirtual 61, 3), (40, .aload_n 0, 1), (41, .iload_n 2, 1), (42, .iconst 2, 1), (43, .invokevirtual 61, 3), (46, .if_icmp .eq 9, 3), (49, .aload_n 0, 1), (50, .iconst 3, 1), (51, .invokevirtual 79, 3), (54, .ireturn, 1), (55, .aload_n 0, 1), (56, .iload_n 2, 1), (57, .iload_n 3, 1), (58, .ineg, 1), (59, .invokevirtual 119, 3), (62, .pop, 1), (63, .aload_n 0, 1), (64, .iload_n 1, 1), (65, .iload_n 3, 1), (66, .invokevirtual 119, 3), (69, .ireturn, 1)]
theorem tX10_off_0_ok : ∀ q ∈ tX10_off_0, decode cX10_off q.1 = .ok (q.2.1, q.2.2) := by decide +kernel
theorem pX10_off_0 : At cX10_off 0 (.aload_n 0) 1 1 := ⟨tX10_off_0_ok (0, .aload_n 0, 1) (List.mem_of_getElem? (i := 0) rfl), rfl⟩
theorem pX10_off_1 : At cX10_off 1 (.iload_n 1) 1 2 := ⟨tX10_off_0_ok (1, .iload_n 1, 1) (List.mem_of_getElem? (i := 1) rfl), rfl⟩
theorem pX10_off_2 : At cX10_off 2 (.invokevirtual 87) 3 5 := ⟨tX10_off_0_ok (2, .invokevirtual 87, 3) (List.mem_of_getElem? (i := 2) rfl), rfl⟩
theorem pX10_off_5 : Bt cX10_off 5 (.ifCond .eq 23) 23 28 8 := ⟨tX10_off_0_ok (5, .ifCond .eq 23, 3) (List.mem_of_getElem? (i := 3) rfl), by decide, rfl⟩
theorem pX10_off_8 : At cX10_off 8 (.aload_n 0) 1 9 := ⟨tX10_off_0_ok (8, .aload_n 0, 1) (List.mem_of_getElem? (i := 4) rfl), rfl⟩
theorem pX10_off_9 : At cX10_off 9 (.iload_n 2) 1 10 := ⟨tX10_off_0_ok (9, .iload_n 2, 1) (List.mem_of_getElem? (i := 5) rfl), rfl⟩
theorem pX10_off_10 : At cX10_off 10 (.invokevirtual 87) 3 13 := ⟨tX10_off_0_ok (10, .invokevirtual 87, 3) (List.mem_of_getElem? (i := 6) rfl), rfl⟩
theorem pX10_off_13 : Bt cX10_off 13 (.ifCond .eq 15) 15 28 16 := ⟨tX10_off_0_ok (13, .ifCond .eq 15, 3) (List.mem_of_getElem? (i := 7) rfl), by decide, rfl⟩
theorem pX10_off_16 : At cX10_off 16 (.iload_n 1) 1 17 := ⟨tX10_off_0_ok (16, .iload_n 1, 1) (List.mem_of_getElem? (i := 8) rfl), rfl⟩
theorem pX10_off_17 : At cX10_off 17 (.iload_n 2) 1 18 := ⟨tX10_off_0_ok (17, .iload_n 2, 1) (List.mem_of_getElem? (i := 9) rfl), rfl⟩
theorem pX10_off_18 : Bt cX10_off 18 (.if_icmp .eq 10) 10 28 21 := ⟨tX10_off_0_ok (18, .if_icmp .eq 10, 3) (List.mem_of_getElem? (i := 10) rfl), by decide, rfl⟩
theorem pX10_off_21 : At cX10_off 21 (.iload_n 3) 1 22 := ⟨tX10_off_0_ok (21, .iload_n 3, 1) (List.mem_of_getElem? (i := 11) rfl), rfl⟩
theorem pX10_off_22 : At cX10_off 22 (.invokestatic 116) 3 25 := ⟨tX10_off_0_ok (22, .invokestatic 116, 3) (List.mem_of_getElem? (i := 12) rfl), rfl⟩
theorem pX10_off_25 : Bt cX10_off 25 (.ifCond .ne 9) 9 34 28 := ⟨tX10_off_0_ok (25, .ifCond .ne 9, 3) (List.mem_of_getElem? (i := 13) rfl), by decide, rfl⟩
theorem pX10_off_28 : At cX10_off 28 (.aload_n 0) 1 29 := ⟨tX10_off_0_ok (28, .aload_n 0, 1) (List.mem_of_getElem? (i := 14) rfl), rfl⟩
theorem pX10_off_29 : At cX10_off 29 (.iconst 1) 1 30 := ⟨tX10_off_0_ok (29, .iconst 1, 1) (List.mem_of_getElem? (i := 15) rfl), rfl⟩
theorem pX10_off_30 : At cX10_off 30 (.invokevirtual 79) 3 33 := ⟨tX10_off_0_ok (30, .invokevirtual 79, 3) (List.mem_of_getElem? (i := 16) rfl), rfl⟩
theorem pX10_off_33 : At cX10_off 33 (.ireturn) 1 34 := ⟨tX10_off_0_ok (33, .ireturn, 1) (List.mem_of_getElem? (i := 17) rfl), rfl⟩
theorem pX10_off_34 : At cX10_off 34 (.aload_n 0) 1 35 := ⟨tX10_off_0_ok (34, .aload_n 0, 1) (List.mem_of_getElem? (i := 18) rfl), rfl⟩
theorem pX10_off_35 : At cX10_off 35 (.iload_n 1) 1 36 := ⟨tX10_off_0_ok (35, .iload_n 1, 1) (List.mem_of_getElem? (i := 19) rfl), rfl⟩
theorem pX10_off_36 : At cX10_off 36 (.iconst 2) 1 37 := ⟨tX10_off_0_ok (36, .iconst 2, 1) (List.mem_of_getElem? (i := 20) rfl), rfl⟩
theorem pX10_off_37 : At cX10_off 37 (.invokevirtual 61) 3 40 := ⟨tX10_off_0_ok (37, .invokevirtual 61, 3) (List.mem_of_getElem? (i := 21) rfl), rfl⟩
theorem pX10_off_40 : At cX10_off 40 (.aload_n 0) 1 41 := ⟨tX10_off_0_ok (40, .aload_n 0, 1) (List.mem_of_getElem? (i := 22) rfl), rfl⟩
theorem pX10_off_41 : At cX10_off 41 (.iload_n 2) 1 42 := ⟨tX10_off_0_ok (41, .iload_n 2, 1) (List.mem_of_getElem? (i := 23) rfl), rfl⟩
theorem pX10_off_42 : At cX10_off 42 (.iconst 2) 1 43 := ⟨tX10_off_0_ok (42, .iconst 2, 1) (List.mem_of_getElem? (i := 24) rfl), rfl⟩
theorem pX10_off_43 : At cX10_off 43 (.invokevirtual 61) 3 46 := ⟨tX10_off_0_ok (43, .invokevirtual 61, 3) (List.mem_of_getElem? (i := 25) rfl), rfl⟩
theorem pX10_off_46 : Bt cX10_off 46 (.if_icmp .eq 9) 9 55 49 := ⟨tX10_off_0_ok (46, .if_icmp .eq 9, 3) (List.mem_of_getElem? (i := 26) rfl), by decide, rfl⟩
theorem pX10_off_49 : At cX10_off 49 (.aload_n 0) 1 50 := ⟨tX10_off_0_ok (49, .aload_n 0, 1) (List.mem_of_getElem? (i := 27) rfl), rfl⟩
theorem pX10_off_50 : At cX10_off 50 (.iconst 3) 1 51 := ⟨tX10_off_0_ok (50, .iconst 3, 1) (List.mem_of_getElem? (i := 28) rfl), rfl⟩
theorem pX10_off_51 : At cX10_off 51 (.invokevirtual 79) 3 54 := ⟨tX10_off_0_ok (51, .invokevirtual 79, 3) (List.mem_of_getElem? (i := 29) rfl), rfl⟩
theorem pX10_off_54 : At cX10_off 54 (.ireturn) 1 55 := ⟨tX10_off_0_ok (54, .ireturn, 1) (List.mem_of_getElem? (i := 30) rfl), rfl⟩
theorem pX10_off_55 : At cX10_off 55 (.aload_n 0) 1 56 := ⟨tX10_off_0_ok (55, .aload_n 0, 1) (List.mem_of_getElem? (i := 31) rfl), rfl⟩
theorem pX10_off_56 : At cX10_off 56 (.iload_n 2) 1 57 := ⟨tX10_off_0_ok (56, .iload_n 2, 1) (List.mem_of_getElem? (i := 32) rfl), rfl⟩
theorem pX10_off_57 : At cX10_off 57 (.iload_n 3) 1 58 := ⟨tX10_off_0_ok (57, .iload_n 3, 1) (List.mem_of_getElem? (i := 33) rfl), rfl⟩
theorem pX10_off_58 : At cX10_off 58 (.ineg) 1 59 := ⟨tX10_off_0_ok (58, .ineg, 1) (List.mem_of_getElem? (i := 34) rfl), rfl⟩
theorem pX10_off_59 : At cX10_off 59 (.invokevirtual 119) 3 62 := ⟨tX10_off_0_ok (59, .invokevirtual 119, 3) (List.mem_of_getElem? (i := 35) rfl), rfl⟩
theorem pX10_off_62 : At cX10_off 62 (.pop) 1 63 := ⟨tX10_off_0_ok (62, .pop, 1) (List.mem_of_getElem? (i := 36) rfl), rfl⟩
theorem pX10_off_63 : At cX10_off 63 (.aload_n 0) 1 64 := ⟨tX10_off_0_ok (63, .aload_n 0, 1) (List.mem_of_getElem? (i := 37) rfl), rfl⟩
theorem pX10_off_64 : At cX10_off 64 (.iload_n 1) 1 65 := ⟨tX10_off_0_ok (64, .iload_n 1, 1) (List.mem_of_getElem? (i := 38) rfl), rfl⟩
theorem pX10_off_65 : At cX10_off 65 (.iload_n 3) 1 66 := ⟨tX10_off_0_ok (65, .iload_n 3, 1) (List.mem_of_getElem? (i := 39) rfl), rfl⟩
theorem pX10_off_66 : At cX10_off 66 (.invokevirtual 119) 3 69 := ⟨tX10_off_0_ok (66, .invokevirtual 119, 3) (List.mem_of_getElem? (i := 40) rfl), rfl⟩
theorem pX10_off_69 : At cX10_off 69 (.ireturn) 1 70 := ⟨tX10_off_0_ok (69, .ireturn, 1) (List.mem_of_getElem? (i := 41) rfl), rfl⟩
def tX10_set_0 : List (Nat × Instr × Nat) := [(0, .iload_n 1, 1), (1, .i2l, 1), (2, .lconst 0, 1), (3, .ldc2_w 122, 3), (6, .invokestatic 53, 3), (9, .ifCond .eq 37, 3), (12, .iload_n 2, 1), (13, .i2l, 1), (14, .iload_n 1, 1), (15, .ifCond .ne 9, 3), (18, .ldc2_w 122, 3), (21, .goto 6, 3), (24, .ldc2_w 57, 3), (27, .iload_n 1, 1), (28, .ifCond .ne 9, 3), (31, .ldc2_w 124, 3), (34, .goto 6, 3), (37, .ldc2_w 59, 3), (40, .invokestatic 53, 3), (43, .ifCond .ne 9, 3), (46, .aload_n 0, 1), (47, .iconst 1, 1), (48, .invokevirtual 79, 3), (51, .ireturn, 1), (52, .aload_n 0, 1), (53, .getfield 9, 3), (56, .iconst 2, 1), (57, .iload_n 1, 1), (58, .iadd, 1), (59, .iaload, 1), (60, .istore_n 3, 1), (61, .aload_n 0, 1), (62, .getfield 9, 3), (65, .iconst 2, 1), (66, .iload_n 1, 1), (67, .iadd, 1), (68, .iload_n 2, 1), (69, .iastore, 1), (70, .iload_n 3, 1), (71, .ireturn, 1)]
theorem tX10_set_0_ok : ∀ q ∈ tX10_set_0, decode cX10_set q.1 = .ok (q.2.1, q.2.2) := by decide +kernel
theorem pX10_set_0 : At cX10_set 0 (.iload_n 1) 1 1 := ⟨tX10_set_0_ok (0, .iload_n 1, 1) (List.mem_of_getElem? (i := 0) rfl), rfl⟩
theorem pX10_set_1 : At cX10_set 1 (.i2l) 1 2 := ⟨tX10_set_0_ok (1, .i2l, 1) (List.mem_of_getElem? (i := 1) rfl), rfl⟩
theorem pX10_set_2 : At cX10_set 2 (.lconst 0) 1 3 := ⟨tX10_set_0_ok (2, .lconst 0, 1) (List.mem_of_getElem? (i := 2) rfl), rfl⟩
theorem pX10_set_3 : At cX10_set 3 (.ldc2_w 122) 3 6 := ⟨tX10_set_0_ok (3, .ldc2_w 122, 3) (List.mem_of_getElem? (i := 3) rfl), rfl⟩
theorem pX10_set_6 : At cX10_set 6 (.invokestatic 53) 3 9 := ⟨tX10_set_0_ok (6, .invokestatic 53, 3) (List.mem_of_getElem? (i := 4) rfl), rfl⟩
theorem pX10_set_9 : Bt cX10_set 9 (.ifCond .eq 37) 37 46 12 := ⟨tX10_set_0_ok (9, .ifCond .eq 37, 3) (List.mem_of_getElem? (i := 5) rfl), by decide, rfl⟩
theorem pX10_set_12 : At cX10_set 12 (.iload_n 2) 1 13 := ⟨tX10_set_0_ok (12, .iload_n 2, 1) (List.mem_of_getElem? (i := 6) rfl), rfl⟩
theorem pX10_set_13 : At cX10_set 13 (.i2l) 1 14 := ⟨tX10_set_0_ok (13, .i2l, 1) (List.mem_of_getElem? (i := 7) rfl), rfl⟩
theorem pX10_set_14 : At cX10_set 14 (.iload_n 1) 1 15 := ⟨tX10_set_0_ok (14, .iload_n 1, 1) (List.mem_of_getElem? (i := 8) rfl), rfl⟩
theorem pX10_set_15 : Bt cX10_set 15 (.ifCond .ne 9) 9 24 18 := ⟨tX10_set_0_ok (15, .ifCond .ne 9, 3) (List.mem_of_getElem? (i := 9) rfl), by decide, rfl⟩
theorem pX10_set_18 : At cX10_set 18 (.ldc2_w 122) 3 21 := ⟨tX10_set_0_ok (18, .ldc2_w 122, 3) (List.mem_of_getElem? (i := 10) rfl), rfl⟩
theorem pX10_set_21 : Bt cX10_set 21 (.goto 6) 6 27 24 := ⟨tX10_set_0_ok (21, .goto 6, 3) (List.mem_of_getElem? (i := 11) rfl), by decide, rfl⟩
theorem pX10_set_24 : At cX10_set 24 (.ldc2_w 57) 3 27 := ⟨tX10_set_0_ok (24, .ldc2_w 57, 3) (List.mem_of_getElem? (i := 12) rfl), rfl⟩
theorem pX10_set_27 : At cX10_set 27 (.iload_n 1) 1 28 := ⟨tX10_set_0_ok (27, .iload_n 1, 1) (List.mem_of_getElem? (i := 13) rfl), rfl⟩
theorem pX10_set_28 : Bt cX10_set 28 (.ifCond .ne 9) 9 37 31 := ⟨tX10_set_0_ok (28, .ifCond .ne 9, 3) (List.mem_of_getElem? (i := 14) rfl), by decide, rfl⟩
theorem pX10_set_31 : At cX10_set 31 (.ldc2_w 124) 3 34 := ⟨tX10_set_0_ok (31, .ldc2_w 124, 3) (List.mem_of_getElem? (i := 15) rfl), rfl⟩
theorem pX10_set_34 : Bt cX10_set 34 (.goto 6) 6 40 37 := ⟨tX10_set_0_ok (34, .goto 6, 3) (List.mem_of_getElem? (i := 16) rfl), by decide, rfl⟩
theorem pX10_set_37 : At cX10_set 37 (.ldc2_w 59) 3 40 := ⟨tX10_set_0_ok (37, .ldc2_w 59, 3) (List.mem_of_getElem? (i := 17) rfl), rfl⟩
theorem pX10_set_40 : At cX10_set 40 (.invokestatic 53) 3 43 := ⟨tX10_set_0_ok (40, .invokestatic 53, 3) (List.mem_of_getElem? (i := 18) rfl), rfl⟩
theorem pX10_set_43 : Bt cX10_set 43 (.ifCond .ne 9) 9 52 46 := ⟨tX10_set_0_ok (43, .ifCond .ne 9, 3) (List.mem_of_getElem? (i := 19) rfl), by decide, rfl⟩
theorem pX10_set_46 : At cX10_set 46 (.aload_n 0) 1 47 := ⟨tX10_set_0_ok (46, .aload_n 0, 1) (List.mem_of_getElem? (i := 20) rfl), rfl⟩
theorem pX10_set_47 : At cX10_set 47 (.iconst 1) 1 48 := ⟨tX10_set_0_ok (47, .iconst 1, 1) (List.mem_of_getElem? (i := 21) rfl), rfl⟩
theorem pX10_set_48 : At cX10_set 48 (.invokevirtual 79) 3 51 := ⟨tX10_set_0_ok (48, .invokevirtual 79, 3) (List.mem_of_getElem? (i := 22) rfl), rfl⟩
theorem pX10_set_51 : At cX10_set 51 (.ireturn) 1 52 := ⟨tX10_set_0_ok (51, .ireturn, 1) (List.mem_of_getElem? (i := 23) rfl), rfl⟩
theorem pX10_set_52 : At cX10_set 52 (.aload_n 0) 1 53 := ⟨tX10_set_0_ok (52, .aload_n 0, 1) (List.mem_of_getElem? (i := 24) rfl), rfl⟩
theorem pX10_set_53 : At cX10_set 53 (.getfield 9) 3 56 := ⟨tX10_set_0_ok (53, .getfield 9, 3) (List.mem_of_getElem? (i := 25) rfl), rfl⟩
theorem pX10_set_56 : At cX10_set 56 (.iconst 2) 1 57 := ⟨tX10_set_0_ok (56, .iconst 2, 1) (List.mem_of_getElem? (i := 26) rfl), rfl⟩
theorem pX10_set_57 : At cX10_set 57 (.iload_n 1) 1 58 := ⟨tX10_set_0_ok (57, .iload_n 1, 1) (List.mem_of_getElem? (i := 27) rfl), rfl⟩
theorem pX10_set_58 : At cX10_set 58 (.iadd) 1 59 := ⟨tX10_set_0_ok (58, .iadd, 1) (List.mem_of_getElem? (i := 28) rfl), rfl⟩
theorem pX10_set_59 : At cX10_set 59 (.iaload) 1 60 := ⟨tX10_set_0_ok (59, .iaload, 1) (List.mem_of_getElem? (i := 29) rfl), rfl⟩
theorem pX10_set_60 : At cX10_set 60 (.istore_n 3) 1 61 := ⟨tX10_set_0_ok (60, .istore_n 3, 1) (List.mem_of_getElem? (i := 30) rfl), rfl⟩
theorem pX10_set_61 : At cX10_set 61 (.aload_n 0) 1 62 := ⟨tX10_set_0_ok (61, .aload_n 0, 1) (List.mem_of_getElem? (i := 31) rfl), rfl⟩
theorem pX10_set_62 : At cX10_set 62 (.getfield 9) 3 65 := ⟨tX10_set_0_ok (62, .getfield 9, 3) (List.mem_of_getElem? (i := 32) rfl), rfl⟩
theorem pX10_set_65 : At cX10_set 65 (.iconst 2) 1 66 := ⟨tX10_set_0_ok (65, .iconst 2, 1) (List.mem_of_getElem? (i := 33) rfl), rfl⟩
theorem pX10_set_66 : At cX10_set 66 (.iload_n 1) 1 67 := ⟨tX10_set_0_ok (66, .iload_n 1, 1) (List.mem_of_getElem? (i := 34) rfl), rfl⟩
theorem pX10_set_67 : At cX10_set 67 (.iadd) 1 68 := ⟨tX10_set_0_ok (67, .iadd, 1) (List.mem_of_getElem? (i := 35) rfl), rfl⟩
theorem pX10_set_68 : At cX10_set 68 (.iload_n 2) 1 69 := ⟨tX10_set_0_ok (68, .iload_n 2, 1) (List.mem_of_getElem? (i := 36) rfl), rfl⟩
theorem pX10_set_69 : At cX10_set 69 (.iastore) 1 70 := ⟨tX10_set_0_ok (69, .iastore, 1) (List.mem_of_getElem? (i := 37) rfl), rfl⟩
theorem pX10_set_70 : At cX10_set 70 (.iload_n 3) 1 71 := ⟨tX10_set_0_ok (70, .iload_n 3, 1) (List.mem_of_getElem? (i := 38) rfl), rfl⟩
theorem pX10_set_71 : At cX10_set 71 (.ireturn) 1 72 := ⟨tX10_set_0_ok (71, .ireturn, 1) (List.mem_of_getElem? (i := 39) rfl), rfl⟩
def tX10_stands_0 : List (Nat × Instr × Nat) := [(0, .iload_n 2, 1), (1, .aload_n 0, 1), (2, .getfield 9, 3), (5, .iconst 3, 1), (6, .iload_n 1, 1), (7, .iadd, 1), (8, .iaload, 1), (9, .iload_n 3, 1), (10, .imul, 1), (11, .iadd, 1), (12, .aload_n 0, 1), (13, .getfield 9, 3), (16, .iconst 2, 1), (17, .iaload, 1), (18, .irem, 1), (19, .istore 4, 2), (21, .iload 4, 2), (23, .ifCond .ge 15, 3), (26, .iload 4, 2), (28, .aload_n 0, 1), (29, .getfield 9, 3), (32, .iconst 2, 1), (33, .iaload, 1), (34, .iadd, 1), (35, .goto 5, 3), (38, .iload 4, 2), (40, .ireturn, 1)]
theorem tX10_stands_0_ok : ∀ q ∈ tX10_stands_0, decode cX10_stands q.1 = .ok (q.2.1, q.2.2) := by decide +kernel
theorem pX10_stands_0 : At cX10_stands 0 (.iload_n 2) 1 1 := ⟨tX10_stands_0_ok (0, .iload_n 2, 1) (List.mem_of_getElem? (i := 0) rfl), rfl⟩
theorem pX10_stands_1 : At cX10_stands 1 (.aload_n 0) 1 2 := ⟨tX10_stands_0_ok (1, .aload_n 0, 1) (List.mem_of_getElem? (i := 1) rfl), rfl⟩
theorem pX10_stands_2 : At cX10_stands 2 (.getfield 9) 3 5 := ⟨tX10_stands_0_ok (2, .getfield 9, 3) (List.mem_of_getElem? (i := 2) rfl), rfl⟩
theorem pX10_stands_5 : At cX10_stands 5 (.iconst 3) 1 6 := ⟨tX10_stands_0_ok (5, .iconst 3, 1) (List.mem_of_getElem? (i := 3) rfl), rfl⟩
theorem pX10_stands_6 : At cX10_stands 6 (.iload_n 1) 1 7 := ⟨tX10_stands_0_ok (6, .iload_n 1, 1) (List.mem_of_getElem? (i := 4) rfl), rfl⟩
theorem pX10_stands_7 : At cX10_stands 7 (.iadd) 1 8 := ⟨tX10_stands_0_ok (7, .iadd, 1) (List.mem_of_getElem? (i := 5) rfl), rfl⟩
theorem pX10_stands_8 : At cX10_stands 8 (.iaload) 1 9 := ⟨tX10_stands_0_ok (8, .iaload, 1) (List.mem_of_getElem? (i := 6) rfl), rfl⟩
theorem pX10_stands_9 : At cX10_stands 9 (.iload_n 3) 1 10 := ⟨tX10_stands_0_ok (9, .iload_n 3, 1) (List.mem_of_getElem? (i := 7) rfl), rfl⟩
theorem pX10_stands_10 : At cX10_stands 10 (.imul) 1 11 := ⟨tX10_stands_0_ok (10, .imul, 1) (List.mem_of_getElem? (i := 8) rfl), rfl⟩
theorem pX10_stands_11 : At cX10_stands 11 (.iadd) 1 12 := ⟨tX10_stands_0_ok (11, .iadd, 1) (List.mem_of_getElem? (i := 9) rfl), rfl⟩
theorem pX10_stands_12 : At cX10_stands 12 (.aload_n 0) 1 13 := ⟨tX10_stands_0_ok (12, .aload_n 0, 1) (List.mem_of_getElem? (i := 10) rfl), rfl⟩
theorem pX10_stands_13 : At cX10_stands 13 (.getfield 9) 3 16 := ⟨tX10_stands_0_ok (13, .getfield 9, 3) (List.mem_of_getElem? (i := 11) rfl), rfl⟩
theorem pX10_stands_16 : At cX10_stands 16 (.iconst 2) 1 17 := ⟨tX10_stands_0_ok (16, .iconst 2, 1) (List.mem_of_getElem? (i := 12) rfl), rfl⟩
theorem pX10_stands_17 : At cX10_stands 17 (.iaload) 1 18 := ⟨tX10_stands_0_ok (17, .iaload, 1) (List.mem_of_getElem? (i := 13) rfl), rfl⟩
theorem pX10_stands_18 : At cX10_stands 18 (.irem) 1 19 := ⟨tX10_stands_0_ok (18, .irem, 1) (List.mem_of_getElem? (i := 14) rfl), rfl⟩
theorem pX10_stands_19 : At cX10_stands 19 (.istore 4) 2 21 := ⟨tX10_stands_0_ok (19, .istore 4, 2) (List.mem_of_getElem? (i := 15) rfl), rfl⟩
theorem pX10_stands_21 : At cX10_stands 21 (.iload 4) 2 23 := ⟨tX10_stands_0_ok (21, .iload 4, 2) (List.mem_of_getElem? (i := 16) rfl), rfl⟩
theorem pX10_stands_23 : Bt cX10_stands 23 (.ifCond .ge 15) 15 38 26 := ⟨tX10_stands_0_ok (23, .ifCond .ge 15, 3) (List.mem_of_getElem? (i := 17) rfl), by decide, rfl⟩
theorem pX10_stands_26 : At cX10_stands 26 (.iload 4) 2 28 := ⟨tX10_stands_0_ok (26, .iload 4, 2) (List.mem_of_getElem? (i := 18) rfl), rfl⟩
theorem pX10_stands_28 : At cX10_stands 28 (.aload_n 0) 1 29 := ⟨tX10_stands_0_ok (28, .aload_n 0, 1) (List.mem_of_getElem? (i := 19) rfl), rfl⟩
theorem pX10_stands_29 : At cX10_stands 29 (.getfield 9) 3 32 := ⟨tX10_stands_0_ok (29, .getfield 9, 3) (List.mem_of_getElem? (i := 20) rfl), rfl⟩
theorem pX10_stands_32 : At cX10_stands 32 (.iconst 2) 1 33 := ⟨tX10_stands_0_ok (32, .iconst 2, 1) (List.mem_of_getElem? (i := 21) rfl), rfl⟩
theorem pX10_stands_33 : At cX10_stands 33 (.iaload) 1 34 := ⟨tX10_stands_0_ok (33, .iaload, 1) (List.mem_of_getElem? (i := 22) rfl), rfl⟩
theorem pX10_stands_34 : At cX10_stands 34 (.iadd) 1 35 := ⟨tX10_stands_0_ok (34, .iadd, 1) (List.mem_of_getElem? (i := 23) rfl), rfl⟩
theorem pX10_stands_35 : Bt cX10_stands 35 (.goto 5) 5 40 38 := ⟨tX10_stands_0_ok (35, .goto 5, 3) (List.mem_of_getElem? (i := 24) rfl), by decide, rfl⟩
theorem pX10_stands_38 : At cX10_stands 38 (.iload 4) 2 40 := ⟨tX10_stands_0_ok (38, .iload 4, 2) (List.mem_of_getElem? (i := 25) rfl), rfl⟩
theorem pX10_stands_40 : At cX10_stands 40 (.ireturn) 1 41 := ⟨tX10_stands_0_ok (40, .ireturn, 1) (List.mem_of_getElem? (i := 26) rfl), rfl⟩
def tX10_isDoor_0 : List (Nat × Instr × Nat) := [(0, .iload_n 1, 1), (1, .i2l, 1), (2, .lconst 0, 1), (3, .aload_n 0, 1), (4, .getfield 9, 3), (7, .iconst 2, 1), (8, .iaload, 1), (9, .iconst 1, 1), (10, .isub, 1), (11, .i2l, 1), (12, .invokestatic 53, 3), (15, .ireturn, 1)]
theorem tX10_isDoor_0_ok : ∀ q ∈ tX10_isDoor_0, decode cX10_isDoor q.1 = .ok (q.2.1, q.2.2) := by decide +kernel
theorem pX10_isDoor_0 : At cX10_isDoor 0 (.iload_n 1) 1 1 := ⟨tX10_isDoor_0_ok (0, .iload_n 1, 1) (List.mem_of_getElem? (i := 0) rfl), rfl⟩
theorem pX10_isDoor_1 : At cX10_isDoor 1 (.i2l) 1 2 := ⟨tX10_isDoor_0_ok (1, .i2l, 1) (List.mem_of_getElem? (i := 1) rfl), rfl⟩
theorem pX10_isDoor_2 : At cX10_isDoor 2 (.lconst 0) 1 3 := ⟨tX10_isDoor_0_ok (2, .lconst 0, 1) (List.mem_of_getElem? (i := 2) rfl), rfl⟩
theorem pX10_isDoor_3 : At cX10_isDoor 3 (.aload_n 0) 1 4 := ⟨tX10_isDoor_0_ok (3, .aload_n 0, 1) (List.mem_of_getElem? (i := 3) rfl), rfl⟩
theorem pX10_isDoor_4 : At cX10_isDoor 4 (.getfield 9) 3 7 := ⟨tX10_isDoor_0_ok (4, .getfield 9, 3) (List.mem_of_getElem? (i := 4) rfl), rfl⟩
theorem pX10_isDoor_7 : At cX10_isDoor 7 (.iconst 2) 1 8 := ⟨tX10_isDoor_0_ok (7, .iconst 2, 1) (List.mem_of_getElem? (i := 5) rfl), rfl⟩
theorem pX10_isDoor_8 : At cX10_isDoor 8 (.iaload) 1 9 := ⟨tX10_isDoor_0_ok (8, .iaload, 1) (List.mem_of_getElem? (i := 6) rfl), rfl⟩
theorem pX10_isDoor_9 : At cX10_isDoor 9 (.iconst 1) 1 10 := ⟨tX10_isDoor_0_ok (9, .iconst 1, 1) (List.mem_of_getElem? (i := 7) rfl), rfl⟩
theorem pX10_isDoor_10 : At cX10_isDoor 10 (.isub) 1 11 := ⟨tX10_isDoor_0_ok (10, .isub, 1) (List.mem_of_getElem? (i := 8) rfl), rfl⟩
theorem pX10_isDoor_11 : At cX10_isDoor 11 (.i2l) 1 12 := ⟨tX10_isDoor_0_ok (11, .i2l, 1) (List.mem_of_getElem? (i := 9) rfl), rfl⟩
theorem pX10_isDoor_12 : At cX10_isDoor 12 (.invokestatic 53) 3 15 := ⟨tX10_isDoor_0_ok (12, .invokestatic 53, 3) (List.mem_of_getElem? (i := 10) rfl), rfl⟩
theorem pX10_isDoor_15 : At cX10_isDoor 15 (.ireturn) 1 16 := ⟨tX10_isDoor_0_ok (15, .ireturn, 1) (List.mem_of_getElem? (i := 11) rfl), rfl⟩
def tX10_door_0 : List (Nat × Instr × Nat) := [(0, .iload_n 1, 1), (1, .invokestatic 126, 3), (4, .ifCond .eq 26, 3), (7, .aload_n 0, 1), (8, .iload_n 2, 1), (9, .invokevirtual 129, 3), (12, .ifCond .eq 18, 3), (15, .aload_n 0, 1), (16, .iload_n 1, 1), (17, .iload_n 2, 1), (18, .aload_n 0, 1), (19, .getfield 9, 3), (22, .iconst 0, 1), (23, .iaload, 1), (24, .invokevirtual 132, 3), (27, .goto 8, 3), (30, .aload_n 0, 1), (31, .iconst 1, 1), (32, .invokevirtual 79, 3), (35, .ireturn, 1)]
theorem tX10_door_0_ok : ∀ q ∈ tX10_door_0, decode cX10_door q.1 = .ok (q.2.1, q.2.2) := by decide +kernel
theorem pX10_door_0 : At cX10_door 0 (.iload_n 1) 1 1 := ⟨tX10_door_0_ok (0, .iload_n 1, 1) (List.mem_of_getElem? (i := 0) rfl), rfl⟩
theorem pX10_door_1 : At cX10_door 1 (.invokestatic 126) 3 4 := ⟨tX10_door_0_ok (1, .invokestatic 126, 3) (List.mem_of_getElem? (i := 1) rfl), rfl⟩
theorem pX10_door_4 : Bt cX10_door 4 (.ifCond .eq 26) 26 30 7 := ⟨tX10_door_0_ok (4, .ifCond .eq 26, 3) (List.mem_of_getElem? (i := 2) rfl), by decide, rfl⟩
theorem pX10_door_7 : At cX10_door 7 (.aload_n 0) 1 8 := ⟨tX10_door_0_ok (7, .aload_n 0, 1) (List.mem_of_getElem? (i := 3) rfl), rfl⟩
theorem pX10_door_8 : At cX10_door 8 (.iload_n 2) 1 9 := ⟨tX10_door_0_ok (8, .iload_n 2, 1) (List.mem_of_getElem? (i := 4) rfl), rfl⟩
theorem pX10_door_9 : At cX10_door 9 (.invokevirtual 129) 3 12 := ⟨tX10_door_0_ok (9, .invokevirtual 129, 3) (List.mem_of_getElem? (i := 5) rfl), rfl⟩
theorem pX10_door_12 : Bt cX10_door 12 (.ifCond .eq 18) 18 30 15 := ⟨tX10_door_0_ok (12, .ifCond .eq 18, 3) (List.mem_of_getElem? (i := 6) rfl), by decide, rfl⟩
theorem pX10_door_15 : At cX10_door 15 (.aload_n 0) 1 16 := ⟨tX10_door_0_ok (15, .aload_n 0, 1) (List.mem_of_getElem? (i := 7) rfl), rfl⟩
theorem pX10_door_16 : At cX10_door 16 (.iload_n 1) 1 17 := ⟨tX10_door_0_ok (16, .iload_n 1, 1) (List.mem_of_getElem? (i := 8) rfl), rfl⟩
theorem pX10_door_17 : At cX10_door 17 (.iload_n 2) 1 18 := ⟨tX10_door_0_ok (17, .iload_n 2, 1) (List.mem_of_getElem? (i := 9) rfl), rfl⟩
theorem pX10_door_18 : At cX10_door 18 (.aload_n 0) 1 19 := ⟨tX10_door_0_ok (18, .aload_n 0, 1) (List.mem_of_getElem? (i := 10) rfl), rfl⟩
theorem pX10_door_19 : At cX10_door 19 (.getfield 9) 3 22 := ⟨tX10_door_0_ok (19, .getfield 9, 3) (List.mem_of_getElem? (i := 11) rfl), rfl⟩
theorem pX10_door_22 : At cX10_door 22 (.iconst 0) 1 23 := ⟨tX10_door_0_ok (22, .iconst 0, 1) (List.mem_of_getElem? (i := 12) rfl), rfl⟩
theorem pX10_door_23 : At cX10_door 23 (.iaload) 1 24 := ⟨tX10_door_0_ok (23, .iaload, 1) (List.mem_of_getElem? (i := 13) rfl), rfl⟩
theorem pX10_door_24 : At cX10_door 24 (.invokevirtual 132) 3 27 := ⟨tX10_door_0_ok (24, .invokevirtual 132, 3) (List.mem_of_getElem? (i := 14) rfl), rfl⟩
theorem pX10_door_27 : Bt cX10_door 27 (.goto 8) 8 35 30 := ⟨tX10_door_0_ok (27, .goto 8, 3) (List.mem_of_getElem? (i := 15) rfl), by decide, rfl⟩
theorem pX10_door_30 : At cX10_door 30 (.aload_n 0) 1 31 := ⟨tX10_door_0_ok (30, .aload_n 0, 1) (List.mem_of_getElem? (i := 16) rfl), rfl⟩
theorem pX10_door_31 : At cX10_door 31 (.iconst 1) 1 32 := ⟨tX10_door_0_ok (31, .iconst 1, 1) (List.mem_of_getElem? (i := 17) rfl), rfl⟩
theorem pX10_door_32 : At cX10_door 32 (.invokevirtual 79) 3 35 := ⟨tX10_door_0_ok (32, .invokevirtual 79, 3) (List.mem_of_getElem? (i := 18) rfl), rfl⟩
theorem pX10_door_35 : At cX10_door 35 (.ireturn) 1 36 := ⟨tX10_door_0_ok (35, .ireturn, 1) (List.mem_of_getElem? (i := 19) rfl), rfl⟩
def tX10_lineUp_0 : List (Nat × Instr × Nat) := [(0, .aload_n 0, 1), (1, .iload_n 1, 1), (2, .invokevirtual 129, 3), (5, .ifCond .eq 11, 3), (8, .aload_n 0, 1), (9, .iload_n 2, 1), (10, .invokevirtual 129, 3), (13, .ifCond .ne 9, 3), (16, .aload_n 0, 1), (17, .iconst 1, 1), (18, .invokevirtual 79, 3), (21, .ireturn, 1), (22, .iconst 0, 1), (23, .istore_n 3, 1), (24, .iload_n 3, 1), (25, .aload_n 0, 1), (26, .getfield 9, 3), (29, .iconst 2, 1), (30, .iaload, 1), (31, .if_icmp .ge 42, 3), (34, .aload_n 0, 1), (35, .iconst 0, 1), (36, .iload_n 1, 1), (37, .aload_n 0, 1), (38, .getfield 9, 3), (41, .iconst 0, 1), (42, .iaload, 1), (43, .iload_n 3, 1), (44, .iadd, 1), (45, .invokevirtual 132, 3), (48, .aload_n 0, 1), (49, .iconst 1, 1), (50, .iload_n 2, 1), (51, .aload_n 0, 1), (52, .getfield 9, 3), (55, .iconst 0, 1), (56, .iaload, 1), (57, .iload_n 3, 1), (58, .iadd, 1), (59, .invokevirtual 132, 3), (62, .if_icmp .ne 5, 3), (65, .iload_n 3, 1), (66, .ireturn, 1), (67, .iinc 3 1, 3), (70, .goto (-46), 3), (73, .aload_n 0, 1), (74, .iconst 2, 1), (75, .invokevirtual 79, 3), (78, .ireturn, 1)]
theorem tX10_lineUp_0_ok : ∀ q ∈ tX10_lineUp_0, decode cX10_lineUp q.1 = .ok (q.2.1, q.2.2) := by decide +kernel
theorem pX10_lineUp_0 : At cX10_lineUp 0 (.aload_n 0) 1 1 := ⟨tX10_lineUp_0_ok (0, .aload_n 0, 1) (List.mem_of_getElem? (i := 0) rfl), rfl⟩
theorem pX10_lineUp_1 : At cX10_lineUp 1 (.iload_n 1) 1 2 := ⟨tX10_lineUp_0_ok (1, .iload_n 1, 1) (List.mem_of_getElem? (i := 1) rfl), rfl⟩
theorem pX10_lineUp_2 : At cX10_lineUp 2 (.invokevirtual 129) 3 5 := ⟨tX10_lineUp_0_ok (2, .invokevirtual 129, 3) (List.mem_of_getElem? (i := 2) rfl), rfl⟩
theorem pX10_lineUp_5 : Bt cX10_lineUp 5 (.ifCond .eq 11) 11 16 8 := ⟨tX10_lineUp_0_ok (5, .ifCond .eq 11, 3) (List.mem_of_getElem? (i := 3) rfl), by decide, rfl⟩
theorem pX10_lineUp_8 : At cX10_lineUp 8 (.aload_n 0) 1 9 := ⟨tX10_lineUp_0_ok (8, .aload_n 0, 1) (List.mem_of_getElem? (i := 4) rfl), rfl⟩
theorem pX10_lineUp_9 : At cX10_lineUp 9 (.iload_n 2) 1 10 := ⟨tX10_lineUp_0_ok (9, .iload_n 2, 1) (List.mem_of_getElem? (i := 5) rfl), rfl⟩
theorem pX10_lineUp_10 : At cX10_lineUp 10 (.invokevirtual 129) 3 13 := ⟨tX10_lineUp_0_ok (10, .invokevirtual 129, 3) (List.mem_of_getElem? (i := 6) rfl), rfl⟩
theorem pX10_lineUp_13 : Bt cX10_lineUp 13 (.ifCond .ne 9) 9 22 16 := ⟨tX10_lineUp_0_ok (13, .ifCond .ne 9, 3) (List.mem_of_getElem? (i := 7) rfl), by decide, rfl⟩
theorem pX10_lineUp_16 : At cX10_lineUp 16 (.aload_n 0) 1 17 := ⟨tX10_lineUp_0_ok (16, .aload_n 0, 1) (List.mem_of_getElem? (i := 8) rfl), rfl⟩
theorem pX10_lineUp_17 : At cX10_lineUp 17 (.iconst 1) 1 18 := ⟨tX10_lineUp_0_ok (17, .iconst 1, 1) (List.mem_of_getElem? (i := 9) rfl), rfl⟩
theorem pX10_lineUp_18 : At cX10_lineUp 18 (.invokevirtual 79) 3 21 := ⟨tX10_lineUp_0_ok (18, .invokevirtual 79, 3) (List.mem_of_getElem? (i := 10) rfl), rfl⟩
theorem pX10_lineUp_21 : At cX10_lineUp 21 (.ireturn) 1 22 := ⟨tX10_lineUp_0_ok (21, .ireturn, 1) (List.mem_of_getElem? (i := 11) rfl), rfl⟩
theorem pX10_lineUp_22 : At cX10_lineUp 22 (.iconst 0) 1 23 := ⟨tX10_lineUp_0_ok (22, .iconst 0, 1) (List.mem_of_getElem? (i := 12) rfl), rfl⟩
theorem pX10_lineUp_23 : At cX10_lineUp 23 (.istore_n 3) 1 24 := ⟨tX10_lineUp_0_ok (23, .istore_n 3, 1) (List.mem_of_getElem? (i := 13) rfl), rfl⟩
theorem pX10_lineUp_24 : At cX10_lineUp 24 (.iload_n 3) 1 25 := ⟨tX10_lineUp_0_ok (24, .iload_n 3, 1) (List.mem_of_getElem? (i := 14) rfl), rfl⟩
theorem pX10_lineUp_25 : At cX10_lineUp 25 (.aload_n 0) 1 26 := ⟨tX10_lineUp_0_ok (25, .aload_n 0, 1) (List.mem_of_getElem? (i := 15) rfl), rfl⟩
theorem pX10_lineUp_26 : At cX10_lineUp 26 (.getfield 9) 3 29 := ⟨tX10_lineUp_0_ok (26, .getfield 9, 3) (List.mem_of_getElem? (i := 16) rfl), rfl⟩
theorem pX10_lineUp_29 : At cX10_lineUp 29 (.iconst 2) 1 30 := ⟨tX10_lineUp_0_ok (29, .iconst 2, 1) (List.mem_of_getElem? (i := 17) rfl), rfl⟩
theorem pX10_lineUp_30 : At cX10_lineUp 30 (.iaload) 1 31 := ⟨tX10_lineUp_0_ok (30, .iaload, 1) (List.mem_of_getElem? (i := 18) rfl), rfl⟩
theorem pX10_lineUp_31 : Bt cX10_lineUp 31 (.if_icmp .ge 42) 42 73 34 := ⟨tX10_lineUp_0_ok (31, .if_icmp .ge 42, 3) (List.mem_of_getElem? (i := 19) rfl), by decide, rfl⟩
theorem pX10_lineUp_34 : At cX10_lineUp 34 (.aload_n 0) 1 35 := ⟨tX10_lineUp_0_ok (34, .aload_n 0, 1) (List.mem_of_getElem? (i := 20) rfl), rfl⟩
theorem pX10_lineUp_35 : At cX10_lineUp 35 (.iconst 0) 1 36 := ⟨tX10_lineUp_0_ok (35, .iconst 0, 1) (List.mem_of_getElem? (i := 21) rfl), rfl⟩
theorem pX10_lineUp_36 : At cX10_lineUp 36 (.iload_n 1) 1 37 := ⟨tX10_lineUp_0_ok (36, .iload_n 1, 1) (List.mem_of_getElem? (i := 22) rfl), rfl⟩
theorem pX10_lineUp_37 : At cX10_lineUp 37 (.aload_n 0) 1 38 := ⟨tX10_lineUp_0_ok (37, .aload_n 0, 1) (List.mem_of_getElem? (i := 23) rfl), rfl⟩
theorem pX10_lineUp_38 : At cX10_lineUp 38 (.getfield 9) 3 41 := ⟨tX10_lineUp_0_ok (38, .getfield 9, 3) (List.mem_of_getElem? (i := 24) rfl), rfl⟩
theorem pX10_lineUp_41 : At cX10_lineUp 41 (.iconst 0) 1 42 := ⟨tX10_lineUp_0_ok (41, .iconst 0, 1) (List.mem_of_getElem? (i := 25) rfl), rfl⟩
theorem pX10_lineUp_42 : At cX10_lineUp 42 (.iaload) 1 43 := ⟨tX10_lineUp_0_ok (42, .iaload, 1) (List.mem_of_getElem? (i := 26) rfl), rfl⟩
theorem pX10_lineUp_43 : At cX10_lineUp 43 (.iload_n 3) 1 44 := ⟨tX10_lineUp_0_ok (43, .iload_n 3, 1) (List.mem_of_getElem? (i := 27) rfl), rfl⟩
theorem pX10_lineUp_44 : At cX10_lineUp 44 (.iadd) 1 45 := ⟨tX10_lineUp_0_ok (44, .iadd, 1) (List.mem_of_getElem? (i := 28) rfl), rfl⟩
theorem pX10_lineUp_45 : At cX10_lineUp 45 (.invokevirtual 132) 3 48 := ⟨tX10_lineUp_0_ok (45, .invokevirtual 132, 3) (List.mem_of_getElem? (i := 29) rfl), rfl⟩
theorem pX10_lineUp_48 : At cX10_lineUp 48 (.aload_n 0) 1 49 := ⟨tX10_lineUp_0_ok (48, .aload_n 0, 1) (List.mem_of_getElem? (i := 30) rfl), rfl⟩
theorem pX10_lineUp_49 : At cX10_lineUp 49 (.iconst 1) 1 50 := ⟨tX10_lineUp_0_ok (49, .iconst 1, 1) (List.mem_of_getElem? (i := 31) rfl), rfl⟩
theorem pX10_lineUp_50 : At cX10_lineUp 50 (.iload_n 2) 1 51 := ⟨tX10_lineUp_0_ok (50, .iload_n 2, 1) (List.mem_of_getElem? (i := 32) rfl), rfl⟩
theorem pX10_lineUp_51 : At cX10_lineUp 51 (.aload_n 0) 1 52 := ⟨tX10_lineUp_0_ok (51, .aload_n 0, 1) (List.mem_of_getElem? (i := 33) rfl), rfl⟩
theorem pX10_lineUp_52 : At cX10_lineUp 52 (.getfield 9) 3 55 := ⟨tX10_lineUp_0_ok (52, .getfield 9, 3) (List.mem_of_getElem? (i := 34) rfl), rfl⟩
theorem pX10_lineUp_55 : At cX10_lineUp 55 (.iconst 0) 1 56 := ⟨tX10_lineUp_0_ok (55, .iconst 0, 1) (List.mem_of_getElem? (i := 35) rfl), rfl⟩
theorem pX10_lineUp_56 : At cX10_lineUp 56 (.iaload) 1 57 := ⟨tX10_lineUp_0_ok (56, .iaload, 1) (List.mem_of_getElem? (i := 36) rfl), rfl⟩
theorem pX10_lineUp_57 : At cX10_lineUp 57 (.iload_n 3) 1 58 := ⟨tX10_lineUp_0_ok (57, .iload_n 3, 1) (List.mem_of_getElem? (i := 37) rfl), rfl⟩
theorem pX10_lineUp_58 : At cX10_lineUp 58 (.iadd) 1 59 := ⟨tX10_lineUp_0_ok (58, .iadd, 1) (List.mem_of_getElem? (i := 38) rfl), rfl⟩
theorem pX10_lineUp_59 : At cX10_lineUp 59 (.invokevirtual 132) 3 62 := ⟨tX10_lineUp_0_ok (59, .invokevirtual 132, 3) (List.mem_of_getElem? (i := 39) rfl), rfl⟩
theorem pX10_lineUp_62 : Bt cX10_lineUp 62 (.if_icmp .ne 5) 5 67 65 := ⟨tX10_lineUp_0_ok (62, .if_icmp .ne 5, 3) (List.mem_of_getElem? (i := 40) rfl), by decide, rfl⟩
theorem pX10_lineUp_65 : At cX10_lineUp 65 (.iload_n 3) 1 66 := ⟨tX10_lineUp_0_ok (65, .iload_n 3, 1) (List.mem_of_getElem? (i := 41) rfl), rfl⟩
theorem pX10_lineUp_66 : At cX10_lineUp 66 (.ireturn) 1 67 := ⟨tX10_lineUp_0_ok (66, .ireturn, 1) (List.mem_of_getElem? (i := 42) rfl), rfl⟩
theorem pX10_lineUp_67 : At cX10_lineUp 67 (.iinc 3 1) 3 70 := ⟨tX10_lineUp_0_ok (67, .iinc 3 1, 3) (List.mem_of_getElem? (i := 43) rfl), rfl⟩
theorem pX10_lineUp_70 : Bt cX10_lineUp 70 (.goto (-46)) (-46) 24 73 := ⟨tX10_lineUp_0_ok (70, .goto (-46), 3) (List.mem_of_getElem? (i := 44) rfl), by decide, rfl⟩
theorem pX10_lineUp_73 : At cX10_lineUp 73 (.aload_n 0) 1 74 := ⟨tX10_lineUp_0_ok (73, .aload_n 0, 1) (List.mem_of_getElem? (i := 45) rfl), rfl⟩
theorem pX10_lineUp_74 : At cX10_lineUp 74 (.iconst 2) 1 75 := ⟨tX10_lineUp_0_ok (74, .iconst 2, 1) (List.mem_of_getElem? (i := 46) rfl), rfl⟩
theorem pX10_lineUp_75 : At cX10_lineUp 75 (.invokevirtual 79) 3 78 := ⟨tX10_lineUp_0_ok (75, .invokevirtual 79, 3) (List.mem_of_getElem? (i := 47) rfl), rfl⟩
theorem pX10_lineUp_78 : At cX10_lineUp 78 (.ireturn) 1 79 := ⟨tX10_lineUp_0_ok (78, .ireturn, 1) (List.mem_of_getElem? (i := 48) rfl), rfl⟩
def tX10_feed_0 : List (Nat × Instr × Nat) := [(0, .iload_n 3, 1), (1, .i2l, 1), (2, .lconst 1, 1), (3, .ldc2_w 135, 3), (6, .invokestatic 53, 3), (9, .ifCond .ne 9, 3), (12, .aload_n 0, 1), (13, .iconst 1, 1), (14, .invokevirtual 79, 3), (17, .ireturn, 1), (18, .aload_n 0, 1), (19, .getfield 9, 3), (22, .bipush 7, 2), (24, .iaload, 1), (25, .iload_n 3, 1), (26, .iadd, 1), (27, .bipush 50, 2), (29, .if_icmp .le 9, 3), (32, .aload_n 0, 1), (33, .iconst 4, 1), (34, .invokevirtual 79, 3), (37, .ireturn, 1), (38, .iconst 0, 1), (39, .istore 4, 2), (41, .iload 4, 2), (43, .iload_n 3, 1), (44, .if_icmp .ge 47, 3), (47, .aload_n 0, 1), (48, .getfield 9, 3), (51, .bipush 50, 2), (53, .aload_n 0, 1), (54, .getfield 9, 3), (57, .bipush 7, 2), (59, .iaload, 1), (60, .iadd, 1), (61, .lload_n 1, 1), (62, .bipush 8, 2), (64, .iload 4, 2), (66, .imul, 1), (67, .lshr, 1), (68, .ldc2_w 137, 3), (71, .land, 1), (72, .l2i, 1), (73, .iastore, 1), (74, .aload_n 0, 1), (75, .getfield 9, 3), (78, .bipush 7, 2), (80, .dup2, 1), (81, .iaload, 1), (82, .iconst 1, 1), (83, .iadd, 1), (84, .iastore, 1), (85, .iinc 4 1, 3), (88, .goto (-47), 3), (91, .aload_n 0, 1), (92, .getfield 9, 3), (95, .bipush 7, 2), (97, .iaload, 1), (98, .ireturn, 1)]
theorem tX10_feed_0_ok : ∀ q ∈ tX10_feed_0, decode cX10_feed q.1 = .ok (q.2.1, q.2.2) := by decide +kernel
theorem pX10_feed_0 : At cX10_feed 0 (.iload_n 3) 1 1 := ⟨tX10_feed_0_ok (0, .iload_n 3, 1) (List.mem_of_getElem? (i := 0) rfl), rfl⟩
theorem pX10_feed_1 : At cX10_feed 1 (.i2l) 1 2 := ⟨tX10_feed_0_ok (1, .i2l, 1) (List.mem_of_getElem? (i := 1) rfl), rfl⟩
theorem pX10_feed_2 : At cX10_feed 2 (.lconst 1) 1 3 := ⟨tX10_feed_0_ok (2, .lconst 1, 1) (List.mem_of_getElem? (i := 2) rfl), rfl⟩
theorem pX10_feed_3 : At cX10_feed 3 (.ldc2_w 135) 3 6 := ⟨tX10_feed_0_ok (3, .ldc2_w 135, 3) (List.mem_of_getElem? (i := 3) rfl), rfl⟩
theorem pX10_feed_6 : At cX10_feed 6 (.invokestatic 53) 3 9 := ⟨tX10_feed_0_ok (6, .invokestatic 53, 3) (List.mem_of_getElem? (i := 4) rfl), rfl⟩
theorem pX10_feed_9 : Bt cX10_feed 9 (.ifCond .ne 9) 9 18 12 := ⟨tX10_feed_0_ok (9, .ifCond .ne 9, 3) (List.mem_of_getElem? (i := 5) rfl), by decide, rfl⟩
theorem pX10_feed_12 : At cX10_feed 12 (.aload_n 0) 1 13 := ⟨tX10_feed_0_ok (12, .aload_n 0, 1) (List.mem_of_getElem? (i := 6) rfl), rfl⟩
theorem pX10_feed_13 : At cX10_feed 13 (.iconst 1) 1 14 := ⟨tX10_feed_0_ok (13, .iconst 1, 1) (List.mem_of_getElem? (i := 7) rfl), rfl⟩
theorem pX10_feed_14 : At cX10_feed 14 (.invokevirtual 79) 3 17 := ⟨tX10_feed_0_ok (14, .invokevirtual 79, 3) (List.mem_of_getElem? (i := 8) rfl), rfl⟩
theorem pX10_feed_17 : At cX10_feed 17 (.ireturn) 1 18 := ⟨tX10_feed_0_ok (17, .ireturn, 1) (List.mem_of_getElem? (i := 9) rfl), rfl⟩
theorem pX10_feed_18 : At cX10_feed 18 (.aload_n 0) 1 19 := ⟨tX10_feed_0_ok (18, .aload_n 0, 1) (List.mem_of_getElem? (i := 10) rfl), rfl⟩
theorem pX10_feed_19 : At cX10_feed 19 (.getfield 9) 3 22 := ⟨tX10_feed_0_ok (19, .getfield 9, 3) (List.mem_of_getElem? (i := 11) rfl), rfl⟩
theorem pX10_feed_22 : At cX10_feed 22 (.bipush 7) 2 24 := ⟨tX10_feed_0_ok (22, .bipush 7, 2) (List.mem_of_getElem? (i := 12) rfl), rfl⟩
theorem pX10_feed_24 : At cX10_feed 24 (.iaload) 1 25 := ⟨tX10_feed_0_ok (24, .iaload, 1) (List.mem_of_getElem? (i := 13) rfl), rfl⟩
theorem pX10_feed_25 : At cX10_feed 25 (.iload_n 3) 1 26 := ⟨tX10_feed_0_ok (25, .iload_n 3, 1) (List.mem_of_getElem? (i := 14) rfl), rfl⟩
theorem pX10_feed_26 : At cX10_feed 26 (.iadd) 1 27 := ⟨tX10_feed_0_ok (26, .iadd, 1) (List.mem_of_getElem? (i := 15) rfl), rfl⟩
theorem pX10_feed_27 : At cX10_feed 27 (.bipush 50) 2 29 := ⟨tX10_feed_0_ok (27, .bipush 50, 2) (List.mem_of_getElem? (i := 16) rfl), rfl⟩
theorem pX10_feed_29 : Bt cX10_feed 29 (.if_icmp .le 9) 9 38 32 := ⟨tX10_feed_0_ok (29, .if_icmp .le 9, 3) (List.mem_of_getElem? (i := 17) rfl), by decide, rfl⟩
theorem pX10_feed_32 : At cX10_feed 32 (.aload_n 0) 1 33 := ⟨tX10_feed_0_ok (32, .aload_n 0, 1) (List.mem_of_getElem? (i := 18) rfl), rfl⟩
theorem pX10_feed_33 : At cX10_feed 33 (.iconst 4) 1 34 := ⟨tX10_feed_0_ok (33, .iconst 4, 1) (List.mem_of_getElem? (i := 19) rfl), rfl⟩
theorem pX10_feed_34 : At cX10_feed 34 (.invokevirtual 79) 3 37 := ⟨tX10_feed_0_ok (34, .invokevirtual 79, 3) (List.mem_of_getElem? (i := 20) rfl), rfl⟩
theorem pX10_feed_37 : At cX10_feed 37 (.ireturn) 1 38 := ⟨tX10_feed_0_ok (37, .ireturn, 1) (List.mem_of_getElem? (i := 21) rfl), rfl⟩
theorem pX10_feed_38 : At cX10_feed 38 (.iconst 0) 1 39 := ⟨tX10_feed_0_ok (38, .iconst 0, 1) (List.mem_of_getElem? (i := 22) rfl), rfl⟩
theorem pX10_feed_39 : At cX10_feed 39 (.istore 4) 2 41 := ⟨tX10_feed_0_ok (39, .istore 4, 2) (List.mem_of_getElem? (i := 23) rfl), rfl⟩
theorem pX10_feed_41 : At cX10_feed 41 (.iload 4) 2 43 := ⟨tX10_feed_0_ok (41, .iload 4, 2) (List.mem_of_getElem? (i := 24) rfl), rfl⟩
theorem pX10_feed_43 : At cX10_feed 43 (.iload_n 3) 1 44 := ⟨tX10_feed_0_ok (43, .iload_n 3, 1) (List.mem_of_getElem? (i := 25) rfl), rfl⟩
theorem pX10_feed_44 : Bt cX10_feed 44 (.if_icmp .ge 47) 47 91 47 := ⟨tX10_feed_0_ok (44, .if_icmp .ge 47, 3) (List.mem_of_getElem? (i := 26) rfl), by decide, rfl⟩
theorem pX10_feed_47 : At cX10_feed 47 (.aload_n 0) 1 48 := ⟨tX10_feed_0_ok (47, .aload_n 0, 1) (List.mem_of_getElem? (i := 27) rfl), rfl⟩
theorem pX10_feed_48 : At cX10_feed 48 (.getfield 9) 3 51 := ⟨tX10_feed_0_ok (48, .getfield 9, 3) (List.mem_of_getElem? (i := 28) rfl), rfl⟩
theorem pX10_feed_51 : At cX10_feed 51 (.bipush 50) 2 53 := ⟨tX10_feed_0_ok (51, .bipush 50, 2) (List.mem_of_getElem? (i := 29) rfl), rfl⟩
theorem pX10_feed_53 : At cX10_feed 53 (.aload_n 0) 1 54 := ⟨tX10_feed_0_ok (53, .aload_n 0, 1) (List.mem_of_getElem? (i := 30) rfl), rfl⟩
theorem pX10_feed_54 : At cX10_feed 54 (.getfield 9) 3 57 := ⟨tX10_feed_0_ok (54, .getfield 9, 3) (List.mem_of_getElem? (i := 31) rfl), rfl⟩
theorem pX10_feed_57 : At cX10_feed 57 (.bipush 7) 2 59 := ⟨tX10_feed_0_ok (57, .bipush 7, 2) (List.mem_of_getElem? (i := 32) rfl), rfl⟩
theorem pX10_feed_59 : At cX10_feed 59 (.iaload) 1 60 := ⟨tX10_feed_0_ok (59, .iaload, 1) (List.mem_of_getElem? (i := 33) rfl), rfl⟩
theorem pX10_feed_60 : At cX10_feed 60 (.iadd) 1 61 := ⟨tX10_feed_0_ok (60, .iadd, 1) (List.mem_of_getElem? (i := 34) rfl), rfl⟩
theorem pX10_feed_61 : At cX10_feed 61 (.lload_n 1) 1 62 := ⟨tX10_feed_0_ok (61, .lload_n 1, 1) (List.mem_of_getElem? (i := 35) rfl), rfl⟩
theorem pX10_feed_62 : At cX10_feed 62 (.bipush 8) 2 64 := ⟨tX10_feed_0_ok (62, .bipush 8, 2) (List.mem_of_getElem? (i := 36) rfl), rfl⟩
theorem pX10_feed_64 : At cX10_feed 64 (.iload 4) 2 66 := ⟨tX10_feed_0_ok (64, .iload 4, 2) (List.mem_of_getElem? (i := 37) rfl), rfl⟩
theorem pX10_feed_66 : At cX10_feed 66 (.imul) 1 67 := ⟨tX10_feed_0_ok (66, .imul, 1) (List.mem_of_getElem? (i := 38) rfl), rfl⟩
theorem pX10_feed_67 : At cX10_feed 67 (.lshr) 1 68 := ⟨tX10_feed_0_ok (67, .lshr, 1) (List.mem_of_getElem? (i := 39) rfl), rfl⟩
theorem pX10_feed_68 : At cX10_feed 68 (.ldc2_w 137) 3 71 := ⟨tX10_feed_0_ok (68, .ldc2_w 137, 3) (List.mem_of_getElem? (i := 40) rfl), rfl⟩
theorem pX10_feed_71 : At cX10_feed 71 (.land) 1 72 := ⟨tX10_feed_0_ok (71, .land, 1) (List.mem_of_getElem? (i := 41) rfl), rfl⟩
theorem pX10_feed_72 : At cX10_feed 72 (.l2i) 1 73 := ⟨tX10_feed_0_ok (72, .l2i, 1) (List.mem_of_getElem? (i := 42) rfl), rfl⟩
theorem pX10_feed_73 : At cX10_feed 73 (.iastore) 1 74 := ⟨tX10_feed_0_ok (73, .iastore, 1) (List.mem_of_getElem? (i := 43) rfl), rfl⟩
theorem pX10_feed_74 : At cX10_feed 74 (.aload_n 0) 1 75 := ⟨tX10_feed_0_ok (74, .aload_n 0, 1) (List.mem_of_getElem? (i := 44) rfl), rfl⟩
theorem pX10_feed_75 : At cX10_feed 75 (.getfield 9) 3 78 := ⟨tX10_feed_0_ok (75, .getfield 9, 3) (List.mem_of_getElem? (i := 45) rfl), rfl⟩
theorem pX10_feed_78 : At cX10_feed 78 (.bipush 7) 2 80 := ⟨tX10_feed_0_ok (78, .bipush 7, 2) (List.mem_of_getElem? (i := 46) rfl), rfl⟩
theorem pX10_feed_80 : At cX10_feed 80 (.dup2) 1 81 := ⟨tX10_feed_0_ok (80, .dup2, 1) (List.mem_of_getElem? (i := 47) rfl), rfl⟩
theorem pX10_feed_81 : At cX10_feed 81 (.iaload) 1 82 := ⟨tX10_feed_0_ok (81, .iaload, 1) (List.mem_of_getElem? (i := 48) rfl), rfl⟩
theorem pX10_feed_82 : At cX10_feed 82 (.iconst 1) 1 83 := ⟨tX10_feed_0_ok (82, .iconst 1, 1) (List.mem_of_getElem? (i := 49) rfl), rfl⟩
theorem pX10_feed_83 : At cX10_feed 83 (.iadd) 1 84 := ⟨tX10_feed_0_ok (83, .iadd, 1) (List.mem_of_getElem? (i := 50) rfl), rfl⟩
theorem pX10_feed_84 : At cX10_feed 84 (.iastore) 1 85 := ⟨tX10_feed_0_ok (84, .iastore, 1) (List.mem_of_getElem? (i := 51) rfl), rfl⟩
theorem pX10_feed_85 : At cX10_feed 85 (.iinc 4 1) 3 88 := ⟨tX10_feed_0_ok (85, .iinc 4 1, 3) (List.mem_of_getElem? (i := 52) rfl), rfl⟩
theorem pX10_feed_88 : Bt cX10_feed 88 (.goto (-47)) (-47) 41 91 := ⟨tX10_feed_0_ok (88, .goto (-47), 3) (List.mem_of_getElem? (i := 53) rfl), by decide, rfl⟩
theorem pX10_feed_91 : At cX10_feed 91 (.aload_n 0) 1 92 := ⟨tX10_feed_0_ok (91, .aload_n 0, 1) (List.mem_of_getElem? (i := 54) rfl), rfl⟩
theorem pX10_feed_92 : At cX10_feed 92 (.getfield 9) 3 95 := ⟨tX10_feed_0_ok (92, .getfield 9, 3) (List.mem_of_getElem? (i := 55) rfl), rfl⟩
theorem pX10_feed_95 : At cX10_feed 95 (.bipush 7) 2 97 := ⟨tX10_feed_0_ok (95, .bipush 7, 2) (List.mem_of_getElem? (i := 56) rfl), rfl⟩
theorem pX10_feed_97 : At cX10_feed 97 (.iaload) 1 98 := ⟨tX10_feed_0_ok (97, .iaload, 1) (List.mem_of_getElem? (i := 57) rfl), rfl⟩
theorem pX10_feed_98 : At cX10_feed 98 (.ireturn) 1 99 := ⟨tX10_feed_0_ok (98, .ireturn, 1) (List.mem_of_getElem? (i := 58) rfl), rfl⟩
def tX10_here_0 : List (Nat × Instr × Nat) := [(0, .aload_n 0, 1), (1, .getfield 139, 3), (4, .aload_n 0, 1), (5, .getfield 9, 3), (8, .bipush 7, 2), (10, .iaload, 1), (11, .if_icmp .ge 18, 3), (14, .aload_n 0, 1), (15, .getfield 9, 3), (18, .bipush 50, 2), (20, .aload_n 0, 1), (21, .getfield 139, 3), (24, .iadd, 1), (25, .iaload, 1), (26, .goto 4, 3), (29, .iconst (-1), 1), (30, .ireturn, 1)]
theorem tX10_here_0_ok : ∀ q ∈ tX10_here_0, decode cX10_here q.1 = .ok (q.2.1, q.2.2) := by decide +kernel
theorem pX10_here_0 : At cX10_here 0 (.aload_n 0) 1 1 := ⟨tX10_here_0_ok (0, .aload_n 0, 1) (List.mem_of_getElem? (i := 0) rfl), rfl⟩
theorem pX10_here_1 : At cX10_here 1 (.getfield 139) 3 4 := ⟨tX10_here_0_ok (1, .getfield 139, 3) (List.mem_of_getElem? (i := 1) rfl), rfl⟩
theorem pX10_here_4 : At cX10_here 4 (.aload_n 0) 1 5 := ⟨tX10_here_0_ok (4, .aload_n 0, 1) (List.mem_of_getElem? (i := 2) rfl), rfl⟩
theorem pX10_here_5 : At cX10_here 5 (.getfield 9) 3 8 := ⟨tX10_here_0_ok (5, .getfield 9, 3) (List.mem_of_getElem? (i := 3) rfl), rfl⟩
theorem pX10_here_8 : At cX10_here 8 (.bipush 7) 2 10 := ⟨tX10_here_0_ok (8, .bipush 7, 2) (List.mem_of_getElem? (i := 4) rfl), rfl⟩
theorem pX10_here_10 : At cX10_here 10 (.iaload) 1 11 := ⟨tX10_here_0_ok (10, .iaload, 1) (List.mem_of_getElem? (i := 5) rfl), rfl⟩
theorem pX10_here_11 : Bt cX10_here 11 (.if_icmp .ge 18) 18 29 14 := ⟨tX10_here_0_ok (11, .if_icmp .ge 18, 3) (List.mem_of_getElem? (i := 6) rfl), by decide, rfl⟩
theorem pX10_here_14 : At cX10_here 14 (.aload_n 0) 1 15 := ⟨tX10_here_0_ok (14, .aload_n 0, 1) (List.mem_of_getElem? (i := 7) rfl), rfl⟩
theorem pX10_here_15 : At cX10_here 15 (.getfield 9) 3 18 := ⟨tX10_here_0_ok (15, .getfield 9, 3) (List.mem_of_getElem? (i := 8) rfl), rfl⟩
theorem pX10_here_18 : At cX10_here 18 (.bipush 50) 2 20 := ⟨tX10_here_0_ok (18, .bipush 50, 2) (List.mem_of_getElem? (i := 9) rfl), rfl⟩
theorem pX10_here_20 : At cX10_here 20 (.aload_n 0) 1 21 := ⟨tX10_here_0_ok (20, .aload_n 0, 1) (List.mem_of_getElem? (i := 10) rfl), rfl⟩
theorem pX10_here_21 : At cX10_here 21 (.getfield 139) 3 24 := ⟨tX10_here_0_ok (21, .getfield 139, 3) (List.mem_of_getElem? (i := 11) rfl), rfl⟩
theorem pX10_here_24 : At cX10_here 24 (.iadd) 1 25 := ⟨tX10_here_0_ok (24, .iadd, 1) (List.mem_of_getElem? (i := 12) rfl), rfl⟩
theorem pX10_here_25 : At cX10_here 25 (.iaload) 1 26 := ⟨tX10_here_0_ok (25, .iaload, 1) (List.mem_of_getElem? (i := 13) rfl), rfl⟩
theorem pX10_here_26 : Bt cX10_here 26 (.goto 4) 4 30 29 := ⟨tX10_here_0_ok (26, .goto 4, 3) (List.mem_of_getElem? (i := 14) rfl), by decide, rfl⟩
theorem pX10_here_29 : At cX10_here 29 (.iconst (-1)) 1 30 := ⟨tX10_here_0_ok (29, .iconst (-1), 1) (List.mem_of_getElem? (i := 15) rfl), rfl⟩
theorem pX10_here_30 : At cX10_here 30 (.ireturn) 1 31 := ⟨tX10_here_0_ok (30, .ireturn, 1) (List.mem_of_getElem? (i := 16) rfl), rfl⟩
def tX10_takes_0 : List (Nat × Instr × Nat) := [(0, .aload_n 0, 1), (1, .invokevirtual 143, 3), (4, .iload_n 1, 1), (5, .if_icmp .eq 5, 3), (8, .iconst 0, 1), (9, .ireturn, 1), (10, .aload_n 0, 1), (11, .dup, 1), (12, .getfield 139, 3), (15, .iconst 1, 1), (16, .iadd, 1), (17, .putfield 139, 3), (20, .iconst 1, 1), (21, .ireturn, 1)]
theorem tX10_takes_0_ok : ∀ q ∈ tX10_takes_0, decode cX10_takes q.1 = .ok (q.2.1, q.2.2) := by decide +kernel
theorem pX10_takes_0 : At cX10_takes 0 (.aload_n 0) 1 1 := ⟨tX10_takes_0_ok (0, .aload_n 0, 1) (List.mem_of_getElem? (i := 0) rfl), rfl⟩
theorem pX10_takes_1 : At cX10_takes 1 (.invokevirtual 143) 3 4 := ⟨tX10_takes_0_ok (1, .invokevirtual 143, 3) (List.mem_of_getElem? (i := 1) rfl), rfl⟩
theorem pX10_takes_4 : At cX10_takes 4 (.iload_n 1) 1 5 := ⟨tX10_takes_0_ok (4, .iload_n 1, 1) (List.mem_of_getElem? (i := 2) rfl), rfl⟩
theorem pX10_takes_5 : Bt cX10_takes 5 (.if_icmp .eq 5) 5 10 8 := ⟨tX10_takes_0_ok (5, .if_icmp .eq 5, 3) (List.mem_of_getElem? (i := 3) rfl), by decide, rfl⟩
theorem pX10_takes_8 : At cX10_takes 8 (.iconst 0) 1 9 := ⟨tX10_takes_0_ok (8, .iconst 0, 1) (List.mem_of_getElem? (i := 4) rfl), rfl⟩
theorem pX10_takes_9 : At cX10_takes 9 (.ireturn) 1 10 := ⟨tX10_takes_0_ok (9, .ireturn, 1) (List.mem_of_getElem? (i := 5) rfl), rfl⟩
theorem pX10_takes_10 : At cX10_takes 10 (.aload_n 0) 1 11 := ⟨tX10_takes_0_ok (10, .aload_n 0, 1) (List.mem_of_getElem? (i := 6) rfl), rfl⟩
theorem pX10_takes_11 : At cX10_takes 11 (.dup) 1 12 := ⟨tX10_takes_0_ok (11, .dup, 1) (List.mem_of_getElem? (i := 7) rfl), rfl⟩
theorem pX10_takes_12 : At cX10_takes 12 (.getfield 139) 3 15 := ⟨tX10_takes_0_ok (12, .getfield 139, 3) (List.mem_of_getElem? (i := 8) rfl), rfl⟩
theorem pX10_takes_15 : At cX10_takes 15 (.iconst 1) 1 16 := ⟨tX10_takes_0_ok (15, .iconst 1, 1) (List.mem_of_getElem? (i := 9) rfl), rfl⟩
theorem pX10_takes_16 : At cX10_takes 16 (.iadd) 1 17 := ⟨tX10_takes_0_ok (16, .iadd, 1) (List.mem_of_getElem? (i := 10) rfl), rfl⟩
theorem pX10_takes_17 : At cX10_takes 17 (.putfield 139) 3 20 := ⟨tX10_takes_0_ok (17, .putfield 139, 3) (List.mem_of_getElem? (i := 11) rfl), rfl⟩
theorem pX10_takes_20 : At cX10_takes 20 (.iconst 1) 1 21 := ⟨tX10_takes_0_ok (20, .iconst 1, 1) (List.mem_of_getElem? (i := 12) rfl), rfl⟩
theorem pX10_takes_21 : At cX10_takes 21 (.ireturn) 1 22 := ⟨tX10_takes_0_ok (21, .ireturn, 1) (List.mem_of_getElem? (i := 13) rfl), rfl⟩
def tX10_isDigit_0 : List (Nat × Instr × Nat) := [(0, .aload_n 0, 1), (1, .invokevirtual 143, 3), (4, .i2l, 1), (5, .ldc2_w 147, 3), (8, .ldc2_w 149, 3), (11, .invokestatic 53, 3), (14, .ireturn, 1)]
theorem tX10_isDigit_0_ok : ∀ q ∈ tX10_isDigit_0, decode cX10_isDigit q.1 = .ok (q.2.1, q.2.2) := by decide +kernel
theorem pX10_isDigit_0 : At cX10_isDigit 0 (.aload_n 0) 1 1 := ⟨tX10_isDigit_0_ok (0, .aload_n 0, 1) (List.mem_of_getElem? (i := 0) rfl), rfl⟩
theorem pX10_isDigit_1 : At cX10_isDigit 1 (.invokevirtual 143) 3 4 := ⟨tX10_isDigit_0_ok (1, .invokevirtual 143, 3) (List.mem_of_getElem? (i := 1) rfl), rfl⟩
theorem pX10_isDigit_4 : At cX10_isDigit 4 (.i2l) 1 5 := ⟨tX10_isDigit_0_ok (4, .i2l, 1) (List.mem_of_getElem? (i := 2) rfl), rfl⟩
theorem pX10_isDigit_5 : At cX10_isDigit 5 (.ldc2_w 147) 3 8 := ⟨tX10_isDigit_0_ok (5, .ldc2_w 147, 3) (List.mem_of_getElem? (i := 3) rfl), rfl⟩
theorem pX10_isDigit_8 : At cX10_isDigit 8 (.ldc2_w 149) 3 11 := ⟨tX10_isDigit_0_ok (8, .ldc2_w 149, 3) (List.mem_of_getElem? (i := 4) rfl), rfl⟩
theorem pX10_isDigit_11 : At cX10_isDigit 11 (.invokestatic 53) 3 14 := ⟨tX10_isDigit_0_ok (11, .invokestatic 53, 3) (List.mem_of_getElem? (i := 5) rfl), rfl⟩
theorem pX10_isDigit_14 : At cX10_isDigit 14 (.ireturn) 1 15 := ⟨tX10_isDigit_0_ok (14, .ireturn, 1) (List.mem_of_getElem? (i := 6) rfl), rfl⟩
def tX10_lays_0 : List (Nat × Instr × Nat) := [(0, .aload_n 0, 1), (1, .getfield 19, 3), (4, .iconst 2, 1), (5, .aload_n 0, 1), (6, .getfield 151, 3), (9, .imul, 1), (10, .iload_n 1, 1), (11, .iastore, 1), (12, .aload_n 0, 1), (13, .getfield 19, 3), (16, .iconst 2, 1), (17, .aload_n 0, 1), (18, .getfield 151, 3), (21, .imul, 1), (22, .iconst 1, 1), (23, .iadd, 1), (24, .iload_n 2, 1), (25, .iastore, 1), (26, .aload_n 0, 1), (27, .dup, 1), (28, .getfield 151, 3), (31, .iconst 1, 1), (32, .iadd, 1), (33, .putfield 151, 3), (36, .return_, 1)]
theorem tX10_lays_0_ok : ∀ q ∈ tX10_lays_0, decode cX10_lays q.1 = .ok (q.2.1, q.2.2) := by decide +kernel
theorem pX10_lays_0 : At cX10_lays 0 (.aload_n 0) 1 1 := ⟨tX10_lays_0_ok (0, .aload_n 0, 1) (List.mem_of_getElem? (i := 0) rfl), rfl⟩
theorem pX10_lays_1 : At cX10_lays 1 (.getfield 19) 3 4 := ⟨tX10_lays_0_ok (1, .getfield 19, 3) (List.mem_of_getElem? (i := 1) rfl), rfl⟩
theorem pX10_lays_4 : At cX10_lays 4 (.iconst 2) 1 5 := ⟨tX10_lays_0_ok (4, .iconst 2, 1) (List.mem_of_getElem? (i := 2) rfl), rfl⟩
theorem pX10_lays_5 : At cX10_lays 5 (.aload_n 0) 1 6 := ⟨tX10_lays_0_ok (5, .aload_n 0, 1) (List.mem_of_getElem? (i := 3) rfl), rfl⟩
theorem pX10_lays_6 : At cX10_lays 6 (.getfield 151) 3 9 := ⟨tX10_lays_0_ok (6, .getfield 151, 3) (List.mem_of_getElem? (i := 4) rfl), rfl⟩
theorem pX10_lays_9 : At cX10_lays 9 (.imul) 1 10 := ⟨tX10_lays_0_ok (9, .imul, 1) (List.mem_of_getElem? (i := 5) rfl), rfl⟩
theorem pX10_lays_10 : At cX10_lays 10 (.iload_n 1) 1 11 := ⟨tX10_lays_0_ok (10, .iload_n 1, 1) (List.mem_of_getElem? (i := 6) rfl), rfl⟩
theorem pX10_lays_11 : At cX10_lays 11 (.iastore) 1 12 := ⟨tX10_lays_0_ok (11, .iastore, 1) (List.mem_of_getElem? (i := 7) rfl), rfl⟩
theorem pX10_lays_12 : At cX10_lays 12 (.aload_n 0) 1 13 := ⟨tX10_lays_0_ok (12, .aload_n 0, 1) (List.mem_of_getElem? (i := 8) rfl), rfl⟩
theorem pX10_lays_13 : At cX10_lays 13 (.getfield 19) 3 16 := ⟨tX10_lays_0_ok (13, .getfield 19, 3) (List.mem_of_getElem? (i := 9) rfl), rfl⟩
theorem pX10_lays_16 : At cX10_lays 16 (.iconst 2) 1 17 := ⟨tX10_lays_0_ok (16, .iconst 2, 1) (List.mem_of_getElem? (i := 10) rfl), rfl⟩
theorem pX10_lays_17 : At cX10_lays 17 (.aload_n 0) 1 18 := ⟨tX10_lays_0_ok (17, .aload_n 0, 1) (List.mem_of_getElem? (i := 11) rfl), rfl⟩
theorem pX10_lays_18 : At cX10_lays 18 (.getfield 151) 3 21 := ⟨tX10_lays_0_ok (18, .getfield 151, 3) (List.mem_of_getElem? (i := 12) rfl), rfl⟩
theorem pX10_lays_21 : At cX10_lays 21 (.imul) 1 22 := ⟨tX10_lays_0_ok (21, .imul, 1) (List.mem_of_getElem? (i := 13) rfl), rfl⟩
theorem pX10_lays_22 : At cX10_lays 22 (.iconst 1) 1 23 := ⟨tX10_lays_0_ok (22, .iconst 1, 1) (List.mem_of_getElem? (i := 14) rfl), rfl⟩
theorem pX10_lays_23 : At cX10_lays 23 (.iadd) 1 24 := ⟨tX10_lays_0_ok (23, .iadd, 1) (List.mem_of_getElem? (i := 15) rfl), rfl⟩
theorem pX10_lays_24 : At cX10_lays 24 (.iload_n 2) 1 25 := ⟨tX10_lays_0_ok (24, .iload_n 2, 1) (List.mem_of_getElem? (i := 16) rfl), rfl⟩
theorem pX10_lays_25 : At cX10_lays 25 (.iastore) 1 26 := ⟨tX10_lays_0_ok (25, .iastore, 1) (List.mem_of_getElem? (i := 17) rfl), rfl⟩
theorem pX10_lays_26 : At cX10_lays 26 (.aload_n 0) 1 27 := ⟨tX10_lays_0_ok (26, .aload_n 0, 1) (List.mem_of_getElem? (i := 18) rfl), rfl⟩
theorem pX10_lays_27 : At cX10_lays 27 (.dup) 1 28 := ⟨tX10_lays_0_ok (27, .dup, 1) (List.mem_of_getElem? (i := 19) rfl), rfl⟩
theorem pX10_lays_28 : At cX10_lays 28 (.getfield 151) 3 31 := ⟨tX10_lays_0_ok (28, .getfield 151, 3) (List.mem_of_getElem? (i := 20) rfl), rfl⟩
theorem pX10_lays_31 : At cX10_lays 31 (.iconst 1) 1 32 := ⟨tX10_lays_0_ok (31, .iconst 1, 1) (List.mem_of_getElem? (i := 21) rfl), rfl⟩
theorem pX10_lays_32 : At cX10_lays 32 (.iadd) 1 33 := ⟨tX10_lays_0_ok (32, .iadd, 1) (List.mem_of_getElem? (i := 22) rfl), rfl⟩
theorem pX10_lays_33 : At cX10_lays 33 (.putfield 151) 3 36 := ⟨tX10_lays_0_ok (33, .putfield 151, 3) (List.mem_of_getElem? (i := 23) rfl), rfl⟩
theorem pX10_lays_36 : At cX10_lays 36 (.return_) 1 37 := ⟨tX10_lays_0_ok (36, .return_, 1) (List.mem_of_getElem? (i := 24) rfl), rfl⟩
def tX10_nameHere_0 : List (Nat × Instr × Nat) := [(0, .aload_n 0, 1), (1, .invokevirtual 143, 3), (4, .istore_n 1, 1), (5, .aload_n 0, 1), (6, .getfield 154, 3), (9, .ifCond .ne 25, 3), (12, .iload_n 1, 1), (13, .bipush 102, 2), (15, .if_icmp .ne 7, 3), (18, .iconst 0, 1), (19, .goto 14, 3), (22, .iload_n 1, 1), (23, .bipush 109, 2), (25, .if_icmp .ne 7, 3), (28, .iconst 1, 1), (29, .goto 4, 3), (32, .iconst (-1), 1), (33, .ireturn, 1), (34, .iload_n 1, 1), (35, .bipush 115, 2), (37, .if_icmp .ne 7, 3), (40, .iconst 0, 1), (41, .goto 24, 3), (44, .iload_n 1, 1), (45, .bipush 108, 2), (47, .if_icmp .ne 7, 3), (50, .iconst 1, 1), (51, .goto 14, 3), (54, .iload_n 1, 1), (55, .bipush 116, 2), (57, .if_icmp .ne 7, 3), (60, .iconst 2, 1), (61, .goto 4, 3), (64, .iconst (-1), 1), (65, .ireturn, 1)]
theorem tX10_nameHere_0_ok : ∀ q ∈ tX10_nameHere_0, decode cX10_nameHere q.1 = .ok (q.2.1, q.2.2) := by decide +kernel
theorem pX10_nameHere_0 : At cX10_nameHere 0 (.aload_n 0) 1 1 := ⟨tX10_nameHere_0_ok (0, .aload_n 0, 1) (List.mem_of_getElem? (i := 0) rfl), rfl⟩
theorem pX10_nameHere_1 : At cX10_nameHere 1 (.invokevirtual 143) 3 4 := ⟨tX10_nameHere_0_ok (1, .invokevirtual 143, 3) (List.mem_of_getElem? (i := 1) rfl), rfl⟩
theorem pX10_nameHere_4 : At cX10_nameHere 4 (.istore_n 1) 1 5 := ⟨tX10_nameHere_0_ok (4, .istore_n 1, 1) (List.mem_of_getElem? (i := 2) rfl), rfl⟩
theorem pX10_nameHere_5 : At cX10_nameHere 5 (.aload_n 0) 1 6 := ⟨tX10_nameHere_0_ok (5, .aload_n 0, 1) (List.mem_of_getElem? (i := 3) rfl), rfl⟩
theorem pX10_nameHere_6 : At cX10_nameHere 6 (.getfield 154) 3 9 := ⟨tX10_nameHere_0_ok (6, .getfield 154, 3) (List.mem_of_getElem? (i := 4) rfl), rfl⟩
theorem pX10_nameHere_9 : Bt cX10_nameHere 9 (.ifCond .ne 25) 25 34 12 := ⟨tX10_nameHere_0_ok (9, .ifCond .ne 25, 3) (List.mem_of_getElem? (i := 5) rfl), by decide, rfl⟩
theorem pX10_nameHere_12 : At cX10_nameHere 12 (.iload_n 1) 1 13 := ⟨tX10_nameHere_0_ok (12, .iload_n 1, 1) (List.mem_of_getElem? (i := 6) rfl), rfl⟩
theorem pX10_nameHere_13 : At cX10_nameHere 13 (.bipush 102) 2 15 := ⟨tX10_nameHere_0_ok (13, .bipush 102, 2) (List.mem_of_getElem? (i := 7) rfl), rfl⟩
theorem pX10_nameHere_15 : Bt cX10_nameHere 15 (.if_icmp .ne 7) 7 22 18 := ⟨tX10_nameHere_0_ok (15, .if_icmp .ne 7, 3) (List.mem_of_getElem? (i := 8) rfl), by decide, rfl⟩
theorem pX10_nameHere_18 : At cX10_nameHere 18 (.iconst 0) 1 19 := ⟨tX10_nameHere_0_ok (18, .iconst 0, 1) (List.mem_of_getElem? (i := 9) rfl), rfl⟩
theorem pX10_nameHere_19 : Bt cX10_nameHere 19 (.goto 14) 14 33 22 := ⟨tX10_nameHere_0_ok (19, .goto 14, 3) (List.mem_of_getElem? (i := 10) rfl), by decide, rfl⟩
theorem pX10_nameHere_22 : At cX10_nameHere 22 (.iload_n 1) 1 23 := ⟨tX10_nameHere_0_ok (22, .iload_n 1, 1) (List.mem_of_getElem? (i := 11) rfl), rfl⟩
theorem pX10_nameHere_23 : At cX10_nameHere 23 (.bipush 109) 2 25 := ⟨tX10_nameHere_0_ok (23, .bipush 109, 2) (List.mem_of_getElem? (i := 12) rfl), rfl⟩
theorem pX10_nameHere_25 : Bt cX10_nameHere 25 (.if_icmp .ne 7) 7 32 28 := ⟨tX10_nameHere_0_ok (25, .if_icmp .ne 7, 3) (List.mem_of_getElem? (i := 13) rfl), by decide, rfl⟩
theorem pX10_nameHere_28 : At cX10_nameHere 28 (.iconst 1) 1 29 := ⟨tX10_nameHere_0_ok (28, .iconst 1, 1) (List.mem_of_getElem? (i := 14) rfl), rfl⟩
theorem pX10_nameHere_29 : Bt cX10_nameHere 29 (.goto 4) 4 33 32 := ⟨tX10_nameHere_0_ok (29, .goto 4, 3) (List.mem_of_getElem? (i := 15) rfl), by decide, rfl⟩
theorem pX10_nameHere_32 : At cX10_nameHere 32 (.iconst (-1)) 1 33 := ⟨tX10_nameHere_0_ok (32, .iconst (-1), 1) (List.mem_of_getElem? (i := 16) rfl), rfl⟩
theorem pX10_nameHere_33 : At cX10_nameHere 33 (.ireturn) 1 34 := ⟨tX10_nameHere_0_ok (33, .ireturn, 1) (List.mem_of_getElem? (i := 17) rfl), rfl⟩
theorem pX10_nameHere_34 : At cX10_nameHere 34 (.iload_n 1) 1 35 := ⟨tX10_nameHere_0_ok (34, .iload_n 1, 1) (List.mem_of_getElem? (i := 18) rfl), rfl⟩
theorem pX10_nameHere_35 : At cX10_nameHere 35 (.bipush 115) 2 37 := ⟨tX10_nameHere_0_ok (35, .bipush 115, 2) (List.mem_of_getElem? (i := 19) rfl), rfl⟩
theorem pX10_nameHere_37 : Bt cX10_nameHere 37 (.if_icmp .ne 7) 7 44 40 := ⟨tX10_nameHere_0_ok (37, .if_icmp .ne 7, 3) (List.mem_of_getElem? (i := 20) rfl), by decide, rfl⟩
theorem pX10_nameHere_40 : At cX10_nameHere 40 (.iconst 0) 1 41 := ⟨tX10_nameHere_0_ok (40, .iconst 0, 1) (List.mem_of_getElem? (i := 21) rfl), rfl⟩
theorem pX10_nameHere_41 : Bt cX10_nameHere 41 (.goto 24) 24 65 44 := ⟨tX10_nameHere_0_ok (41, .goto 24, 3) (List.mem_of_getElem? (i := 22) rfl), by decide, rfl⟩
theorem pX10_nameHere_44 : At cX10_nameHere 44 (.iload_n 1) 1 45 := ⟨tX10_nameHere_0_ok (44, .iload_n 1, 1) (List.mem_of_getElem? (i := 23) rfl), rfl⟩
theorem pX10_nameHere_45 : At cX10_nameHere 45 (.bipush 108) 2 47 := ⟨tX10_nameHere_0_ok (45, .bipush 108, 2) (List.mem_of_getElem? (i := 24) rfl), rfl⟩
theorem pX10_nameHere_47 : Bt cX10_nameHere 47 (.if_icmp .ne 7) 7 54 50 := ⟨tX10_nameHere_0_ok (47, .if_icmp .ne 7, 3) (List.mem_of_getElem? (i := 25) rfl), by decide, rfl⟩
theorem pX10_nameHere_50 : At cX10_nameHere 50 (.iconst 1) 1 51 := ⟨tX10_nameHere_0_ok (50, .iconst 1, 1) (List.mem_of_getElem? (i := 26) rfl), rfl⟩
theorem pX10_nameHere_51 : Bt cX10_nameHere 51 (.goto 14) 14 65 54 := ⟨tX10_nameHere_0_ok (51, .goto 14, 3) (List.mem_of_getElem? (i := 27) rfl), by decide, rfl⟩
theorem pX10_nameHere_54 : At cX10_nameHere 54 (.iload_n 1) 1 55 := ⟨tX10_nameHere_0_ok (54, .iload_n 1, 1) (List.mem_of_getElem? (i := 28) rfl), rfl⟩
theorem pX10_nameHere_55 : At cX10_nameHere 55 (.bipush 116) 2 57 := ⟨tX10_nameHere_0_ok (55, .bipush 116, 2) (List.mem_of_getElem? (i := 29) rfl), rfl⟩
theorem pX10_nameHere_57 : Bt cX10_nameHere 57 (.if_icmp .ne 7) 7 64 60 := ⟨tX10_nameHere_0_ok (57, .if_icmp .ne 7, 3) (List.mem_of_getElem? (i := 30) rfl), by decide, rfl⟩
theorem pX10_nameHere_60 : At cX10_nameHere 60 (.iconst 2) 1 61 := ⟨tX10_nameHere_0_ok (60, .iconst 2, 1) (List.mem_of_getElem? (i := 31) rfl), rfl⟩
theorem pX10_nameHere_61 : Bt cX10_nameHere 61 (.goto 4) 4 65 64 := ⟨tX10_nameHere_0_ok (61, .goto 4, 3) (List.mem_of_getElem? (i := 32) rfl), by decide, rfl⟩
theorem pX10_nameHere_64 : At cX10_nameHere 64 (.iconst (-1)) 1 65 := ⟨tX10_nameHere_0_ok (64, .iconst (-1), 1) (List.mem_of_getElem? (i := 33) rfl), rfl⟩
theorem pX10_nameHere_65 : At cX10_nameHere 65 (.ireturn) 1 66 := ⟨tX10_nameHere_0_ok (65, .ireturn, 1) (List.mem_of_getElem? (i := 34) rfl), rfl⟩
def tX10_readsNumber_0 : List (Nat × Instr × Nat) := [(0, .iconst 0, 1), (1, .istore_n 1, 1), (2, .iconst 0, 1), (3, .istore_n 2, 1), (4, .iload_n 2, 1), (5, .iconst 4, 1), (6, .if_icmp .ge 39, 3), (9, .aload_n 0, 1), (10, .invokevirtual 157, 3), (13, .ifCond .eq 32, 3), (16, .bipush 10, 2), (18, .iload_n 1, 1), (19, .imul, 1), (20, .aload_n 0, 1), (21, .invokevirtual 143, 3), (24, .iadd, 1), (25, .bipush 48, 2), (27, .isub, 1), (28, .istore_n 1, 1), (29, .aload_n 0, 1), (30, .dup, 1), (31, .getfield 139, 3), (34, .iconst 1, 1), (35, .iadd, 1), (36, .putfield 139, 3), (39, .iinc 2 1, 3), (42, .goto (-38), 3), (45, .aload_n 0, 1), (46, .iconst 0, 1), (47, .iload_n 1, 1), (48, .invokevirtual 161, 3), (51, .iconst 1, 1), (52, .ireturn, 1)]
theorem tX10_readsNumber_0_ok : ∀ q ∈ tX10_readsNumber_0, decode cX10_readsNumber q.1 = .ok (q.2.1, q.2.2) := by decide +kernel
theorem pX10_readsNumber_0 : At cX10_readsNumber 0 (.iconst 0) 1 1 := ⟨tX10_readsNumber_0_ok (0, .iconst 0, 1) (List.mem_of_getElem? (i := 0) rfl), rfl⟩
theorem pX10_readsNumber_1 : At cX10_readsNumber 1 (.istore_n 1) 1 2 := ⟨tX10_readsNumber_0_ok (1, .istore_n 1, 1) (List.mem_of_getElem? (i := 1) rfl), rfl⟩
theorem pX10_readsNumber_2 : At cX10_readsNumber 2 (.iconst 0) 1 3 := ⟨tX10_readsNumber_0_ok (2, .iconst 0, 1) (List.mem_of_getElem? (i := 2) rfl), rfl⟩
theorem pX10_readsNumber_3 : At cX10_readsNumber 3 (.istore_n 2) 1 4 := ⟨tX10_readsNumber_0_ok (3, .istore_n 2, 1) (List.mem_of_getElem? (i := 3) rfl), rfl⟩
theorem pX10_readsNumber_4 : At cX10_readsNumber 4 (.iload_n 2) 1 5 := ⟨tX10_readsNumber_0_ok (4, .iload_n 2, 1) (List.mem_of_getElem? (i := 4) rfl), rfl⟩
theorem pX10_readsNumber_5 : At cX10_readsNumber 5 (.iconst 4) 1 6 := ⟨tX10_readsNumber_0_ok (5, .iconst 4, 1) (List.mem_of_getElem? (i := 5) rfl), rfl⟩
theorem pX10_readsNumber_6 : Bt cX10_readsNumber 6 (.if_icmp .ge 39) 39 45 9 := ⟨tX10_readsNumber_0_ok (6, .if_icmp .ge 39, 3) (List.mem_of_getElem? (i := 6) rfl), by decide, rfl⟩
theorem pX10_readsNumber_9 : At cX10_readsNumber 9 (.aload_n 0) 1 10 := ⟨tX10_readsNumber_0_ok (9, .aload_n 0, 1) (List.mem_of_getElem? (i := 7) rfl), rfl⟩
theorem pX10_readsNumber_10 : At cX10_readsNumber 10 (.invokevirtual 157) 3 13 := ⟨tX10_readsNumber_0_ok (10, .invokevirtual 157, 3) (List.mem_of_getElem? (i := 8) rfl), rfl⟩
theorem pX10_readsNumber_13 : Bt cX10_readsNumber 13 (.ifCond .eq 32) 32 45 16 := ⟨tX10_readsNumber_0_ok (13, .ifCond .eq 32, 3) (List.mem_of_getElem? (i := 9) rfl), by decide, rfl⟩
theorem pX10_readsNumber_16 : At cX10_readsNumber 16 (.bipush 10) 2 18 := ⟨tX10_readsNumber_0_ok (16, .bipush 10, 2) (List.mem_of_getElem? (i := 10) rfl), rfl⟩
theorem pX10_readsNumber_18 : At cX10_readsNumber 18 (.iload_n 1) 1 19 := ⟨tX10_readsNumber_0_ok (18, .iload_n 1, 1) (List.mem_of_getElem? (i := 11) rfl), rfl⟩
theorem pX10_readsNumber_19 : At cX10_readsNumber 19 (.imul) 1 20 := ⟨tX10_readsNumber_0_ok (19, .imul, 1) (List.mem_of_getElem? (i := 12) rfl), rfl⟩
theorem pX10_readsNumber_20 : At cX10_readsNumber 20 (.aload_n 0) 1 21 := ⟨tX10_readsNumber_0_ok (20, .aload_n 0, 1) (List.mem_of_getElem? (i := 13) rfl), rfl⟩
theorem pX10_readsNumber_21 : At cX10_readsNumber 21 (.invokevirtual 143) 3 24 := ⟨tX10_readsNumber_0_ok (21, .invokevirtual 143, 3) (List.mem_of_getElem? (i := 14) rfl), rfl⟩
theorem pX10_readsNumber_24 : At cX10_readsNumber 24 (.iadd) 1 25 := ⟨tX10_readsNumber_0_ok (24, .iadd, 1) (List.mem_of_getElem? (i := 15) rfl), rfl⟩
theorem pX10_readsNumber_25 : At cX10_readsNumber 25 (.bipush 48) 2 27 := ⟨tX10_readsNumber_0_ok (25, .bipush 48, 2) (List.mem_of_getElem? (i := 16) rfl), rfl⟩
theorem pX10_readsNumber_27 : At cX10_readsNumber 27 (.isub) 1 28 := ⟨tX10_readsNumber_0_ok (27, .isub, 1) (List.mem_of_getElem? (i := 17) rfl), rfl⟩
theorem pX10_readsNumber_28 : At cX10_readsNumber 28 (.istore_n 1) 1 29 := ⟨tX10_readsNumber_0_ok (28, .istore_n 1, 1) (List.mem_of_getElem? (i := 18) rfl), rfl⟩
theorem pX10_readsNumber_29 : At cX10_readsNumber 29 (.aload_n 0) 1 30 := ⟨tX10_readsNumber_0_ok (29, .aload_n 0, 1) (List.mem_of_getElem? (i := 19) rfl), rfl⟩
theorem pX10_readsNumber_30 : At cX10_readsNumber 30 (.dup) 1 31 := ⟨tX10_readsNumber_0_ok (30, .dup, 1) (List.mem_of_getElem? (i := 20) rfl), rfl⟩
theorem pX10_readsNumber_31 : At cX10_readsNumber 31 (.getfield 139) 3 34 := ⟨tX10_readsNumber_0_ok (31, .getfield 139, 3) (List.mem_of_getElem? (i := 21) rfl), rfl⟩
theorem pX10_readsNumber_34 : At cX10_readsNumber 34 (.iconst 1) 1 35 := ⟨tX10_readsNumber_0_ok (34, .iconst 1, 1) (List.mem_of_getElem? (i := 22) rfl), rfl⟩
theorem pX10_readsNumber_35 : At cX10_readsNumber 35 (.iadd) 1 36 := ⟨tX10_readsNumber_0_ok (35, .iadd, 1) (List.mem_of_getElem? (i := 23) rfl), rfl⟩
theorem pX10_readsNumber_36 : At cX10_readsNumber 36 (.putfield 139) 3 39 := ⟨tX10_readsNumber_0_ok (36, .putfield 139, 3) (List.mem_of_getElem? (i := 24) rfl), rfl⟩
theorem pX10_readsNumber_39 : At cX10_readsNumber 39 (.iinc 2 1) 3 42 := ⟨tX10_readsNumber_0_ok (39, .iinc 2 1, 3) (List.mem_of_getElem? (i := 25) rfl), rfl⟩
theorem pX10_readsNumber_42 : Bt cX10_readsNumber 42 (.goto (-38)) (-38) 4 45 := ⟨tX10_readsNumber_0_ok (42, .goto (-38), 3) (List.mem_of_getElem? (i := 26) rfl), by decide, rfl⟩
theorem pX10_readsNumber_45 : At cX10_readsNumber 45 (.aload_n 0) 1 46 := ⟨tX10_readsNumber_0_ok (45, .aload_n 0, 1) (List.mem_of_getElem? (i := 27) rfl), rfl⟩
theorem pX10_readsNumber_46 : At cX10_readsNumber 46 (.iconst 0) 1 47 := ⟨tX10_readsNumber_0_ok (46, .iconst 0, 1) (List.mem_of_getElem? (i := 28) rfl), rfl⟩
theorem pX10_readsNumber_47 : At cX10_readsNumber 47 (.iload_n 1) 1 48 := ⟨tX10_readsNumber_0_ok (47, .iload_n 1, 1) (List.mem_of_getElem? (i := 29) rfl), rfl⟩
theorem pX10_readsNumber_48 : At cX10_readsNumber 48 (.invokevirtual 161) 3 51 := ⟨tX10_readsNumber_0_ok (48, .invokevirtual 161, 3) (List.mem_of_getElem? (i := 30) rfl), rfl⟩
theorem pX10_readsNumber_51 : At cX10_readsNumber 51 (.iconst 1) 1 52 := ⟨tX10_readsNumber_0_ok (51, .iconst 1, 1) (List.mem_of_getElem? (i := 31) rfl), rfl⟩
theorem pX10_readsNumber_52 : At cX10_readsNumber 52 (.ireturn) 1 53 := ⟨tX10_readsNumber_0_ok (52, .ireturn, 1) (List.mem_of_getElem? (i := 32) rfl), rfl⟩
def tX10_isSign_0 : List (Nat × Instr × Nat) := [(0, .aload_n 0, 1), (1, .invokevirtual 143, 3), (4, .istore_n 2, 1), (5, .iload_n 1, 1), (6, .tableswitch 96 0 3 #[30, 42, 54, 78], 30), (36, .iload_n 2, 1), (37, .bipush 124, 2), (39, .if_icmp .ne 7, 3), (42, .iconst 1, 1), (43, .goto 4, 3), (46, .iconst 0, 1), (47, .ireturn, 1), (48, .iload_n 2, 1), (49, .bipush 38, 2), (51, .if_icmp .ne 7, 3), (54, .iconst 1, 1), (55, .goto 4, 3), (58, .iconst 0, 1), (59, .ireturn, 1), (60, .iload_n 2, 1), (61, .bipush 60, 2), (63, .if_icmp .eq 15, 3), (66, .iload_n 2, 1), (67, .bipush 61, 2), (69, .if_icmp .eq 9, 3), (72, .iload_n 2, 1), (73, .bipush 62, 2), (75, .if_icmp .ne 7, 3), (78, .iconst 1, 1), (79, .goto 4, 3), (82, .iconst 0, 1), (83, .ireturn, 1), (84, .iload_n 2, 1), (85, .bipush 43, 2), (87, .if_icmp .eq 9, 3), (90, .iload_n 2, 1), (91, .bipush 45, 2), (93, .if_icmp .ne 7, 3), (96, .iconst 1, 1), (97, .goto 4, 3), (100, .iconst 0, 1), (101, .ireturn, 1), (102, .iload_n 2, 1), (103, .bipush 42, 2), (105, .if_icmp .eq 15, 3), (108, .iload_n 2, 1), (109, .bipush 47, 2), (111, .if_icmp .eq 9, 3), (114, .iload_n 2, 1), (115, .bipush 37, 2), (117, .if_icmp .ne 7, 3), (120, .iconst 1, 1), (121, .goto 4, 3), (124, .iconst 0, 1), (125, .ireturn, 1)]
theorem tX10_isSign_0_ok : ∀ q ∈ tX10_isSign_0, decode cX10_isSign q.1 = .ok (q.2.1, q.2.2) := by decide +kernel
theorem pX10_isSign_0 : At cX10_isSign 0 (.aload_n 0) 1 1 := ⟨tX10_isSign_0_ok (0, .aload_n 0, 1) (List.mem_of_getElem? (i := 0) rfl), rfl⟩
theorem pX10_isSign_1 : At cX10_isSign 1 (.invokevirtual 143) 3 4 := ⟨tX10_isSign_0_ok (1, .invokevirtual 143, 3) (List.mem_of_getElem? (i := 1) rfl), rfl⟩
theorem pX10_isSign_4 : At cX10_isSign 4 (.istore_n 2) 1 5 := ⟨tX10_isSign_0_ok (4, .istore_n 2, 1) (List.mem_of_getElem? (i := 2) rfl), rfl⟩
theorem pX10_isSign_5 : At cX10_isSign 5 (.iload_n 1) 1 6 := ⟨tX10_isSign_0_ok (5, .iload_n 1, 1) (List.mem_of_getElem? (i := 3) rfl), rfl⟩
theorem pX10_isSign_6 : decode cX10_isSign 6 = .ok (.tableswitch 96 0 3 #[30, 42, 54, 78], 30) := tX10_isSign_0_ok (6, .tableswitch 96 0 3 #[30, 42, 54, 78], 30) (List.mem_of_getElem? (i := 4) rfl)
theorem pX10_isSign_36 : At cX10_isSign 36 (.iload_n 2) 1 37 := ⟨tX10_isSign_0_ok (36, .iload_n 2, 1) (List.mem_of_getElem? (i := 5) rfl), rfl⟩
theorem pX10_isSign_37 : At cX10_isSign 37 (.bipush 124) 2 39 := ⟨tX10_isSign_0_ok (37, .bipush 124, 2) (List.mem_of_getElem? (i := 6) rfl), rfl⟩
theorem pX10_isSign_39 : Bt cX10_isSign 39 (.if_icmp .ne 7) 7 46 42 := ⟨tX10_isSign_0_ok (39, .if_icmp .ne 7, 3) (List.mem_of_getElem? (i := 7) rfl), by decide, rfl⟩
theorem pX10_isSign_42 : At cX10_isSign 42 (.iconst 1) 1 43 := ⟨tX10_isSign_0_ok (42, .iconst 1, 1) (List.mem_of_getElem? (i := 8) rfl), rfl⟩
theorem pX10_isSign_43 : Bt cX10_isSign 43 (.goto 4) 4 47 46 := ⟨tX10_isSign_0_ok (43, .goto 4, 3) (List.mem_of_getElem? (i := 9) rfl), by decide, rfl⟩
theorem pX10_isSign_46 : At cX10_isSign 46 (.iconst 0) 1 47 := ⟨tX10_isSign_0_ok (46, .iconst 0, 1) (List.mem_of_getElem? (i := 10) rfl), rfl⟩
theorem pX10_isSign_47 : At cX10_isSign 47 (.ireturn) 1 48 := ⟨tX10_isSign_0_ok (47, .ireturn, 1) (List.mem_of_getElem? (i := 11) rfl), rfl⟩
theorem pX10_isSign_48 : At cX10_isSign 48 (.iload_n 2) 1 49 := ⟨tX10_isSign_0_ok (48, .iload_n 2, 1) (List.mem_of_getElem? (i := 12) rfl), rfl⟩
theorem pX10_isSign_49 : At cX10_isSign 49 (.bipush 38) 2 51 := ⟨tX10_isSign_0_ok (49, .bipush 38, 2) (List.mem_of_getElem? (i := 13) rfl), rfl⟩
theorem pX10_isSign_51 : Bt cX10_isSign 51 (.if_icmp .ne 7) 7 58 54 := ⟨tX10_isSign_0_ok (51, .if_icmp .ne 7, 3) (List.mem_of_getElem? (i := 14) rfl), by decide, rfl⟩
theorem pX10_isSign_54 : At cX10_isSign 54 (.iconst 1) 1 55 := ⟨tX10_isSign_0_ok (54, .iconst 1, 1) (List.mem_of_getElem? (i := 15) rfl), rfl⟩
theorem pX10_isSign_55 : Bt cX10_isSign 55 (.goto 4) 4 59 58 := ⟨tX10_isSign_0_ok (55, .goto 4, 3) (List.mem_of_getElem? (i := 16) rfl), by decide, rfl⟩
theorem pX10_isSign_58 : At cX10_isSign 58 (.iconst 0) 1 59 := ⟨tX10_isSign_0_ok (58, .iconst 0, 1) (List.mem_of_getElem? (i := 17) rfl), rfl⟩
theorem pX10_isSign_59 : At cX10_isSign 59 (.ireturn) 1 60 := ⟨tX10_isSign_0_ok (59, .ireturn, 1) (List.mem_of_getElem? (i := 18) rfl), rfl⟩
theorem pX10_isSign_60 : At cX10_isSign 60 (.iload_n 2) 1 61 := ⟨tX10_isSign_0_ok (60, .iload_n 2, 1) (List.mem_of_getElem? (i := 19) rfl), rfl⟩
theorem pX10_isSign_61 : At cX10_isSign 61 (.bipush 60) 2 63 := ⟨tX10_isSign_0_ok (61, .bipush 60, 2) (List.mem_of_getElem? (i := 20) rfl), rfl⟩
theorem pX10_isSign_63 : Bt cX10_isSign 63 (.if_icmp .eq 15) 15 78 66 := ⟨tX10_isSign_0_ok (63, .if_icmp .eq 15, 3) (List.mem_of_getElem? (i := 21) rfl), by decide, rfl⟩
theorem pX10_isSign_66 : At cX10_isSign 66 (.iload_n 2) 1 67 := ⟨tX10_isSign_0_ok (66, .iload_n 2, 1) (List.mem_of_getElem? (i := 22) rfl), rfl⟩
theorem pX10_isSign_67 : At cX10_isSign 67 (.bipush 61) 2 69 := ⟨tX10_isSign_0_ok (67, .bipush 61, 2) (List.mem_of_getElem? (i := 23) rfl), rfl⟩
theorem pX10_isSign_69 : Bt cX10_isSign 69 (.if_icmp .eq 9) 9 78 72 := ⟨tX10_isSign_0_ok (69, .if_icmp .eq 9, 3) (List.mem_of_getElem? (i := 24) rfl), by decide, rfl⟩
theorem pX10_isSign_72 : At cX10_isSign 72 (.iload_n 2) 1 73 := ⟨tX10_isSign_0_ok (72, .iload_n 2, 1) (List.mem_of_getElem? (i := 25) rfl), rfl⟩
theorem pX10_isSign_73 : At cX10_isSign 73 (.bipush 62) 2 75 := ⟨tX10_isSign_0_ok (73, .bipush 62, 2) (List.mem_of_getElem? (i := 26) rfl), rfl⟩
theorem pX10_isSign_75 : Bt cX10_isSign 75 (.if_icmp .ne 7) 7 82 78 := ⟨tX10_isSign_0_ok (75, .if_icmp .ne 7, 3) (List.mem_of_getElem? (i := 27) rfl), by decide, rfl⟩
theorem pX10_isSign_78 : At cX10_isSign 78 (.iconst 1) 1 79 := ⟨tX10_isSign_0_ok (78, .iconst 1, 1) (List.mem_of_getElem? (i := 28) rfl), rfl⟩
theorem pX10_isSign_79 : Bt cX10_isSign 79 (.goto 4) 4 83 82 := ⟨tX10_isSign_0_ok (79, .goto 4, 3) (List.mem_of_getElem? (i := 29) rfl), by decide, rfl⟩
theorem pX10_isSign_82 : At cX10_isSign 82 (.iconst 0) 1 83 := ⟨tX10_isSign_0_ok (82, .iconst 0, 1) (List.mem_of_getElem? (i := 30) rfl), rfl⟩
theorem pX10_isSign_83 : At cX10_isSign 83 (.ireturn) 1 84 := ⟨tX10_isSign_0_ok (83, .ireturn, 1) (List.mem_of_getElem? (i := 31) rfl), rfl⟩
theorem pX10_isSign_84 : At cX10_isSign 84 (.iload_n 2) 1 85 := ⟨tX10_isSign_0_ok (84, .iload_n 2, 1) (List.mem_of_getElem? (i := 32) rfl), rfl⟩
theorem pX10_isSign_85 : At cX10_isSign 85 (.bipush 43) 2 87 := ⟨tX10_isSign_0_ok (85, .bipush 43, 2) (List.mem_of_getElem? (i := 33) rfl), rfl⟩
theorem pX10_isSign_87 : Bt cX10_isSign 87 (.if_icmp .eq 9) 9 96 90 := ⟨tX10_isSign_0_ok (87, .if_icmp .eq 9, 3) (List.mem_of_getElem? (i := 34) rfl), by decide, rfl⟩
theorem pX10_isSign_90 : At cX10_isSign 90 (.iload_n 2) 1 91 := ⟨tX10_isSign_0_ok (90, .iload_n 2, 1) (List.mem_of_getElem? (i := 35) rfl), rfl⟩
theorem pX10_isSign_91 : At cX10_isSign 91 (.bipush 45) 2 93 := ⟨tX10_isSign_0_ok (91, .bipush 45, 2) (List.mem_of_getElem? (i := 36) rfl), rfl⟩
theorem pX10_isSign_93 : Bt cX10_isSign 93 (.if_icmp .ne 7) 7 100 96 := ⟨tX10_isSign_0_ok (93, .if_icmp .ne 7, 3) (List.mem_of_getElem? (i := 37) rfl), by decide, rfl⟩
theorem pX10_isSign_96 : At cX10_isSign 96 (.iconst 1) 1 97 := ⟨tX10_isSign_0_ok (96, .iconst 1, 1) (List.mem_of_getElem? (i := 38) rfl), rfl⟩
theorem pX10_isSign_97 : Bt cX10_isSign 97 (.goto 4) 4 101 100 := ⟨tX10_isSign_0_ok (97, .goto 4, 3) (List.mem_of_getElem? (i := 39) rfl), by decide, rfl⟩
theorem pX10_isSign_100 : At cX10_isSign 100 (.iconst 0) 1 101 := ⟨tX10_isSign_0_ok (100, .iconst 0, 1) (List.mem_of_getElem? (i := 40) rfl), rfl⟩
theorem pX10_isSign_101 : At cX10_isSign 101 (.ireturn) 1 102 := ⟨tX10_isSign_0_ok (101, .ireturn, 1) (List.mem_of_getElem? (i := 41) rfl), rfl⟩
theorem pX10_isSign_102 : At cX10_isSign 102 (.iload_n 2) 1 103 := ⟨tX10_isSign_0_ok (102, .iload_n 2, 1) (List.mem_of_getElem? (i := 42) rfl), rfl⟩
theorem pX10_isSign_103 : At cX10_isSign 103 (.bipush 42) 2 105 := ⟨tX10_isSign_0_ok (103, .bipush 42, 2) (List.mem_of_getElem? (i := 43) rfl), rfl⟩
theorem pX10_isSign_105 : Bt cX10_isSign 105 (.if_icmp .eq 15) 15 120 108 := ⟨tX10_isSign_0_ok (105, .if_icmp .eq 15, 3) (List.mem_of_getElem? (i := 44) rfl), by decide, rfl⟩
theorem pX10_isSign_108 : At cX10_isSign 108 (.iload_n 2) 1 109 := ⟨tX10_isSign_0_ok (108, .iload_n 2, 1) (List.mem_of_getElem? (i := 45) rfl), rfl⟩
theorem pX10_isSign_109 : At cX10_isSign 109 (.bipush 47) 2 111 := ⟨tX10_isSign_0_ok (109, .bipush 47, 2) (List.mem_of_getElem? (i := 46) rfl), rfl⟩
theorem pX10_isSign_111 : Bt cX10_isSign 111 (.if_icmp .eq 9) 9 120 114 := ⟨tX10_isSign_0_ok (111, .if_icmp .eq 9, 3) (List.mem_of_getElem? (i := 47) rfl), by decide, rfl⟩
theorem pX10_isSign_114 : At cX10_isSign 114 (.iload_n 2) 1 115 := ⟨tX10_isSign_0_ok (114, .iload_n 2, 1) (List.mem_of_getElem? (i := 48) rfl), rfl⟩
theorem pX10_isSign_115 : At cX10_isSign 115 (.bipush 37) 2 117 := ⟨tX10_isSign_0_ok (115, .bipush 37, 2) (List.mem_of_getElem? (i := 49) rfl), rfl⟩
theorem pX10_isSign_117 : Bt cX10_isSign 117 (.if_icmp .ne 7) 7 124 120 := ⟨tX10_isSign_0_ok (117, .if_icmp .ne 7, 3) (List.mem_of_getElem? (i := 50) rfl), by decide, rfl⟩
theorem pX10_isSign_120 : At cX10_isSign 120 (.iconst 1) 1 121 := ⟨tX10_isSign_0_ok (120, .iconst 1, 1) (List.mem_of_getElem? (i := 51) rfl), rfl⟩
theorem pX10_isSign_121 : Bt cX10_isSign 121 (.goto 4) 4 125 124 := ⟨tX10_isSign_0_ok (121, .goto 4, 3) (List.mem_of_getElem? (i := 52) rfl), by decide, rfl⟩
theorem pX10_isSign_124 : At cX10_isSign 124 (.iconst 0) 1 125 := ⟨tX10_isSign_0_ok (124, .iconst 0, 1) (List.mem_of_getElem? (i := 53) rfl), rfl⟩
theorem pX10_isSign_125 : At cX10_isSign 125 (.ireturn) 1 126 := ⟨tX10_isSign_0_ok (125, .ireturn, 1) (List.mem_of_getElem? (i := 54) rfl), rfl⟩
def tX10_readsQ_0 : List (Nat × Instr × Nat) := [(0, .aload_n 0, 1), (1, .invokevirtual 157, 3), (4, .ifCond .eq 8, 3), (7, .aload_n 0, 1), (8, .invokevirtual 165, 3), (11, .ireturn, 1), (12, .aload_n 0, 1), (13, .invokevirtual 168, 3), (16, .ifCond .lt 24, 3), (19, .aload_n 0, 1), (20, .iconst 1, 1), (21, .aload_n 0, 1), (22, .invokevirtual 168, 3), (25, .invokevirtual 161, 3), (28, .aload_n 0, 1), (29, .dup, 1), (30, .getfield 139, 3), (33, .iconst 1, 1), (34, .iadd, 1), (35, .putfield 139, 3), (38, .iconst 1, 1), (39, .ireturn, 1), (40, .aload_n 0, 1), (41, .invokevirtual 143, 3), (44, .istore_n 1, 1), (45, .iload_n 1, 1), (46, .bipush 33, 2), (48, .if_icmp .eq 9, 3), (51, .iload_n 1, 1), (52, .bipush 40, 2), (54, .if_icmp .ne 11, 3), (57, .aload_n 0, 1), (58, .getfield 171, 3), (61, .iconst 5, 1), (62, .if_icmp .ne 5, 3), (65, .iconst 0, 1), (66, .ireturn, 1), (67, .aload_n 0, 1), (68, .dup, 1), (69, .getfield 139, 3), (72, .iconst 1, 1), (73, .iadd, 1), (74, .putfield 139, 3), (77, .aload_n 0, 1), (78, .dup, 1), (79, .getfield 171, 3), (82, .iconst 1, 1), (83, .iadd, 1), (84, .putfield 171, 3), (87, .iload_n 1, 1), (88, .bipush 33, 2), (90, .if_icmp .ne 10, 3), (93, .aload_n 0, 1), (94, .invokevirtual 174, 3), (97, .goto 24, 3), (100, .aload_n 0, 1), (101, .invokevirtual 177, 3), (104, .ifCond .eq 16, 3), (107, .aload_n 0, 1), (108, .bipush 41, 2), (110, .invokevirtual 180, 3), (113, .ifCond .eq 7, 3), (116, .iconst 1, 1), (117, .goto 4, 3), (120, .iconst 0, 1), (121, .istore_n 2, 1), (122, .aload_n 0, 1), (123, .dup, 1), (124, .getfield 171, 3), (127, .iconst 1, 1), (128, .isub, 1), (129, .putfield 171, 3), (132, .iload_n 1, 1), (133, .bipush 33, 2), (135, .if_icmp .ne 13, 3), (138, .iload_n 2, 1), (139, .ifCond .eq 9, 3), (142, .aload_n 0, 1), (143, .iconst 3, 1), (144, .iconst 0, 1), (145, .invokevirtual 161, 3), (148, .iload_n 2, 1), (149, .ireturn, 1)]
theorem tX10_readsQ_0_ok : ∀ q ∈ tX10_readsQ_0, decode cX10_readsQ q.1 = .ok (q.2.1, q.2.2) := by decide +kernel
theorem pX10_readsQ_0 : At cX10_readsQ 0 (.aload_n 0) 1 1 := ⟨tX10_readsQ_0_ok (0, .aload_n 0, 1) (List.mem_of_getElem? (i := 0) rfl), rfl⟩
theorem pX10_readsQ_1 : At cX10_readsQ 1 (.invokevirtual 157) 3 4 := ⟨tX10_readsQ_0_ok (1, .invokevirtual 157, 3) (List.mem_of_getElem? (i := 1) rfl), rfl⟩
theorem pX10_readsQ_4 : Bt cX10_readsQ 4 (.ifCond .eq 8) 8 12 7 := ⟨tX10_readsQ_0_ok (4, .ifCond .eq 8, 3) (List.mem_of_getElem? (i := 2) rfl), by decide, rfl⟩
theorem pX10_readsQ_7 : At cX10_readsQ 7 (.aload_n 0) 1 8 := ⟨tX10_readsQ_0_ok (7, .aload_n 0, 1) (List.mem_of_getElem? (i := 3) rfl), rfl⟩
theorem pX10_readsQ_8 : At cX10_readsQ 8 (.invokevirtual 165) 3 11 := ⟨tX10_readsQ_0_ok (8, .invokevirtual 165, 3) (List.mem_of_getElem? (i := 4) rfl), rfl⟩
theorem pX10_readsQ_11 : At cX10_readsQ 11 (.ireturn) 1 12 := ⟨tX10_readsQ_0_ok (11, .ireturn, 1) (List.mem_of_getElem? (i := 5) rfl), rfl⟩
theorem pX10_readsQ_12 : At cX10_readsQ 12 (.aload_n 0) 1 13 := ⟨tX10_readsQ_0_ok (12, .aload_n 0, 1) (List.mem_of_getElem? (i := 6) rfl), rfl⟩
theorem pX10_readsQ_13 : At cX10_readsQ 13 (.invokevirtual 168) 3 16 := ⟨tX10_readsQ_0_ok (13, .invokevirtual 168, 3) (List.mem_of_getElem? (i := 7) rfl), rfl⟩
theorem pX10_readsQ_16 : Bt cX10_readsQ 16 (.ifCond .lt 24) 24 40 19 := ⟨tX10_readsQ_0_ok (16, .ifCond .lt 24, 3) (List.mem_of_getElem? (i := 8) rfl), by decide, rfl⟩
theorem pX10_readsQ_19 : At cX10_readsQ 19 (.aload_n 0) 1 20 := ⟨tX10_readsQ_0_ok (19, .aload_n 0, 1) (List.mem_of_getElem? (i := 9) rfl), rfl⟩
theorem pX10_readsQ_20 : At cX10_readsQ 20 (.iconst 1) 1 21 := ⟨tX10_readsQ_0_ok (20, .iconst 1, 1) (List.mem_of_getElem? (i := 10) rfl), rfl⟩
theorem pX10_readsQ_21 : At cX10_readsQ 21 (.aload_n 0) 1 22 := ⟨tX10_readsQ_0_ok (21, .aload_n 0, 1) (List.mem_of_getElem? (i := 11) rfl), rfl⟩
theorem pX10_readsQ_22 : At cX10_readsQ 22 (.invokevirtual 168) 3 25 := ⟨tX10_readsQ_0_ok (22, .invokevirtual 168, 3) (List.mem_of_getElem? (i := 12) rfl), rfl⟩
theorem pX10_readsQ_25 : At cX10_readsQ 25 (.invokevirtual 161) 3 28 := ⟨tX10_readsQ_0_ok (25, .invokevirtual 161, 3) (List.mem_of_getElem? (i := 13) rfl), rfl⟩
theorem pX10_readsQ_28 : At cX10_readsQ 28 (.aload_n 0) 1 29 := ⟨tX10_readsQ_0_ok (28, .aload_n 0, 1) (List.mem_of_getElem? (i := 14) rfl), rfl⟩
theorem pX10_readsQ_29 : At cX10_readsQ 29 (.dup) 1 30 := ⟨tX10_readsQ_0_ok (29, .dup, 1) (List.mem_of_getElem? (i := 15) rfl), rfl⟩
theorem pX10_readsQ_30 : At cX10_readsQ 30 (.getfield 139) 3 33 := ⟨tX10_readsQ_0_ok (30, .getfield 139, 3) (List.mem_of_getElem? (i := 16) rfl), rfl⟩
theorem pX10_readsQ_33 : At cX10_readsQ 33 (.iconst 1) 1 34 := ⟨tX10_readsQ_0_ok (33, .iconst 1, 1) (List.mem_of_getElem? (i := 17) rfl), rfl⟩
theorem pX10_readsQ_34 : At cX10_readsQ 34 (.iadd) 1 35 := ⟨tX10_readsQ_0_ok (34, .iadd, 1) (List.mem_of_getElem? (i := 18) rfl), rfl⟩
theorem pX10_readsQ_35 : At cX10_readsQ 35 (.putfield 139) 3 38 := ⟨tX10_readsQ_0_ok (35, .putfield 139, 3) (List.mem_of_getElem? (i := 19) rfl), rfl⟩
theorem pX10_readsQ_38 : At cX10_readsQ 38 (.iconst 1) 1 39 := ⟨tX10_readsQ_0_ok (38, .iconst 1, 1) (List.mem_of_getElem? (i := 20) rfl), rfl⟩
theorem pX10_readsQ_39 : At cX10_readsQ 39 (.ireturn) 1 40 := ⟨tX10_readsQ_0_ok (39, .ireturn, 1) (List.mem_of_getElem? (i := 21) rfl), rfl⟩
theorem pX10_readsQ_40 : At cX10_readsQ 40 (.aload_n 0) 1 41 := ⟨tX10_readsQ_0_ok (40, .aload_n 0, 1) (List.mem_of_getElem? (i := 22) rfl), rfl⟩
theorem pX10_readsQ_41 : At cX10_readsQ 41 (.invokevirtual 143) 3 44 := ⟨tX10_readsQ_0_ok (41, .invokevirtual 143, 3) (List.mem_of_getElem? (i := 23) rfl), rfl⟩
theorem pX10_readsQ_44 : At cX10_readsQ 44 (.istore_n 1) 1 45 := ⟨tX10_readsQ_0_ok (44, .istore_n 1, 1) (List.mem_of_getElem? (i := 24) rfl), rfl⟩
theorem pX10_readsQ_45 : At cX10_readsQ 45 (.iload_n 1) 1 46 := ⟨tX10_readsQ_0_ok (45, .iload_n 1, 1) (List.mem_of_getElem? (i := 25) rfl), rfl⟩
theorem pX10_readsQ_46 : At cX10_readsQ 46 (.bipush 33) 2 48 := ⟨tX10_readsQ_0_ok (46, .bipush 33, 2) (List.mem_of_getElem? (i := 26) rfl), rfl⟩
theorem pX10_readsQ_48 : Bt cX10_readsQ 48 (.if_icmp .eq 9) 9 57 51 := ⟨tX10_readsQ_0_ok (48, .if_icmp .eq 9, 3) (List.mem_of_getElem? (i := 27) rfl), by decide, rfl⟩
theorem pX10_readsQ_51 : At cX10_readsQ 51 (.iload_n 1) 1 52 := ⟨tX10_readsQ_0_ok (51, .iload_n 1, 1) (List.mem_of_getElem? (i := 28) rfl), rfl⟩
theorem pX10_readsQ_52 : At cX10_readsQ 52 (.bipush 40) 2 54 := ⟨tX10_readsQ_0_ok (52, .bipush 40, 2) (List.mem_of_getElem? (i := 29) rfl), rfl⟩
theorem pX10_readsQ_54 : Bt cX10_readsQ 54 (.if_icmp .ne 11) 11 65 57 := ⟨tX10_readsQ_0_ok (54, .if_icmp .ne 11, 3) (List.mem_of_getElem? (i := 30) rfl), by decide, rfl⟩
theorem pX10_readsQ_57 : At cX10_readsQ 57 (.aload_n 0) 1 58 := ⟨tX10_readsQ_0_ok (57, .aload_n 0, 1) (List.mem_of_getElem? (i := 31) rfl), rfl⟩
theorem pX10_readsQ_58 : At cX10_readsQ 58 (.getfield 171) 3 61 := ⟨tX10_readsQ_0_ok (58, .getfield 171, 3) (List.mem_of_getElem? (i := 32) rfl), rfl⟩
theorem pX10_readsQ_61 : At cX10_readsQ 61 (.iconst 5) 1 62 := ⟨tX10_readsQ_0_ok (61, .iconst 5, 1) (List.mem_of_getElem? (i := 33) rfl), rfl⟩
theorem pX10_readsQ_62 : Bt cX10_readsQ 62 (.if_icmp .ne 5) 5 67 65 := ⟨tX10_readsQ_0_ok (62, .if_icmp .ne 5, 3) (List.mem_of_getElem? (i := 34) rfl), by decide, rfl⟩
theorem pX10_readsQ_65 : At cX10_readsQ 65 (.iconst 0) 1 66 := ⟨tX10_readsQ_0_ok (65, .iconst 0, 1) (List.mem_of_getElem? (i := 35) rfl), rfl⟩
theorem pX10_readsQ_66 : At cX10_readsQ 66 (.ireturn) 1 67 := ⟨tX10_readsQ_0_ok (66, .ireturn, 1) (List.mem_of_getElem? (i := 36) rfl), rfl⟩
theorem pX10_readsQ_67 : At cX10_readsQ 67 (.aload_n 0) 1 68 := ⟨tX10_readsQ_0_ok (67, .aload_n 0, 1) (List.mem_of_getElem? (i := 37) rfl), rfl⟩
theorem pX10_readsQ_68 : At cX10_readsQ 68 (.dup) 1 69 := ⟨tX10_readsQ_0_ok (68, .dup, 1) (List.mem_of_getElem? (i := 38) rfl), rfl⟩
theorem pX10_readsQ_69 : At cX10_readsQ 69 (.getfield 139) 3 72 := ⟨tX10_readsQ_0_ok (69, .getfield 139, 3) (List.mem_of_getElem? (i := 39) rfl), rfl⟩
theorem pX10_readsQ_72 : At cX10_readsQ 72 (.iconst 1) 1 73 := ⟨tX10_readsQ_0_ok (72, .iconst 1, 1) (List.mem_of_getElem? (i := 40) rfl), rfl⟩
theorem pX10_readsQ_73 : At cX10_readsQ 73 (.iadd) 1 74 := ⟨tX10_readsQ_0_ok (73, .iadd, 1) (List.mem_of_getElem? (i := 41) rfl), rfl⟩
theorem pX10_readsQ_74 : At cX10_readsQ 74 (.putfield 139) 3 77 := ⟨tX10_readsQ_0_ok (74, .putfield 139, 3) (List.mem_of_getElem? (i := 42) rfl), rfl⟩
theorem pX10_readsQ_77 : At cX10_readsQ 77 (.aload_n 0) 1 78 := ⟨tX10_readsQ_0_ok (77, .aload_n 0, 1) (List.mem_of_getElem? (i := 43) rfl), rfl⟩
theorem pX10_readsQ_78 : At cX10_readsQ 78 (.dup) 1 79 := ⟨tX10_readsQ_0_ok (78, .dup, 1) (List.mem_of_getElem? (i := 44) rfl), rfl⟩
theorem pX10_readsQ_79 : At cX10_readsQ 79 (.getfield 171) 3 82 := ⟨tX10_readsQ_0_ok (79, .getfield 171, 3) (List.mem_of_getElem? (i := 45) rfl), rfl⟩
theorem pX10_readsQ_82 : At cX10_readsQ 82 (.iconst 1) 1 83 := ⟨tX10_readsQ_0_ok (82, .iconst 1, 1) (List.mem_of_getElem? (i := 46) rfl), rfl⟩
theorem pX10_readsQ_83 : At cX10_readsQ 83 (.iadd) 1 84 := ⟨tX10_readsQ_0_ok (83, .iadd, 1) (List.mem_of_getElem? (i := 47) rfl), rfl⟩
theorem pX10_readsQ_84 : At cX10_readsQ 84 (.putfield 171) 3 87 := ⟨tX10_readsQ_0_ok (84, .putfield 171, 3) (List.mem_of_getElem? (i := 48) rfl), rfl⟩
theorem pX10_readsQ_87 : At cX10_readsQ 87 (.iload_n 1) 1 88 := ⟨tX10_readsQ_0_ok (87, .iload_n 1, 1) (List.mem_of_getElem? (i := 49) rfl), rfl⟩
theorem pX10_readsQ_88 : At cX10_readsQ 88 (.bipush 33) 2 90 := ⟨tX10_readsQ_0_ok (88, .bipush 33, 2) (List.mem_of_getElem? (i := 50) rfl), rfl⟩
theorem pX10_readsQ_90 : Bt cX10_readsQ 90 (.if_icmp .ne 10) 10 100 93 := ⟨tX10_readsQ_0_ok (90, .if_icmp .ne 10, 3) (List.mem_of_getElem? (i := 51) rfl), by decide, rfl⟩
theorem pX10_readsQ_93 : At cX10_readsQ 93 (.aload_n 0) 1 94 := ⟨tX10_readsQ_0_ok (93, .aload_n 0, 1) (List.mem_of_getElem? (i := 52) rfl), rfl⟩
theorem pX10_readsQ_94 : At cX10_readsQ 94 (.invokevirtual 174) 3 97 := ⟨tX10_readsQ_0_ok (94, .invokevirtual 174, 3) (List.mem_of_getElem? (i := 53) rfl), rfl⟩
theorem pX10_readsQ_97 : Bt cX10_readsQ 97 (.goto 24) 24 121 100 := ⟨tX10_readsQ_0_ok (97, .goto 24, 3) (List.mem_of_getElem? (i := 54) rfl), by decide, rfl⟩
theorem pX10_readsQ_100 : At cX10_readsQ 100 (.aload_n 0) 1 101 := ⟨tX10_readsQ_0_ok (100, .aload_n 0, 1) (List.mem_of_getElem? (i := 55) rfl), rfl⟩
theorem pX10_readsQ_101 : At cX10_readsQ 101 (.invokevirtual 177) 3 104 := ⟨tX10_readsQ_0_ok (101, .invokevirtual 177, 3) (List.mem_of_getElem? (i := 56) rfl), rfl⟩
theorem pX10_readsQ_104 : Bt cX10_readsQ 104 (.ifCond .eq 16) 16 120 107 := ⟨tX10_readsQ_0_ok (104, .ifCond .eq 16, 3) (List.mem_of_getElem? (i := 57) rfl), by decide, rfl⟩
theorem pX10_readsQ_107 : At cX10_readsQ 107 (.aload_n 0) 1 108 := ⟨tX10_readsQ_0_ok (107, .aload_n 0, 1) (List.mem_of_getElem? (i := 58) rfl), rfl⟩
theorem pX10_readsQ_108 : At cX10_readsQ 108 (.bipush 41) 2 110 := ⟨tX10_readsQ_0_ok (108, .bipush 41, 2) (List.mem_of_getElem? (i := 59) rfl), rfl⟩
theorem pX10_readsQ_110 : At cX10_readsQ 110 (.invokevirtual 180) 3 113 := ⟨tX10_readsQ_0_ok (110, .invokevirtual 180, 3) (List.mem_of_getElem? (i := 60) rfl), rfl⟩
theorem pX10_readsQ_113 : Bt cX10_readsQ 113 (.ifCond .eq 7) 7 120 116 := ⟨tX10_readsQ_0_ok (113, .ifCond .eq 7, 3) (List.mem_of_getElem? (i := 61) rfl), by decide, rfl⟩
theorem pX10_readsQ_116 : At cX10_readsQ 116 (.iconst 1) 1 117 := ⟨tX10_readsQ_0_ok (116, .iconst 1, 1) (List.mem_of_getElem? (i := 62) rfl), rfl⟩
theorem pX10_readsQ_117 : Bt cX10_readsQ 117 (.goto 4) 4 121 120 := ⟨tX10_readsQ_0_ok (117, .goto 4, 3) (List.mem_of_getElem? (i := 63) rfl), by decide, rfl⟩
theorem pX10_readsQ_120 : At cX10_readsQ 120 (.iconst 0) 1 121 := ⟨tX10_readsQ_0_ok (120, .iconst 0, 1) (List.mem_of_getElem? (i := 64) rfl), rfl⟩
theorem pX10_readsQ_121 : At cX10_readsQ 121 (.istore_n 2) 1 122 := ⟨tX10_readsQ_0_ok (121, .istore_n 2, 1) (List.mem_of_getElem? (i := 65) rfl), rfl⟩
theorem pX10_readsQ_122 : At cX10_readsQ 122 (.aload_n 0) 1 123 := ⟨tX10_readsQ_0_ok (122, .aload_n 0, 1) (List.mem_of_getElem? (i := 66) rfl), rfl⟩
theorem pX10_readsQ_123 : At cX10_readsQ 123 (.dup) 1 124 := ⟨tX10_readsQ_0_ok (123, .dup, 1) (List.mem_of_getElem? (i := 67) rfl), rfl⟩
theorem pX10_readsQ_124 : At cX10_readsQ 124 (.getfield 171) 3 127 := ⟨tX10_readsQ_0_ok (124, .getfield 171, 3) (List.mem_of_getElem? (i := 68) rfl), rfl⟩
theorem pX10_readsQ_127 : At cX10_readsQ 127 (.iconst 1) 1 128 := ⟨tX10_readsQ_0_ok (127, .iconst 1, 1) (List.mem_of_getElem? (i := 69) rfl), rfl⟩
theorem pX10_readsQ_128 : At cX10_readsQ 128 (.isub) 1 129 := ⟨tX10_readsQ_0_ok (128, .isub, 1) (List.mem_of_getElem? (i := 70) rfl), rfl⟩
theorem pX10_readsQ_129 : At cX10_readsQ 129 (.putfield 171) 3 132 := ⟨tX10_readsQ_0_ok (129, .putfield 171, 3) (List.mem_of_getElem? (i := 71) rfl), rfl⟩
theorem pX10_readsQ_132 : At cX10_readsQ 132 (.iload_n 1) 1 133 := ⟨tX10_readsQ_0_ok (132, .iload_n 1, 1) (List.mem_of_getElem? (i := 72) rfl), rfl⟩
theorem pX10_readsQ_133 : At cX10_readsQ 133 (.bipush 33) 2 135 := ⟨tX10_readsQ_0_ok (133, .bipush 33, 2) (List.mem_of_getElem? (i := 73) rfl), rfl⟩
theorem pX10_readsQ_135 : Bt cX10_readsQ 135 (.if_icmp .ne 13) 13 148 138 := ⟨tX10_readsQ_0_ok (135, .if_icmp .ne 13, 3) (List.mem_of_getElem? (i := 74) rfl), by decide, rfl⟩
theorem pX10_readsQ_138 : At cX10_readsQ 138 (.iload_n 2) 1 139 := ⟨tX10_readsQ_0_ok (138, .iload_n 2, 1) (List.mem_of_getElem? (i := 75) rfl), rfl⟩
theorem pX10_readsQ_139 : Bt cX10_readsQ 139 (.ifCond .eq 9) 9 148 142 := ⟨tX10_readsQ_0_ok (139, .ifCond .eq 9, 3) (List.mem_of_getElem? (i := 76) rfl), by decide, rfl⟩
theorem pX10_readsQ_142 : At cX10_readsQ 142 (.aload_n 0) 1 143 := ⟨tX10_readsQ_0_ok (142, .aload_n 0, 1) (List.mem_of_getElem? (i := 77) rfl), rfl⟩
theorem pX10_readsQ_143 : At cX10_readsQ 143 (.iconst 3) 1 144 := ⟨tX10_readsQ_0_ok (143, .iconst 3, 1) (List.mem_of_getElem? (i := 78) rfl), rfl⟩
theorem pX10_readsQ_144 : At cX10_readsQ 144 (.iconst 0) 1 145 := ⟨tX10_readsQ_0_ok (144, .iconst 0, 1) (List.mem_of_getElem? (i := 79) rfl), rfl⟩
theorem pX10_readsQ_145 : At cX10_readsQ 145 (.invokevirtual 161) 3 148 := ⟨tX10_readsQ_0_ok (145, .invokevirtual 161, 3) (List.mem_of_getElem? (i := 80) rfl), rfl⟩
theorem pX10_readsQ_148 : At cX10_readsQ 148 (.iload_n 2) 1 149 := ⟨tX10_readsQ_0_ok (148, .iload_n 2, 1) (List.mem_of_getElem? (i := 81) rfl), rfl⟩
theorem pX10_readsQ_149 : At cX10_readsQ 149 (.ireturn) 1 150 := ⟨tX10_readsQ_0_ok (149, .ireturn, 1) (List.mem_of_getElem? (i := 82) rfl), rfl⟩
def tX10_readsT_0 : List (Nat × Instr × Nat) := [(0, .aload_n 0, 1), (1, .iconst 0, 1), (2, .invokevirtual 183, 3), (5, .ireturn, 1)]
theorem tX10_readsT_0_ok : ∀ q ∈ tX10_readsT_0, decode cX10_readsT q.1 = .ok (q.2.1, q.2.2) := by decide +kernel
theorem pX10_readsT_0 : At cX10_readsT 0 (.aload_n 0) 1 1 := ⟨tX10_readsT_0_ok (0, .aload_n 0, 1) (List.mem_of_getElem? (i := 0) rfl), rfl⟩
theorem pX10_readsT_1 : At cX10_readsT 1 (.iconst 0) 1 2 := ⟨tX10_readsT_0_ok (1, .iconst 0, 1) (List.mem_of_getElem? (i := 1) rfl), rfl⟩
theorem pX10_readsT_2 : At cX10_readsT 2 (.invokevirtual 183) 3 5 := ⟨tX10_readsT_0_ok (2, .invokevirtual 183, 3) (List.mem_of_getElem? (i := 2) rfl), rfl⟩
theorem pX10_readsT_5 : At cX10_readsT 5 (.ireturn) 1 6 := ⟨tX10_readsT_0_ok (5, .ireturn, 1) (List.mem_of_getElem? (i := 3) rfl), rfl⟩
def tX10_reads_0 : List (Nat × Instr × Nat) := [(0, .iload_n 1, 1), (1, .iconst 4, 1), (2, .if_icmp .ne 10, 3), (5, .aload_n 0, 1), (6, .invokevirtual 174, 3), (9, .goto 10, 3), (12, .aload_n 0, 1), (13, .iload_n 1, 1), (14, .iconst 1, 1), (15, .iadd, 1), (16, .invokevirtual 183, 3), (19, .istore_n 2, 1), (20, .iconst 0, 1), (21, .istore_n 3, 1), (22, .iload_n 2, 1), (23, .ifCond .eq 69, 3), (26, .aload_n 0, 1), (27, .iload_n 1, 1), (28, .invokevirtual 186, 3), (31, .ifCond .eq 61, 3), (34, .iload_n 1, 1), (35, .iconst 2, 1), (36, .if_icmp .ne 7, 3), (39, .iload_n 3, 1), (40, .ifCond .ne 52, 3), (43, .aload_n 0, 1), (44, .invokevirtual 143, 3), (47, .istore 4, 2), (49, .aload_n 0, 1), (50, .dup, 1), (51, .getfield 139, 3), (54, .iconst 1, 1), (55, .iadd, 1), (56, .putfield 139, 3), (59, .iinc 3 1, 3), (62, .iload_n 1, 1), (63, .iconst 4, 1), (64, .if_icmp .ne 10, 3), (67, .aload_n 0, 1), (68, .invokevirtual 174, 3), (71, .goto 10, 3), (74, .aload_n 0, 1), (75, .iload_n 1, 1), (76, .iconst 1, 1), (77, .iadd, 1), (78, .invokevirtual 183, 3), (81, .istore_n 2, 1), (82, .aload_n 0, 1), (83, .iconst 2, 1), (84, .iload 4, 2), (86, .invokevirtual 161, 3), (89, .goto (-67), 3), (92, .iload_n 2, 1), (93, .ireturn, 1)]
theorem tX10_reads_0_ok : ∀ q ∈ tX10_reads_0, decode cX10_reads q.1 = .ok (q.2.1, q.2.2) := by decide +kernel
theorem pX10_reads_0 : At cX10_reads 0 (.iload_n 1) 1 1 := ⟨tX10_reads_0_ok (0, .iload_n 1, 1) (List.mem_of_getElem? (i := 0) rfl), rfl⟩
theorem pX10_reads_1 : At cX10_reads 1 (.iconst 4) 1 2 := ⟨tX10_reads_0_ok (1, .iconst 4, 1) (List.mem_of_getElem? (i := 1) rfl), rfl⟩
theorem pX10_reads_2 : Bt cX10_reads 2 (.if_icmp .ne 10) 10 12 5 := ⟨tX10_reads_0_ok (2, .if_icmp .ne 10, 3) (List.mem_of_getElem? (i := 2) rfl), by decide, rfl⟩
theorem pX10_reads_5 : At cX10_reads 5 (.aload_n 0) 1 6 := ⟨tX10_reads_0_ok (5, .aload_n 0, 1) (List.mem_of_getElem? (i := 3) rfl), rfl⟩
theorem pX10_reads_6 : At cX10_reads 6 (.invokevirtual 174) 3 9 := ⟨tX10_reads_0_ok (6, .invokevirtual 174, 3) (List.mem_of_getElem? (i := 4) rfl), rfl⟩
theorem pX10_reads_9 : Bt cX10_reads 9 (.goto 10) 10 19 12 := ⟨tX10_reads_0_ok (9, .goto 10, 3) (List.mem_of_getElem? (i := 5) rfl), by decide, rfl⟩
theorem pX10_reads_12 : At cX10_reads 12 (.aload_n 0) 1 13 := ⟨tX10_reads_0_ok (12, .aload_n 0, 1) (List.mem_of_getElem? (i := 6) rfl), rfl⟩
theorem pX10_reads_13 : At cX10_reads 13 (.iload_n 1) 1 14 := ⟨tX10_reads_0_ok (13, .iload_n 1, 1) (List.mem_of_getElem? (i := 7) rfl), rfl⟩
theorem pX10_reads_14 : At cX10_reads 14 (.iconst 1) 1 15 := ⟨tX10_reads_0_ok (14, .iconst 1, 1) (List.mem_of_getElem? (i := 8) rfl), rfl⟩
theorem pX10_reads_15 : At cX10_reads 15 (.iadd) 1 16 := ⟨tX10_reads_0_ok (15, .iadd, 1) (List.mem_of_getElem? (i := 9) rfl), rfl⟩
theorem pX10_reads_16 : At cX10_reads 16 (.invokevirtual 183) 3 19 := ⟨tX10_reads_0_ok (16, .invokevirtual 183, 3) (List.mem_of_getElem? (i := 10) rfl), rfl⟩
theorem pX10_reads_19 : At cX10_reads 19 (.istore_n 2) 1 20 := ⟨tX10_reads_0_ok (19, .istore_n 2, 1) (List.mem_of_getElem? (i := 11) rfl), rfl⟩
theorem pX10_reads_20 : At cX10_reads 20 (.iconst 0) 1 21 := ⟨tX10_reads_0_ok (20, .iconst 0, 1) (List.mem_of_getElem? (i := 12) rfl), rfl⟩
theorem pX10_reads_21 : At cX10_reads 21 (.istore_n 3) 1 22 := ⟨tX10_reads_0_ok (21, .istore_n 3, 1) (List.mem_of_getElem? (i := 13) rfl), rfl⟩
theorem pX10_reads_22 : At cX10_reads 22 (.iload_n 2) 1 23 := ⟨tX10_reads_0_ok (22, .iload_n 2, 1) (List.mem_of_getElem? (i := 14) rfl), rfl⟩
theorem pX10_reads_23 : Bt cX10_reads 23 (.ifCond .eq 69) 69 92 26 := ⟨tX10_reads_0_ok (23, .ifCond .eq 69, 3) (List.mem_of_getElem? (i := 15) rfl), by decide, rfl⟩
theorem pX10_reads_26 : At cX10_reads 26 (.aload_n 0) 1 27 := ⟨tX10_reads_0_ok (26, .aload_n 0, 1) (List.mem_of_getElem? (i := 16) rfl), rfl⟩
theorem pX10_reads_27 : At cX10_reads 27 (.iload_n 1) 1 28 := ⟨tX10_reads_0_ok (27, .iload_n 1, 1) (List.mem_of_getElem? (i := 17) rfl), rfl⟩
theorem pX10_reads_28 : At cX10_reads 28 (.invokevirtual 186) 3 31 := ⟨tX10_reads_0_ok (28, .invokevirtual 186, 3) (List.mem_of_getElem? (i := 18) rfl), rfl⟩
theorem pX10_reads_31 : Bt cX10_reads 31 (.ifCond .eq 61) 61 92 34 := ⟨tX10_reads_0_ok (31, .ifCond .eq 61, 3) (List.mem_of_getElem? (i := 19) rfl), by decide, rfl⟩
theorem pX10_reads_34 : At cX10_reads 34 (.iload_n 1) 1 35 := ⟨tX10_reads_0_ok (34, .iload_n 1, 1) (List.mem_of_getElem? (i := 20) rfl), rfl⟩
theorem pX10_reads_35 : At cX10_reads 35 (.iconst 2) 1 36 := ⟨tX10_reads_0_ok (35, .iconst 2, 1) (List.mem_of_getElem? (i := 21) rfl), rfl⟩
theorem pX10_reads_36 : Bt cX10_reads 36 (.if_icmp .ne 7) 7 43 39 := ⟨tX10_reads_0_ok (36, .if_icmp .ne 7, 3) (List.mem_of_getElem? (i := 22) rfl), by decide, rfl⟩
theorem pX10_reads_39 : At cX10_reads 39 (.iload_n 3) 1 40 := ⟨tX10_reads_0_ok (39, .iload_n 3, 1) (List.mem_of_getElem? (i := 23) rfl), rfl⟩
theorem pX10_reads_40 : Bt cX10_reads 40 (.ifCond .ne 52) 52 92 43 := ⟨tX10_reads_0_ok (40, .ifCond .ne 52, 3) (List.mem_of_getElem? (i := 24) rfl), by decide, rfl⟩
theorem pX10_reads_43 : At cX10_reads 43 (.aload_n 0) 1 44 := ⟨tX10_reads_0_ok (43, .aload_n 0, 1) (List.mem_of_getElem? (i := 25) rfl), rfl⟩
theorem pX10_reads_44 : At cX10_reads 44 (.invokevirtual 143) 3 47 := ⟨tX10_reads_0_ok (44, .invokevirtual 143, 3) (List.mem_of_getElem? (i := 26) rfl), rfl⟩
theorem pX10_reads_47 : At cX10_reads 47 (.istore 4) 2 49 := ⟨tX10_reads_0_ok (47, .istore 4, 2) (List.mem_of_getElem? (i := 27) rfl), rfl⟩
theorem pX10_reads_49 : At cX10_reads 49 (.aload_n 0) 1 50 := ⟨tX10_reads_0_ok (49, .aload_n 0, 1) (List.mem_of_getElem? (i := 28) rfl), rfl⟩
theorem pX10_reads_50 : At cX10_reads 50 (.dup) 1 51 := ⟨tX10_reads_0_ok (50, .dup, 1) (List.mem_of_getElem? (i := 29) rfl), rfl⟩
theorem pX10_reads_51 : At cX10_reads 51 (.getfield 139) 3 54 := ⟨tX10_reads_0_ok (51, .getfield 139, 3) (List.mem_of_getElem? (i := 30) rfl), rfl⟩
theorem pX10_reads_54 : At cX10_reads 54 (.iconst 1) 1 55 := ⟨tX10_reads_0_ok (54, .iconst 1, 1) (List.mem_of_getElem? (i := 31) rfl), rfl⟩
theorem pX10_reads_55 : At cX10_reads 55 (.iadd) 1 56 := ⟨tX10_reads_0_ok (55, .iadd, 1) (List.mem_of_getElem? (i := 32) rfl), rfl⟩
theorem pX10_reads_56 : At cX10_reads 56 (.putfield 139) 3 59 := ⟨tX10_reads_0_ok (56, .putfield 139, 3) (List.mem_of_getElem? (i := 33) rfl), rfl⟩
theorem pX10_reads_59 : At cX10_reads 59 (.iinc 3 1) 3 62 := ⟨tX10_reads_0_ok (59, .iinc 3 1, 3) (List.mem_of_getElem? (i := 34) rfl), rfl⟩
theorem pX10_reads_62 : At cX10_reads 62 (.iload_n 1) 1 63 := ⟨tX10_reads_0_ok (62, .iload_n 1, 1) (List.mem_of_getElem? (i := 35) rfl), rfl⟩
theorem pX10_reads_63 : At cX10_reads 63 (.iconst 4) 1 64 := ⟨tX10_reads_0_ok (63, .iconst 4, 1) (List.mem_of_getElem? (i := 36) rfl), rfl⟩
theorem pX10_reads_64 : Bt cX10_reads 64 (.if_icmp .ne 10) 10 74 67 := ⟨tX10_reads_0_ok (64, .if_icmp .ne 10, 3) (List.mem_of_getElem? (i := 37) rfl), by decide, rfl⟩
theorem pX10_reads_67 : At cX10_reads 67 (.aload_n 0) 1 68 := ⟨tX10_reads_0_ok (67, .aload_n 0, 1) (List.mem_of_getElem? (i := 38) rfl), rfl⟩
theorem pX10_reads_68 : At cX10_reads 68 (.invokevirtual 174) 3 71 := ⟨tX10_reads_0_ok (68, .invokevirtual 174, 3) (List.mem_of_getElem? (i := 39) rfl), rfl⟩
theorem pX10_reads_71 : Bt cX10_reads 71 (.goto 10) 10 81 74 := ⟨tX10_reads_0_ok (71, .goto 10, 3) (List.mem_of_getElem? (i := 40) rfl), by decide, rfl⟩
theorem pX10_reads_74 : At cX10_reads 74 (.aload_n 0) 1 75 := ⟨tX10_reads_0_ok (74, .aload_n 0, 1) (List.mem_of_getElem? (i := 41) rfl), rfl⟩
theorem pX10_reads_75 : At cX10_reads 75 (.iload_n 1) 1 76 := ⟨tX10_reads_0_ok (75, .iload_n 1, 1) (List.mem_of_getElem? (i := 42) rfl), rfl⟩
theorem pX10_reads_76 : At cX10_reads 76 (.iconst 1) 1 77 := ⟨tX10_reads_0_ok (76, .iconst 1, 1) (List.mem_of_getElem? (i := 43) rfl), rfl⟩
theorem pX10_reads_77 : At cX10_reads 77 (.iadd) 1 78 := ⟨tX10_reads_0_ok (77, .iadd, 1) (List.mem_of_getElem? (i := 44) rfl), rfl⟩
theorem pX10_reads_78 : At cX10_reads 78 (.invokevirtual 183) 3 81 := ⟨tX10_reads_0_ok (78, .invokevirtual 183, 3) (List.mem_of_getElem? (i := 45) rfl), rfl⟩
theorem pX10_reads_81 : At cX10_reads 81 (.istore_n 2) 1 82 := ⟨tX10_reads_0_ok (81, .istore_n 2, 1) (List.mem_of_getElem? (i := 46) rfl), rfl⟩
theorem pX10_reads_82 : At cX10_reads 82 (.aload_n 0) 1 83 := ⟨tX10_reads_0_ok (82, .aload_n 0, 1) (List.mem_of_getElem? (i := 47) rfl), rfl⟩
theorem pX10_reads_83 : At cX10_reads 83 (.iconst 2) 1 84 := ⟨tX10_reads_0_ok (83, .iconst 2, 1) (List.mem_of_getElem? (i := 48) rfl), rfl⟩
theorem pX10_reads_84 : At cX10_reads 84 (.iload 4) 2 86 := ⟨tX10_reads_0_ok (84, .iload 4, 2) (List.mem_of_getElem? (i := 49) rfl), rfl⟩
theorem pX10_reads_86 : At cX10_reads 86 (.invokevirtual 161) 3 89 := ⟨tX10_reads_0_ok (86, .invokevirtual 161, 3) (List.mem_of_getElem? (i := 50) rfl), rfl⟩
theorem pX10_reads_89 : Bt cX10_reads 89 (.goto (-67)) (-67) 22 92 := ⟨tX10_reads_0_ok (89, .goto (-67), 3) (List.mem_of_getElem? (i := 51) rfl), by decide, rfl⟩
theorem pX10_reads_92 : At cX10_reads 92 (.iload_n 2) 1 93 := ⟨tX10_reads_0_ok (92, .iload_n 2, 1) (List.mem_of_getElem? (i := 52) rfl), rfl⟩
theorem pX10_reads_93 : At cX10_reads 93 (.ireturn) 1 94 := ⟨tX10_reads_0_ok (93, .ireturn, 1) (List.mem_of_getElem? (i := 53) rfl), rfl⟩
def tX10_text_0 : List (Nat × Instr × Nat) := [(0, .iload_n 1, 1), (1, .i2l, 1), (2, .lconst 0, 1), (3, .lconst 1, 1), (4, .invokestatic 53, 3), (7, .ifCond .ne 9, 3), (10, .aload_n 0, 1), (11, .iconst 1, 1), (12, .invokevirtual 79, 3), (15, .ireturn, 1), (16, .aload_n 0, 1), (17, .iload_n 1, 1), (18, .putfield 154, 3), (21, .aload_n 0, 1), (22, .iconst 0, 1), (23, .putfield 139, 3), (26, .aload_n 0, 1), (27, .iconst 0, 1), (28, .putfield 171, 3), (31, .aload_n 0, 1), (32, .iconst 0, 1), (33, .putfield 151, 3), (36, .aload_n 0, 1), (37, .invokevirtual 177, 3), (40, .ifCond .eq 21, 3), (43, .aload_n 0, 1), (44, .getfield 139, 3), (47, .aload_n 0, 1), (48, .getfield 9, 3), (51, .bipush 7, 2), (53, .iaload, 1), (54, .if_icmp .ne 7, 3), (57, .iconst 1, 1), (58, .goto 4, 3), (61, .iconst 0, 1), (62, .istore_n 2, 1), (63, .aload_n 0, 1), (64, .getfield 9, 3), (67, .bipush 7, 2), (69, .iconst 0, 1), (70, .iastore, 1), (71, .iload_n 2, 1), (72, .ifCond .ne 11, 3), (75, .bipush (-10), 2), (77, .aload_n 0, 1), (78, .getfield 139, 3), (81, .isub, 1), (82, .ireturn, 1), (83, .bipush 120, 2), (85, .bipush 101, 2), (87, .iload_n 1, 1), (88, .imul, 1), (89, .iadd, 1), (90, .istore_n 3, 1), (91, .aload_n 0, 1), (92, .getfield 9, 3), (95, .iload_n 3, 1), (96, .aload_n 0, 1), (97, .getfield 151, 3), (100, .iastore, 1), (101, .iconst 0, 1), (102, .istore 4, 2), (104, .iload 4, 2), (106, .iconst 2, 1), (107, .aload_n 0, 1), (108, .getfield 151, 3), (111, .imul, 1), (112, .if_icmp .ge 27, 3), (115, .aload_n 0, 1), (116, .getfield 9, 3), (119, .iload_n 3, 1), (120, .iconst 1, 1), (121, .iadd, 1), (122, .iload 4, 2), (124, .iadd, 1), (125, .aload_n 0, 1), (126, .getfield 19, 3), (129, .iload 4, 2), (131, .iaload, 1), (132, .iastore, 1), (133, .iinc 4 1, 3), (136, .goto (-32), 3), (139, .iconst 1, 1), (140, .ireturn, 1)]
theorem tX10_text_0_ok : ∀ q ∈ tX10_text_0, decode cX10_text q.1 = .ok (q.2.1, q.2.2) := by decide +kernel
theorem pX10_text_0 : At cX10_text 0 (.iload_n 1) 1 1 := ⟨tX10_text_0_ok (0, .iload_n 1, 1) (List.mem_of_getElem? (i := 0) rfl), rfl⟩
theorem pX10_text_1 : At cX10_text 1 (.i2l) 1 2 := ⟨tX10_text_0_ok (1, .i2l, 1) (List.mem_of_getElem? (i := 1) rfl), rfl⟩
theorem pX10_text_2 : At cX10_text 2 (.lconst 0) 1 3 := ⟨tX10_text_0_ok (2, .lconst 0, 1) (List.mem_of_getElem? (i := 2) rfl), rfl⟩
theorem pX10_text_3 : At cX10_text 3 (.lconst 1) 1 4 := ⟨tX10_text_0_ok (3, .lconst 1, 1) (List.mem_of_getElem? (i := 3) rfl), rfl⟩
theorem pX10_text_4 : At cX10_text 4 (.invokestatic 53) 3 7 := ⟨tX10_text_0_ok (4, .invokestatic 53, 3) (List.mem_of_getElem? (i := 4) rfl), rfl⟩
theorem pX10_text_7 : Bt cX10_text 7 (.ifCond .ne 9) 9 16 10 := ⟨tX10_text_0_ok (7, .ifCond .ne 9, 3) (List.mem_of_getElem? (i := 5) rfl), by decide, rfl⟩
theorem pX10_text_10 : At cX10_text 10 (.aload_n 0) 1 11 := ⟨tX10_text_0_ok (10, .aload_n 0, 1) (List.mem_of_getElem? (i := 6) rfl), rfl⟩
theorem pX10_text_11 : At cX10_text 11 (.iconst 1) 1 12 := ⟨tX10_text_0_ok (11, .iconst 1, 1) (List.mem_of_getElem? (i := 7) rfl), rfl⟩
theorem pX10_text_12 : At cX10_text 12 (.invokevirtual 79) 3 15 := ⟨tX10_text_0_ok (12, .invokevirtual 79, 3) (List.mem_of_getElem? (i := 8) rfl), rfl⟩
theorem pX10_text_15 : At cX10_text 15 (.ireturn) 1 16 := ⟨tX10_text_0_ok (15, .ireturn, 1) (List.mem_of_getElem? (i := 9) rfl), rfl⟩
theorem pX10_text_16 : At cX10_text 16 (.aload_n 0) 1 17 := ⟨tX10_text_0_ok (16, .aload_n 0, 1) (List.mem_of_getElem? (i := 10) rfl), rfl⟩
theorem pX10_text_17 : At cX10_text 17 (.iload_n 1) 1 18 := ⟨tX10_text_0_ok (17, .iload_n 1, 1) (List.mem_of_getElem? (i := 11) rfl), rfl⟩
theorem pX10_text_18 : At cX10_text 18 (.putfield 154) 3 21 := ⟨tX10_text_0_ok (18, .putfield 154, 3) (List.mem_of_getElem? (i := 12) rfl), rfl⟩
theorem pX10_text_21 : At cX10_text 21 (.aload_n 0) 1 22 := ⟨tX10_text_0_ok (21, .aload_n 0, 1) (List.mem_of_getElem? (i := 13) rfl), rfl⟩
theorem pX10_text_22 : At cX10_text 22 (.iconst 0) 1 23 := ⟨tX10_text_0_ok (22, .iconst 0, 1) (List.mem_of_getElem? (i := 14) rfl), rfl⟩
theorem pX10_text_23 : At cX10_text 23 (.putfield 139) 3 26 := ⟨tX10_text_0_ok (23, .putfield 139, 3) (List.mem_of_getElem? (i := 15) rfl), rfl⟩
theorem pX10_text_26 : At cX10_text 26 (.aload_n 0) 1 27 := ⟨tX10_text_0_ok (26, .aload_n 0, 1) (List.mem_of_getElem? (i := 16) rfl), rfl⟩
theorem pX10_text_27 : At cX10_text 27 (.iconst 0) 1 28 := ⟨tX10_text_0_ok (27, .iconst 0, 1) (List.mem_of_getElem? (i := 17) rfl), rfl⟩
theorem pX10_text_28 : At cX10_text 28 (.putfield 171) 3 31 := ⟨tX10_text_0_ok (28, .putfield 171, 3) (List.mem_of_getElem? (i := 18) rfl), rfl⟩
theorem pX10_text_31 : At cX10_text 31 (.aload_n 0) 1 32 := ⟨tX10_text_0_ok (31, .aload_n 0, 1) (List.mem_of_getElem? (i := 19) rfl), rfl⟩
theorem pX10_text_32 : At cX10_text 32 (.iconst 0) 1 33 := ⟨tX10_text_0_ok (32, .iconst 0, 1) (List.mem_of_getElem? (i := 20) rfl), rfl⟩
theorem pX10_text_33 : At cX10_text 33 (.putfield 151) 3 36 := ⟨tX10_text_0_ok (33, .putfield 151, 3) (List.mem_of_getElem? (i := 21) rfl), rfl⟩
theorem pX10_text_36 : At cX10_text 36 (.aload_n 0) 1 37 := ⟨tX10_text_0_ok (36, .aload_n 0, 1) (List.mem_of_getElem? (i := 22) rfl), rfl⟩
theorem pX10_text_37 : At cX10_text 37 (.invokevirtual 177) 3 40 := ⟨tX10_text_0_ok (37, .invokevirtual 177, 3) (List.mem_of_getElem? (i := 23) rfl), rfl⟩
theorem pX10_text_40 : Bt cX10_text 40 (.ifCond .eq 21) 21 61 43 := ⟨tX10_text_0_ok (40, .ifCond .eq 21, 3) (List.mem_of_getElem? (i := 24) rfl), by decide, rfl⟩
theorem pX10_text_43 : At cX10_text 43 (.aload_n 0) 1 44 := ⟨tX10_text_0_ok (43, .aload_n 0, 1) (List.mem_of_getElem? (i := 25) rfl), rfl⟩
theorem pX10_text_44 : At cX10_text 44 (.getfield 139) 3 47 := ⟨tX10_text_0_ok (44, .getfield 139, 3) (List.mem_of_getElem? (i := 26) rfl), rfl⟩
theorem pX10_text_47 : At cX10_text 47 (.aload_n 0) 1 48 := ⟨tX10_text_0_ok (47, .aload_n 0, 1) (List.mem_of_getElem? (i := 27) rfl), rfl⟩
theorem pX10_text_48 : At cX10_text 48 (.getfield 9) 3 51 := ⟨tX10_text_0_ok (48, .getfield 9, 3) (List.mem_of_getElem? (i := 28) rfl), rfl⟩
theorem pX10_text_51 : At cX10_text 51 (.bipush 7) 2 53 := ⟨tX10_text_0_ok (51, .bipush 7, 2) (List.mem_of_getElem? (i := 29) rfl), rfl⟩
theorem pX10_text_53 : At cX10_text 53 (.iaload) 1 54 := ⟨tX10_text_0_ok (53, .iaload, 1) (List.mem_of_getElem? (i := 30) rfl), rfl⟩
theorem pX10_text_54 : Bt cX10_text 54 (.if_icmp .ne 7) 7 61 57 := ⟨tX10_text_0_ok (54, .if_icmp .ne 7, 3) (List.mem_of_getElem? (i := 31) rfl), by decide, rfl⟩
theorem pX10_text_57 : At cX10_text 57 (.iconst 1) 1 58 := ⟨tX10_text_0_ok (57, .iconst 1, 1) (List.mem_of_getElem? (i := 32) rfl), rfl⟩
theorem pX10_text_58 : Bt cX10_text 58 (.goto 4) 4 62 61 := ⟨tX10_text_0_ok (58, .goto 4, 3) (List.mem_of_getElem? (i := 33) rfl), by decide, rfl⟩
theorem pX10_text_61 : At cX10_text 61 (.iconst 0) 1 62 := ⟨tX10_text_0_ok (61, .iconst 0, 1) (List.mem_of_getElem? (i := 34) rfl), rfl⟩
theorem pX10_text_62 : At cX10_text 62 (.istore_n 2) 1 63 := ⟨tX10_text_0_ok (62, .istore_n 2, 1) (List.mem_of_getElem? (i := 35) rfl), rfl⟩
theorem pX10_text_63 : At cX10_text 63 (.aload_n 0) 1 64 := ⟨tX10_text_0_ok (63, .aload_n 0, 1) (List.mem_of_getElem? (i := 36) rfl), rfl⟩
theorem pX10_text_64 : At cX10_text 64 (.getfield 9) 3 67 := ⟨tX10_text_0_ok (64, .getfield 9, 3) (List.mem_of_getElem? (i := 37) rfl), rfl⟩
theorem pX10_text_67 : At cX10_text 67 (.bipush 7) 2 69 := ⟨tX10_text_0_ok (67, .bipush 7, 2) (List.mem_of_getElem? (i := 38) rfl), rfl⟩
theorem pX10_text_69 : At cX10_text 69 (.iconst 0) 1 70 := ⟨tX10_text_0_ok (69, .iconst 0, 1) (List.mem_of_getElem? (i := 39) rfl), rfl⟩
theorem pX10_text_70 : At cX10_text 70 (.iastore) 1 71 := ⟨tX10_text_0_ok (70, .iastore, 1) (List.mem_of_getElem? (i := 40) rfl), rfl⟩
theorem pX10_text_71 : At cX10_text 71 (.iload_n 2) 1 72 := ⟨tX10_text_0_ok (71, .iload_n 2, 1) (List.mem_of_getElem? (i := 41) rfl), rfl⟩
theorem pX10_text_72 : Bt cX10_text 72 (.ifCond .ne 11) 11 83 75 := ⟨tX10_text_0_ok (72, .ifCond .ne 11, 3) (List.mem_of_getElem? (i := 42) rfl), by decide, rfl⟩
theorem pX10_text_75 : At cX10_text 75 (.bipush (-10)) 2 77 := ⟨tX10_text_0_ok (75, .bipush (-10), 2) (List.mem_of_getElem? (i := 43) rfl), rfl⟩
theorem pX10_text_77 : At cX10_text 77 (.aload_n 0) 1 78 := ⟨tX10_text_0_ok (77, .aload_n 0, 1) (List.mem_of_getElem? (i := 44) rfl), rfl⟩
theorem pX10_text_78 : At cX10_text 78 (.getfield 139) 3 81 := ⟨tX10_text_0_ok (78, .getfield 139, 3) (List.mem_of_getElem? (i := 45) rfl), rfl⟩
theorem pX10_text_81 : At cX10_text 81 (.isub) 1 82 := ⟨tX10_text_0_ok (81, .isub, 1) (List.mem_of_getElem? (i := 46) rfl), rfl⟩
theorem pX10_text_82 : At cX10_text 82 (.ireturn) 1 83 := ⟨tX10_text_0_ok (82, .ireturn, 1) (List.mem_of_getElem? (i := 47) rfl), rfl⟩
theorem pX10_text_83 : At cX10_text 83 (.bipush 120) 2 85 := ⟨tX10_text_0_ok (83, .bipush 120, 2) (List.mem_of_getElem? (i := 48) rfl), rfl⟩
theorem pX10_text_85 : At cX10_text 85 (.bipush 101) 2 87 := ⟨tX10_text_0_ok (85, .bipush 101, 2) (List.mem_of_getElem? (i := 49) rfl), rfl⟩
theorem pX10_text_87 : At cX10_text 87 (.iload_n 1) 1 88 := ⟨tX10_text_0_ok (87, .iload_n 1, 1) (List.mem_of_getElem? (i := 50) rfl), rfl⟩
theorem pX10_text_88 : At cX10_text 88 (.imul) 1 89 := ⟨tX10_text_0_ok (88, .imul, 1) (List.mem_of_getElem? (i := 51) rfl), rfl⟩
theorem pX10_text_89 : At cX10_text 89 (.iadd) 1 90 := ⟨tX10_text_0_ok (89, .iadd, 1) (List.mem_of_getElem? (i := 52) rfl), rfl⟩
theorem pX10_text_90 : At cX10_text 90 (.istore_n 3) 1 91 := ⟨tX10_text_0_ok (90, .istore_n 3, 1) (List.mem_of_getElem? (i := 53) rfl), rfl⟩
theorem pX10_text_91 : At cX10_text 91 (.aload_n 0) 1 92 := ⟨tX10_text_0_ok (91, .aload_n 0, 1) (List.mem_of_getElem? (i := 54) rfl), rfl⟩
theorem pX10_text_92 : At cX10_text 92 (.getfield 9) 3 95 := ⟨tX10_text_0_ok (92, .getfield 9, 3) (List.mem_of_getElem? (i := 55) rfl), rfl⟩
theorem pX10_text_95 : At cX10_text 95 (.iload_n 3) 1 96 := ⟨tX10_text_0_ok (95, .iload_n 3, 1) (List.mem_of_getElem? (i := 56) rfl), rfl⟩
theorem pX10_text_96 : At cX10_text 96 (.aload_n 0) 1 97 := ⟨tX10_text_0_ok (96, .aload_n 0, 1) (List.mem_of_getElem? (i := 57) rfl), rfl⟩
theorem pX10_text_97 : At cX10_text 97 (.getfield 151) 3 100 := ⟨tX10_text_0_ok (97, .getfield 151, 3) (List.mem_of_getElem? (i := 58) rfl), rfl⟩
theorem pX10_text_100 : At cX10_text 100 (.iastore) 1 101 := ⟨tX10_text_0_ok (100, .iastore, 1) (List.mem_of_getElem? (i := 59) rfl), rfl⟩
theorem pX10_text_101 : At cX10_text 101 (.iconst 0) 1 102 := ⟨tX10_text_0_ok (101, .iconst 0, 1) (List.mem_of_getElem? (i := 60) rfl), rfl⟩
theorem pX10_text_102 : At cX10_text 102 (.istore 4) 2 104 := ⟨tX10_text_0_ok (102, .istore 4, 2) (List.mem_of_getElem? (i := 61) rfl), rfl⟩
theorem pX10_text_104 : At cX10_text 104 (.iload 4) 2 106 := ⟨tX10_text_0_ok (104, .iload 4, 2) (List.mem_of_getElem? (i := 62) rfl), rfl⟩
theorem pX10_text_106 : At cX10_text 106 (.iconst 2) 1 107 := ⟨tX10_text_0_ok (106, .iconst 2, 1) (List.mem_of_getElem? (i := 63) rfl), rfl⟩
theorem pX10_text_107 : At cX10_text 107 (.aload_n 0) 1 108 := ⟨tX10_text_0_ok (107, .aload_n 0, 1) (List.mem_of_getElem? (i := 64) rfl), rfl⟩
theorem pX10_text_108 : At cX10_text 108 (.getfield 151) 3 111 := ⟨tX10_text_0_ok (108, .getfield 151, 3) (List.mem_of_getElem? (i := 65) rfl), rfl⟩
theorem pX10_text_111 : At cX10_text 111 (.imul) 1 112 := ⟨tX10_text_0_ok (111, .imul, 1) (List.mem_of_getElem? (i := 66) rfl), rfl⟩
theorem pX10_text_112 : Bt cX10_text 112 (.if_icmp .ge 27) 27 139 115 := ⟨tX10_text_0_ok (112, .if_icmp .ge 27, 3) (List.mem_of_getElem? (i := 67) rfl), by decide, rfl⟩
theorem pX10_text_115 : At cX10_text 115 (.aload_n 0) 1 116 := ⟨tX10_text_0_ok (115, .aload_n 0, 1) (List.mem_of_getElem? (i := 68) rfl), rfl⟩
theorem pX10_text_116 : At cX10_text 116 (.getfield 9) 3 119 := ⟨tX10_text_0_ok (116, .getfield 9, 3) (List.mem_of_getElem? (i := 69) rfl), rfl⟩
theorem pX10_text_119 : At cX10_text 119 (.iload_n 3) 1 120 := ⟨tX10_text_0_ok (119, .iload_n 3, 1) (List.mem_of_getElem? (i := 70) rfl), rfl⟩
theorem pX10_text_120 : At cX10_text 120 (.iconst 1) 1 121 := ⟨tX10_text_0_ok (120, .iconst 1, 1) (List.mem_of_getElem? (i := 71) rfl), rfl⟩
theorem pX10_text_121 : At cX10_text 121 (.iadd) 1 122 := ⟨tX10_text_0_ok (121, .iadd, 1) (List.mem_of_getElem? (i := 72) rfl), rfl⟩
theorem pX10_text_122 : At cX10_text 122 (.iload 4) 2 124 := ⟨tX10_text_0_ok (122, .iload 4, 2) (List.mem_of_getElem? (i := 73) rfl), rfl⟩
theorem pX10_text_124 : At cX10_text 124 (.iadd) 1 125 := ⟨tX10_text_0_ok (124, .iadd, 1) (List.mem_of_getElem? (i := 74) rfl), rfl⟩
theorem pX10_text_125 : At cX10_text 125 (.aload_n 0) 1 126 := ⟨tX10_text_0_ok (125, .aload_n 0, 1) (List.mem_of_getElem? (i := 75) rfl), rfl⟩
theorem pX10_text_126 : At cX10_text 126 (.getfield 19) 3 129 := ⟨tX10_text_0_ok (126, .getfield 19, 3) (List.mem_of_getElem? (i := 76) rfl), rfl⟩
theorem pX10_text_129 : At cX10_text 129 (.iload 4) 2 131 := ⟨tX10_text_0_ok (129, .iload 4, 2) (List.mem_of_getElem? (i := 77) rfl), rfl⟩
theorem pX10_text_131 : At cX10_text 131 (.iaload) 1 132 := ⟨tX10_text_0_ok (131, .iaload, 1) (List.mem_of_getElem? (i := 78) rfl), rfl⟩
theorem pX10_text_132 : At cX10_text 132 (.iastore) 1 133 := ⟨tX10_text_0_ok (132, .iastore, 1) (List.mem_of_getElem? (i := 79) rfl), rfl⟩
theorem pX10_text_133 : At cX10_text 133 (.iinc 4 1) 3 136 := ⟨tX10_text_0_ok (133, .iinc 4 1, 3) (List.mem_of_getElem? (i := 80) rfl), rfl⟩
theorem pX10_text_136 : Bt cX10_text 136 (.goto (-32)) (-32) 104 139 := ⟨tX10_text_0_ok (136, .goto (-32), 3) (List.mem_of_getElem? (i := 81) rfl), by decide, rfl⟩
theorem pX10_text_139 : At cX10_text 139 (.iconst 1) 1 140 := ⟨tX10_text_0_ok (139, .iconst 1, 1) (List.mem_of_getElem? (i := 82) rfl), rfl⟩
theorem pX10_text_140 : At cX10_text 140 (.ireturn) 1 141 := ⟨tX10_text_0_ok (140, .ireturn, 1) (List.mem_of_getElem? (i := 83) rfl), rfl⟩
def tX10_law_0 : List (Nat × Instr × Nat) := [(0, .iload_n 1, 1), (1, .i2l, 1), (2, .lconst 0, 1), (3, .lconst 1, 1), (4, .invokestatic 53, 3), (7, .ifCond .eq 15, 3), (10, .aload_n 0, 1), (11, .iload_n 1, 1), (12, .iload_n 2, 1), (13, .iload_n 3, 1), (14, .iload 4, 2), (16, .invokevirtual 68, 3), (19, .goto 8, 3), (22, .aload_n 0, 1), (23, .iconst 1, 1), (24, .invokevirtual 79, 3), (27, .ireturn, 1)]
theorem tX10_law_0_ok : ∀ q ∈ tX10_law_0, decode cX10_law q.1 = .ok (q.2.1, q.2.2) := by decide +kernel
theorem pX10_law_0 : At cX10_law 0 (.iload_n 1) 1 1 := ⟨tX10_law_0_ok (0, .iload_n 1, 1) (List.mem_of_getElem? (i := 0) rfl), rfl⟩
theorem pX10_law_1 : At cX10_law 1 (.i2l) 1 2 := ⟨tX10_law_0_ok (1, .i2l, 1) (List.mem_of_getElem? (i := 1) rfl), rfl⟩
theorem pX10_law_2 : At cX10_law 2 (.lconst 0) 1 3 := ⟨tX10_law_0_ok (2, .lconst 0, 1) (List.mem_of_getElem? (i := 2) rfl), rfl⟩
theorem pX10_law_3 : At cX10_law 3 (.lconst 1) 1 4 := ⟨tX10_law_0_ok (3, .lconst 1, 1) (List.mem_of_getElem? (i := 3) rfl), rfl⟩
theorem pX10_law_4 : At cX10_law 4 (.invokestatic 53) 3 7 := ⟨tX10_law_0_ok (4, .invokestatic 53, 3) (List.mem_of_getElem? (i := 4) rfl), rfl⟩
theorem pX10_law_7 : Bt cX10_law 7 (.ifCond .eq 15) 15 22 10 := ⟨tX10_law_0_ok (7, .ifCond .eq 15, 3) (List.mem_of_getElem? (i := 5) rfl), by decide, rfl⟩
theorem pX10_law_10 : At cX10_law 10 (.aload_n 0) 1 11 := ⟨tX10_law_0_ok (10, .aload_n 0, 1) (List.mem_of_getElem? (i := 6) rfl), rfl⟩
theorem pX10_law_11 : At cX10_law 11 (.iload_n 1) 1 12 := ⟨tX10_law_0_ok (11, .iload_n 1, 1) (List.mem_of_getElem? (i := 7) rfl), rfl⟩
theorem pX10_law_12 : At cX10_law 12 (.iload_n 2) 1 13 := ⟨tX10_law_0_ok (12, .iload_n 2, 1) (List.mem_of_getElem? (i := 8) rfl), rfl⟩
theorem pX10_law_13 : At cX10_law 13 (.iload_n 3) 1 14 := ⟨tX10_law_0_ok (13, .iload_n 3, 1) (List.mem_of_getElem? (i := 9) rfl), rfl⟩
theorem pX10_law_14 : At cX10_law 14 (.iload 4) 2 16 := ⟨tX10_law_0_ok (14, .iload 4, 2) (List.mem_of_getElem? (i := 10) rfl), rfl⟩
theorem pX10_law_16 : At cX10_law 16 (.invokevirtual 68) 3 19 := ⟨tX10_law_0_ok (16, .invokevirtual 68, 3) (List.mem_of_getElem? (i := 11) rfl), rfl⟩
theorem pX10_law_19 : Bt cX10_law 19 (.goto 8) 8 27 22 := ⟨tX10_law_0_ok (19, .goto 8, 3) (List.mem_of_getElem? (i := 12) rfl), by decide, rfl⟩
theorem pX10_law_22 : At cX10_law 22 (.aload_n 0) 1 23 := ⟨tX10_law_0_ok (22, .aload_n 0, 1) (List.mem_of_getElem? (i := 13) rfl), rfl⟩
theorem pX10_law_23 : At cX10_law 23 (.iconst 1) 1 24 := ⟨tX10_law_0_ok (23, .iconst 1, 1) (List.mem_of_getElem? (i := 14) rfl), rfl⟩
theorem pX10_law_24 : At cX10_law 24 (.invokevirtual 79) 3 27 := ⟨tX10_law_0_ok (24, .invokevirtual 79, 3) (List.mem_of_getElem? (i := 15) rfl), rfl⟩
theorem pX10_law_27 : At cX10_law 27 (.ireturn) 1 28 := ⟨tX10_law_0_ok (27, .ireturn, 1) (List.mem_of_getElem? (i := 16) rfl), rfl⟩
def tX10_goes_0 : List (Nat × Instr × Nat) := [(0, .aload_n 0, 1), (1, .iload_n 1, 1), (2, .invokevirtual 201, 3), (5, .aload_n 0, 1), (6, .iload_n 1, 1), (7, .iconst 2, 1), (8, .invokevirtual 61, 3), (11, .istore_n 2, 1), (12, .aload_n 0, 1), (13, .iload_n 1, 1), (14, .iconst 2, 1), (15, .aload_n 0, 1), (16, .getfield 195, 3), (19, .invokevirtual 83, 3), (22, .aload_n 0, 1), (23, .iload_n 1, 1), (24, .iconst 3, 1), (25, .aload_n 0, 1), (26, .getfield 198, 3), (29, .invokevirtual 83, 3), (32, .aload_n 0, 1), (33, .getfield 195, 3), (36, .iload_n 2, 1), (37, .if_icmp .eq 62, 3), (40, .aload_n 0, 1), (41, .getfield 195, 3), (44, .ifCond .eq 12, 3), (47, .aload_n 0, 1), (48, .getfield 195, 3), (51, .bipush 40, 2), (53, .if_icmp .ne 46, 3), (56, .aload_n 0, 1), (57, .getfield 9, 3), (60, .iconst 1, 1), (61, .aload_n 0, 1), (62, .getfield 9, 3), (65, .iconst 1, 1), (66, .iaload, 1), (67, .aload_n 0, 1), (68, .iconst 1, 1), (69, .aload_n 0, 1), (70, .getfield 195, 3), (73, .bipush 40, 2), (75, .idiv, 1), (76, .aload_n 0, 1), (77, .iload_n 1, 1), (78, .invokevirtual 91, 3), (81, .aload_n 0, 1), (82, .getfield 9, 3), (85, .iconst 0, 1), (86, .iaload, 1), (87, .invokevirtual 68, 3), (90, .iadd, 1), (91, .ldc 205, 2), (93, .ldc 206, 2), (95, .invokestatic 112, 3), (98, .iastore, 1), (99, .return_, 1)]
theorem tX10_goes_0_ok : ∀ q ∈ tX10_goes_0, decode cX10_goes q.1 = .ok (q.2.1, q.2.2) := by decide +kernel
theorem pX10_goes_0 : At cX10_goes 0 (.aload_n 0) 1 1 := ⟨tX10_goes_0_ok (0, .aload_n 0, 1) (List.mem_of_getElem? (i := 0) rfl), rfl⟩
theorem pX10_goes_1 : At cX10_goes 1 (.iload_n 1) 1 2 := ⟨tX10_goes_0_ok (1, .iload_n 1, 1) (List.mem_of_getElem? (i := 1) rfl), rfl⟩
theorem pX10_goes_2 : At cX10_goes 2 (.invokevirtual 201) 3 5 := ⟨tX10_goes_0_ok (2, .invokevirtual 201, 3) (List.mem_of_getElem? (i := 2) rfl), rfl⟩
theorem pX10_goes_5 : At cX10_goes 5 (.aload_n 0) 1 6 := ⟨tX10_goes_0_ok (5, .aload_n 0, 1) (List.mem_of_getElem? (i := 3) rfl), rfl⟩
theorem pX10_goes_6 : At cX10_goes 6 (.iload_n 1) 1 7 := ⟨tX10_goes_0_ok (6, .iload_n 1, 1) (List.mem_of_getElem? (i := 4) rfl), rfl⟩
theorem pX10_goes_7 : At cX10_goes 7 (.iconst 2) 1 8 := ⟨tX10_goes_0_ok (7, .iconst 2, 1) (List.mem_of_getElem? (i := 5) rfl), rfl⟩
theorem pX10_goes_8 : At cX10_goes 8 (.invokevirtual 61) 3 11 := ⟨tX10_goes_0_ok (8, .invokevirtual 61, 3) (List.mem_of_getElem? (i := 6) rfl), rfl⟩
theorem pX10_goes_11 : At cX10_goes 11 (.istore_n 2) 1 12 := ⟨tX10_goes_0_ok (11, .istore_n 2, 1) (List.mem_of_getElem? (i := 7) rfl), rfl⟩
theorem pX10_goes_12 : At cX10_goes 12 (.aload_n 0) 1 13 := ⟨tX10_goes_0_ok (12, .aload_n 0, 1) (List.mem_of_getElem? (i := 8) rfl), rfl⟩
theorem pX10_goes_13 : At cX10_goes 13 (.iload_n 1) 1 14 := ⟨tX10_goes_0_ok (13, .iload_n 1, 1) (List.mem_of_getElem? (i := 9) rfl), rfl⟩
theorem pX10_goes_14 : At cX10_goes 14 (.iconst 2) 1 15 := ⟨tX10_goes_0_ok (14, .iconst 2, 1) (List.mem_of_getElem? (i := 10) rfl), rfl⟩
theorem pX10_goes_15 : At cX10_goes 15 (.aload_n 0) 1 16 := ⟨tX10_goes_0_ok (15, .aload_n 0, 1) (List.mem_of_getElem? (i := 11) rfl), rfl⟩
theorem pX10_goes_16 : At cX10_goes 16 (.getfield 195) 3 19 := ⟨tX10_goes_0_ok (16, .getfield 195, 3) (List.mem_of_getElem? (i := 12) rfl), rfl⟩
theorem pX10_goes_19 : At cX10_goes 19 (.invokevirtual 83) 3 22 := ⟨tX10_goes_0_ok (19, .invokevirtual 83, 3) (List.mem_of_getElem? (i := 13) rfl), rfl⟩
theorem pX10_goes_22 : At cX10_goes 22 (.aload_n 0) 1 23 := ⟨tX10_goes_0_ok (22, .aload_n 0, 1) (List.mem_of_getElem? (i := 14) rfl), rfl⟩
theorem pX10_goes_23 : At cX10_goes 23 (.iload_n 1) 1 24 := ⟨tX10_goes_0_ok (23, .iload_n 1, 1) (List.mem_of_getElem? (i := 15) rfl), rfl⟩
theorem pX10_goes_24 : At cX10_goes 24 (.iconst 3) 1 25 := ⟨tX10_goes_0_ok (24, .iconst 3, 1) (List.mem_of_getElem? (i := 16) rfl), rfl⟩
theorem pX10_goes_25 : At cX10_goes 25 (.aload_n 0) 1 26 := ⟨tX10_goes_0_ok (25, .aload_n 0, 1) (List.mem_of_getElem? (i := 17) rfl), rfl⟩
theorem pX10_goes_26 : At cX10_goes 26 (.getfield 198) 3 29 := ⟨tX10_goes_0_ok (26, .getfield 198, 3) (List.mem_of_getElem? (i := 18) rfl), rfl⟩
theorem pX10_goes_29 : At cX10_goes 29 (.invokevirtual 83) 3 32 := ⟨tX10_goes_0_ok (29, .invokevirtual 83, 3) (List.mem_of_getElem? (i := 19) rfl), rfl⟩
theorem pX10_goes_32 : At cX10_goes 32 (.aload_n 0) 1 33 := ⟨tX10_goes_0_ok (32, .aload_n 0, 1) (List.mem_of_getElem? (i := 20) rfl), rfl⟩
theorem pX10_goes_33 : At cX10_goes 33 (.getfield 195) 3 36 := ⟨tX10_goes_0_ok (33, .getfield 195, 3) (List.mem_of_getElem? (i := 21) rfl), rfl⟩
theorem pX10_goes_36 : At cX10_goes 36 (.iload_n 2) 1 37 := ⟨tX10_goes_0_ok (36, .iload_n 2, 1) (List.mem_of_getElem? (i := 22) rfl), rfl⟩
theorem pX10_goes_37 : Bt cX10_goes 37 (.if_icmp .eq 62) 62 99 40 := ⟨tX10_goes_0_ok (37, .if_icmp .eq 62, 3) (List.mem_of_getElem? (i := 23) rfl), by decide, rfl⟩
theorem pX10_goes_40 : At cX10_goes 40 (.aload_n 0) 1 41 := ⟨tX10_goes_0_ok (40, .aload_n 0, 1) (List.mem_of_getElem? (i := 24) rfl), rfl⟩
theorem pX10_goes_41 : At cX10_goes 41 (.getfield 195) 3 44 := ⟨tX10_goes_0_ok (41, .getfield 195, 3) (List.mem_of_getElem? (i := 25) rfl), rfl⟩
theorem pX10_goes_44 : Bt cX10_goes 44 (.ifCond .eq 12) 12 56 47 := ⟨tX10_goes_0_ok (44, .ifCond .eq 12, 3) (List.mem_of_getElem? (i := 26) rfl), by decide, rfl⟩
theorem pX10_goes_47 : At cX10_goes 47 (.aload_n 0) 1 48 := ⟨tX10_goes_0_ok (47, .aload_n 0, 1) (List.mem_of_getElem? (i := 27) rfl), rfl⟩
theorem pX10_goes_48 : At cX10_goes 48 (.getfield 195) 3 51 := ⟨tX10_goes_0_ok (48, .getfield 195, 3) (List.mem_of_getElem? (i := 28) rfl), rfl⟩
theorem pX10_goes_51 : At cX10_goes 51 (.bipush 40) 2 53 := ⟨tX10_goes_0_ok (51, .bipush 40, 2) (List.mem_of_getElem? (i := 29) rfl), rfl⟩
theorem pX10_goes_53 : Bt cX10_goes 53 (.if_icmp .ne 46) 46 99 56 := ⟨tX10_goes_0_ok (53, .if_icmp .ne 46, 3) (List.mem_of_getElem? (i := 30) rfl), by decide, rfl⟩
theorem pX10_goes_56 : At cX10_goes 56 (.aload_n 0) 1 57 := ⟨tX10_goes_0_ok (56, .aload_n 0, 1) (List.mem_of_getElem? (i := 31) rfl), rfl⟩
theorem pX10_goes_57 : At cX10_goes 57 (.getfield 9) 3 60 := ⟨tX10_goes_0_ok (57, .getfield 9, 3) (List.mem_of_getElem? (i := 32) rfl), rfl⟩
theorem pX10_goes_60 : At cX10_goes 60 (.iconst 1) 1 61 := ⟨tX10_goes_0_ok (60, .iconst 1, 1) (List.mem_of_getElem? (i := 33) rfl), rfl⟩
theorem pX10_goes_61 : At cX10_goes 61 (.aload_n 0) 1 62 := ⟨tX10_goes_0_ok (61, .aload_n 0, 1) (List.mem_of_getElem? (i := 34) rfl), rfl⟩
theorem pX10_goes_62 : At cX10_goes 62 (.getfield 9) 3 65 := ⟨tX10_goes_0_ok (62, .getfield 9, 3) (List.mem_of_getElem? (i := 35) rfl), rfl⟩
theorem pX10_goes_65 : At cX10_goes 65 (.iconst 1) 1 66 := ⟨tX10_goes_0_ok (65, .iconst 1, 1) (List.mem_of_getElem? (i := 36) rfl), rfl⟩
theorem pX10_goes_66 : At cX10_goes 66 (.iaload) 1 67 := ⟨tX10_goes_0_ok (66, .iaload, 1) (List.mem_of_getElem? (i := 37) rfl), rfl⟩
theorem pX10_goes_67 : At cX10_goes 67 (.aload_n 0) 1 68 := ⟨tX10_goes_0_ok (67, .aload_n 0, 1) (List.mem_of_getElem? (i := 38) rfl), rfl⟩
theorem pX10_goes_68 : At cX10_goes 68 (.iconst 1) 1 69 := ⟨tX10_goes_0_ok (68, .iconst 1, 1) (List.mem_of_getElem? (i := 39) rfl), rfl⟩
theorem pX10_goes_69 : At cX10_goes 69 (.aload_n 0) 1 70 := ⟨tX10_goes_0_ok (69, .aload_n 0, 1) (List.mem_of_getElem? (i := 40) rfl), rfl⟩
theorem pX10_goes_70 : At cX10_goes 70 (.getfield 195) 3 73 := ⟨tX10_goes_0_ok (70, .getfield 195, 3) (List.mem_of_getElem? (i := 41) rfl), rfl⟩
theorem pX10_goes_73 : At cX10_goes 73 (.bipush 40) 2 75 := ⟨tX10_goes_0_ok (73, .bipush 40, 2) (List.mem_of_getElem? (i := 42) rfl), rfl⟩
theorem pX10_goes_75 : At cX10_goes 75 (.idiv) 1 76 := ⟨tX10_goes_0_ok (75, .idiv, 1) (List.mem_of_getElem? (i := 43) rfl), rfl⟩
theorem pX10_goes_76 : At cX10_goes 76 (.aload_n 0) 1 77 := ⟨tX10_goes_0_ok (76, .aload_n 0, 1) (List.mem_of_getElem? (i := 44) rfl), rfl⟩
theorem pX10_goes_77 : At cX10_goes 77 (.iload_n 1) 1 78 := ⟨tX10_goes_0_ok (77, .iload_n 1, 1) (List.mem_of_getElem? (i := 45) rfl), rfl⟩
theorem pX10_goes_78 : At cX10_goes 78 (.invokevirtual 91) 3 81 := ⟨tX10_goes_0_ok (78, .invokevirtual 91, 3) (List.mem_of_getElem? (i := 46) rfl), rfl⟩
theorem pX10_goes_81 : At cX10_goes 81 (.aload_n 0) 1 82 := ⟨tX10_goes_0_ok (81, .aload_n 0, 1) (List.mem_of_getElem? (i := 47) rfl), rfl⟩
theorem pX10_goes_82 : At cX10_goes 82 (.getfield 9) 3 85 := ⟨tX10_goes_0_ok (82, .getfield 9, 3) (List.mem_of_getElem? (i := 48) rfl), rfl⟩
theorem pX10_goes_85 : At cX10_goes 85 (.iconst 0) 1 86 := ⟨tX10_goes_0_ok (85, .iconst 0, 1) (List.mem_of_getElem? (i := 49) rfl), rfl⟩
theorem pX10_goes_86 : At cX10_goes 86 (.iaload) 1 87 := ⟨tX10_goes_0_ok (86, .iaload, 1) (List.mem_of_getElem? (i := 50) rfl), rfl⟩
theorem pX10_goes_87 : At cX10_goes 87 (.invokevirtual 68) 3 90 := ⟨tX10_goes_0_ok (87, .invokevirtual 68, 3) (List.mem_of_getElem? (i := 51) rfl), rfl⟩
theorem pX10_goes_90 : At cX10_goes 90 (.iadd) 1 91 := ⟨tX10_goes_0_ok (90, .iadd, 1) (List.mem_of_getElem? (i := 52) rfl), rfl⟩
theorem pX10_goes_91 : At cX10_goes 91 (.ldc 205) 2 93 := ⟨tX10_goes_0_ok (91, .ldc 205, 2) (List.mem_of_getElem? (i := 53) rfl), rfl⟩
theorem pX10_goes_93 : At cX10_goes 93 (.ldc 206) 2 95 := ⟨tX10_goes_0_ok (93, .ldc 206, 2) (List.mem_of_getElem? (i := 54) rfl), rfl⟩
theorem pX10_goes_95 : At cX10_goes 95 (.invokestatic 112) 3 98 := ⟨tX10_goes_0_ok (95, .invokestatic 112, 3) (List.mem_of_getElem? (i := 55) rfl), rfl⟩
theorem pX10_goes_98 : At cX10_goes 98 (.iastore) 1 99 := ⟨tX10_goes_0_ok (98, .iastore, 1) (List.mem_of_getElem? (i := 56) rfl), rfl⟩
theorem pX10_goes_99 : At cX10_goes 99 (.return_) 1 100 := ⟨tX10_goes_0_ok (99, .return_, 1) (List.mem_of_getElem? (i := 57) rfl), rfl⟩
def tX10_step_0 : List (Nat × Instr × Nat) := [(0, .iconst 0, 1), (1, .istore_n 1, 1), (2, .iload_n 1, 1), (3, .aload_n 0, 1), (4, .getfield 9, 3), (7, .bipush 6, 2), (9, .iaload, 1), (10, .if_icmp .ge 14, 3), (13, .aload_n 0, 1), (14, .iload_n 1, 1), (15, .invokevirtual 207, 3), (18, .iinc 1 1, 3), (21, .goto (-19), 3), (24, .aload_n 0, 1), (25, .getfield 9, 3), (28, .iconst 0, 1), (29, .dup2, 1), (30, .iaload, 1), (31, .iconst 1, 1), (32, .iadd, 1), (33, .iastore, 1), (34, .return_, 1)]
theorem tX10_step_0_ok : ∀ q ∈ tX10_step_0, decode cX10_step q.1 = .ok (q.2.1, q.2.2) := by decide +kernel
theorem pX10_step_0 : At cX10_step 0 (.iconst 0) 1 1 := ⟨tX10_step_0_ok (0, .iconst 0, 1) (List.mem_of_getElem? (i := 0) rfl), rfl⟩
theorem pX10_step_1 : At cX10_step 1 (.istore_n 1) 1 2 := ⟨tX10_step_0_ok (1, .istore_n 1, 1) (List.mem_of_getElem? (i := 1) rfl), rfl⟩
theorem pX10_step_2 : At cX10_step 2 (.iload_n 1) 1 3 := ⟨tX10_step_0_ok (2, .iload_n 1, 1) (List.mem_of_getElem? (i := 2) rfl), rfl⟩
theorem pX10_step_3 : At cX10_step 3 (.aload_n 0) 1 4 := ⟨tX10_step_0_ok (3, .aload_n 0, 1) (List.mem_of_getElem? (i := 3) rfl), rfl⟩
theorem pX10_step_4 : At cX10_step 4 (.getfield 9) 3 7 := ⟨tX10_step_0_ok (4, .getfield 9, 3) (List.mem_of_getElem? (i := 4) rfl), rfl⟩
theorem pX10_step_7 : At cX10_step 7 (.bipush 6) 2 9 := ⟨tX10_step_0_ok (7, .bipush 6, 2) (List.mem_of_getElem? (i := 5) rfl), rfl⟩
theorem pX10_step_9 : At cX10_step 9 (.iaload) 1 10 := ⟨tX10_step_0_ok (9, .iaload, 1) (List.mem_of_getElem? (i := 6) rfl), rfl⟩
theorem pX10_step_10 : Bt cX10_step 10 (.if_icmp .ge 14) 14 24 13 := ⟨tX10_step_0_ok (10, .if_icmp .ge 14, 3) (List.mem_of_getElem? (i := 7) rfl), by decide, rfl⟩
theorem pX10_step_13 : At cX10_step 13 (.aload_n 0) 1 14 := ⟨tX10_step_0_ok (13, .aload_n 0, 1) (List.mem_of_getElem? (i := 8) rfl), rfl⟩
theorem pX10_step_14 : At cX10_step 14 (.iload_n 1) 1 15 := ⟨tX10_step_0_ok (14, .iload_n 1, 1) (List.mem_of_getElem? (i := 9) rfl), rfl⟩
theorem pX10_step_15 : At cX10_step 15 (.invokevirtual 207) 3 18 := ⟨tX10_step_0_ok (15, .invokevirtual 207, 3) (List.mem_of_getElem? (i := 10) rfl), rfl⟩
theorem pX10_step_18 : At cX10_step 18 (.iinc 1 1) 3 21 := ⟨tX10_step_0_ok (18, .iinc 1 1, 3) (List.mem_of_getElem? (i := 11) rfl), rfl⟩
theorem pX10_step_21 : Bt cX10_step 21 (.goto (-19)) (-19) 2 24 := ⟨tX10_step_0_ok (21, .goto (-19), 3) (List.mem_of_getElem? (i := 12) rfl), by decide, rfl⟩
theorem pX10_step_24 : At cX10_step 24 (.aload_n 0) 1 25 := ⟨tX10_step_0_ok (24, .aload_n 0, 1) (List.mem_of_getElem? (i := 13) rfl), rfl⟩
theorem pX10_step_25 : At cX10_step 25 (.getfield 9) 3 28 := ⟨tX10_step_0_ok (25, .getfield 9, 3) (List.mem_of_getElem? (i := 14) rfl), rfl⟩
theorem pX10_step_28 : At cX10_step 28 (.iconst 0) 1 29 := ⟨tX10_step_0_ok (28, .iconst 0, 1) (List.mem_of_getElem? (i := 15) rfl), rfl⟩
theorem pX10_step_29 : At cX10_step 29 (.dup2) 1 30 := ⟨tX10_step_0_ok (29, .dup2, 1) (List.mem_of_getElem? (i := 16) rfl), rfl⟩
theorem pX10_step_30 : At cX10_step 30 (.iaload) 1 31 := ⟨tX10_step_0_ok (30, .iaload, 1) (List.mem_of_getElem? (i := 17) rfl), rfl⟩
theorem pX10_step_31 : At cX10_step 31 (.iconst 1) 1 32 := ⟨tX10_step_0_ok (31, .iconst 1, 1) (List.mem_of_getElem? (i := 18) rfl), rfl⟩
theorem pX10_step_32 : At cX10_step 32 (.iadd) 1 33 := ⟨tX10_step_0_ok (32, .iadd, 1) (List.mem_of_getElem? (i := 19) rfl), rfl⟩
theorem pX10_step_33 : At cX10_step 33 (.iastore) 1 34 := ⟨tX10_step_0_ok (33, .iastore, 1) (List.mem_of_getElem? (i := 20) rfl), rfl⟩
theorem pX10_step_34 : At cX10_step 34 (.return_) 1 35 := ⟨tX10_step_0_ok (34, .return_, 1) (List.mem_of_getElem? (i := 21) rfl), rfl⟩
def tX10_resting_0 : List (Nat × Instr × Nat) := [(0, .iconst 0, 1), (1, .istore_n 1, 1), (2, .iconst 0, 1), (3, .istore_n 2, 1), (4, .iload_n 2, 1), (5, .aload_n 0, 1), (6, .getfield 9, 3), (9, .bipush 6, 2), (11, .iaload, 1), (12, .if_icmp .ge 25, 3), (15, .iload_n 1, 1), (16, .aload_n 0, 1), (17, .iload_n 2, 1), (18, .invokevirtual 103, 3), (21, .ifCond .eq 7, 3), (24, .iconst 1, 1), (25, .goto 4, 3), (28, .iconst 0, 1), (29, .iadd, 1), (30, .istore_n 1, 1), (31, .iinc 2 1, 3), (34, .goto (-30), 3), (37, .iload_n 1, 1), (38, .ireturn, 1)]
theorem tX10_resting_0_ok : ∀ q ∈ tX10_resting_0, decode cX10_resting q.1 = .ok (q.2.1, q.2.2) := by decide +kernel
theorem pX10_resting_0 : At cX10_resting 0 (.iconst 0) 1 1 := ⟨tX10_resting_0_ok (0, .iconst 0, 1) (List.mem_of_getElem? (i := 0) rfl), rfl⟩
theorem pX10_resting_1 : At cX10_resting 1 (.istore_n 1) 1 2 := ⟨tX10_resting_0_ok (1, .istore_n 1, 1) (List.mem_of_getElem? (i := 1) rfl), rfl⟩
theorem pX10_resting_2 : At cX10_resting 2 (.iconst 0) 1 3 := ⟨tX10_resting_0_ok (2, .iconst 0, 1) (List.mem_of_getElem? (i := 2) rfl), rfl⟩
theorem pX10_resting_3 : At cX10_resting 3 (.istore_n 2) 1 4 := ⟨tX10_resting_0_ok (3, .istore_n 2, 1) (List.mem_of_getElem? (i := 3) rfl), rfl⟩
theorem pX10_resting_4 : At cX10_resting 4 (.iload_n 2) 1 5 := ⟨tX10_resting_0_ok (4, .iload_n 2, 1) (List.mem_of_getElem? (i := 4) rfl), rfl⟩
theorem pX10_resting_5 : At cX10_resting 5 (.aload_n 0) 1 6 := ⟨tX10_resting_0_ok (5, .aload_n 0, 1) (List.mem_of_getElem? (i := 5) rfl), rfl⟩
theorem pX10_resting_6 : At cX10_resting 6 (.getfield 9) 3 9 := ⟨tX10_resting_0_ok (6, .getfield 9, 3) (List.mem_of_getElem? (i := 6) rfl), rfl⟩
theorem pX10_resting_9 : At cX10_resting 9 (.bipush 6) 2 11 := ⟨tX10_resting_0_ok (9, .bipush 6, 2) (List.mem_of_getElem? (i := 7) rfl), rfl⟩
theorem pX10_resting_11 : At cX10_resting 11 (.iaload) 1 12 := ⟨tX10_resting_0_ok (11, .iaload, 1) (List.mem_of_getElem? (i := 8) rfl), rfl⟩
theorem pX10_resting_12 : Bt cX10_resting 12 (.if_icmp .ge 25) 25 37 15 := ⟨tX10_resting_0_ok (12, .if_icmp .ge 25, 3) (List.mem_of_getElem? (i := 9) rfl), by decide, rfl⟩
theorem pX10_resting_15 : At cX10_resting 15 (.iload_n 1) 1 16 := ⟨tX10_resting_0_ok (15, .iload_n 1, 1) (List.mem_of_getElem? (i := 10) rfl), rfl⟩
theorem pX10_resting_16 : At cX10_resting 16 (.aload_n 0) 1 17 := ⟨tX10_resting_0_ok (16, .aload_n 0, 1) (List.mem_of_getElem? (i := 11) rfl), rfl⟩
theorem pX10_resting_17 : At cX10_resting 17 (.iload_n 2) 1 18 := ⟨tX10_resting_0_ok (17, .iload_n 2, 1) (List.mem_of_getElem? (i := 12) rfl), rfl⟩
theorem pX10_resting_18 : At cX10_resting 18 (.invokevirtual 103) 3 21 := ⟨tX10_resting_0_ok (18, .invokevirtual 103, 3) (List.mem_of_getElem? (i := 13) rfl), rfl⟩
theorem pX10_resting_21 : Bt cX10_resting 21 (.ifCond .eq 7) 7 28 24 := ⟨tX10_resting_0_ok (21, .ifCond .eq 7, 3) (List.mem_of_getElem? (i := 14) rfl), by decide, rfl⟩
theorem pX10_resting_24 : At cX10_resting 24 (.iconst 1) 1 25 := ⟨tX10_resting_0_ok (24, .iconst 1, 1) (List.mem_of_getElem? (i := 15) rfl), rfl⟩
theorem pX10_resting_25 : Bt cX10_resting 25 (.goto 4) 4 29 28 := ⟨tX10_resting_0_ok (25, .goto 4, 3) (List.mem_of_getElem? (i := 16) rfl), by decide, rfl⟩
theorem pX10_resting_28 : At cX10_resting 28 (.iconst 0) 1 29 := ⟨tX10_resting_0_ok (28, .iconst 0, 1) (List.mem_of_getElem? (i := 17) rfl), rfl⟩
theorem pX10_resting_29 : At cX10_resting 29 (.iadd) 1 30 := ⟨tX10_resting_0_ok (29, .iadd, 1) (List.mem_of_getElem? (i := 18) rfl), rfl⟩
theorem pX10_resting_30 : At cX10_resting 30 (.istore_n 1) 1 31 := ⟨tX10_resting_0_ok (30, .istore_n 1, 1) (List.mem_of_getElem? (i := 19) rfl), rfl⟩
theorem pX10_resting_31 : At cX10_resting 31 (.iinc 2 1) 3 34 := ⟨tX10_resting_0_ok (31, .iinc 2 1, 3) (List.mem_of_getElem? (i := 20) rfl), rfl⟩
theorem pX10_resting_34 : Bt cX10_resting 34 (.goto (-30)) (-30) 4 37 := ⟨tX10_resting_0_ok (34, .goto (-30), 3) (List.mem_of_getElem? (i := 21) rfl), by decide, rfl⟩
theorem pX10_resting_37 : At cX10_resting 37 (.iload_n 1) 1 38 := ⟨tX10_resting_0_ok (37, .iload_n 1, 1) (List.mem_of_getElem? (i := 22) rfl), rfl⟩
theorem pX10_resting_38 : At cX10_resting 38 (.ireturn) 1 39 := ⟨tX10_resting_0_ok (38, .ireturn, 1) (List.mem_of_getElem? (i := 23) rfl), rfl⟩
def tX10_draw_0 : List (Nat × Instr × Nat) := [(0, .aload_n 0, 1), (1, .getfield 9, 3), (4, .iconst 5, 1), (5, .aload_n 0, 1), (6, .getfield 9, 3), (9, .iconst 5, 1), (10, .iaload, 1), (11, .ldc 210, 2), (13, .imul, 1), (14, .sipush 12345, 3), (17, .iadd, 1), (18, .iastore, 1), (19, .aload_n 0, 1), (20, .getfield 9, 3), (23, .iconst 5, 1), (24, .iaload, 1), (25, .bipush 8, 2), (27, .iushr, 1), (28, .ireturn, 1)]
theorem tX10_draw_0_ok : ∀ q ∈ tX10_draw_0, decode cX10_draw q.1 = .ok (q.2.1, q.2.2) := by decide +kernel
theorem pX10_draw_0 : At cX10_draw 0 (.aload_n 0) 1 1 := ⟨tX10_draw_0_ok (0, .aload_n 0, 1) (List.mem_of_getElem? (i := 0) rfl), rfl⟩
theorem pX10_draw_1 : At cX10_draw 1 (.getfield 9) 3 4 := ⟨tX10_draw_0_ok (1, .getfield 9, 3) (List.mem_of_getElem? (i := 1) rfl), rfl⟩
theorem pX10_draw_4 : At cX10_draw 4 (.iconst 5) 1 5 := ⟨tX10_draw_0_ok (4, .iconst 5, 1) (List.mem_of_getElem? (i := 2) rfl), rfl⟩
theorem pX10_draw_5 : At cX10_draw 5 (.aload_n 0) 1 6 := ⟨tX10_draw_0_ok (5, .aload_n 0, 1) (List.mem_of_getElem? (i := 3) rfl), rfl⟩
theorem pX10_draw_6 : At cX10_draw 6 (.getfield 9) 3 9 := ⟨tX10_draw_0_ok (6, .getfield 9, 3) (List.mem_of_getElem? (i := 4) rfl), rfl⟩
theorem pX10_draw_9 : At cX10_draw 9 (.iconst 5) 1 10 := ⟨tX10_draw_0_ok (9, .iconst 5, 1) (List.mem_of_getElem? (i := 5) rfl), rfl⟩
theorem pX10_draw_10 : At cX10_draw 10 (.iaload) 1 11 := ⟨tX10_draw_0_ok (10, .iaload, 1) (List.mem_of_getElem? (i := 6) rfl), rfl⟩
theorem pX10_draw_11 : At cX10_draw 11 (.ldc 210) 2 13 := ⟨tX10_draw_0_ok (11, .ldc 210, 2) (List.mem_of_getElem? (i := 7) rfl), rfl⟩
theorem pX10_draw_13 : At cX10_draw 13 (.imul) 1 14 := ⟨tX10_draw_0_ok (13, .imul, 1) (List.mem_of_getElem? (i := 8) rfl), rfl⟩
theorem pX10_draw_14 : At cX10_draw 14 (.sipush 12345) 3 17 := ⟨tX10_draw_0_ok (14, .sipush 12345, 3) (List.mem_of_getElem? (i := 9) rfl), rfl⟩
theorem pX10_draw_17 : At cX10_draw 17 (.iadd) 1 18 := ⟨tX10_draw_0_ok (17, .iadd, 1) (List.mem_of_getElem? (i := 10) rfl), rfl⟩
theorem pX10_draw_18 : At cX10_draw 18 (.iastore) 1 19 := ⟨tX10_draw_0_ok (18, .iastore, 1) (List.mem_of_getElem? (i := 11) rfl), rfl⟩
theorem pX10_draw_19 : At cX10_draw 19 (.aload_n 0) 1 20 := ⟨tX10_draw_0_ok (19, .aload_n 0, 1) (List.mem_of_getElem? (i := 12) rfl), rfl⟩
theorem pX10_draw_20 : At cX10_draw 20 (.getfield 9) 3 23 := ⟨tX10_draw_0_ok (20, .getfield 9, 3) (List.mem_of_getElem? (i := 13) rfl), rfl⟩
theorem pX10_draw_23 : At cX10_draw 23 (.iconst 5) 1 24 := ⟨tX10_draw_0_ok (23, .iconst 5, 1) (List.mem_of_getElem? (i := 14) rfl), rfl⟩
theorem pX10_draw_24 : At cX10_draw 24 (.iaload) 1 25 := ⟨tX10_draw_0_ok (24, .iaload, 1) (List.mem_of_getElem? (i := 15) rfl), rfl⟩
theorem pX10_draw_25 : At cX10_draw 25 (.bipush 8) 2 27 := ⟨tX10_draw_0_ok (25, .bipush 8, 2) (List.mem_of_getElem? (i := 16) rfl), rfl⟩
theorem pX10_draw_27 : At cX10_draw 27 (.iushr) 1 28 := ⟨tX10_draw_0_ok (27, .iushr, 1) (List.mem_of_getElem? (i := 17) rfl), rfl⟩
theorem pX10_draw_28 : At cX10_draw 28 (.ireturn) 1 29 := ⟨tX10_draw_0_ok (28, .ireturn, 1) (List.mem_of_getElem? (i := 18) rfl), rfl⟩
def tX10_goOn_0 : List (Nat × Instr × Nat) := [(0, .iload_n 1, 1), (1, .i2l, 1), (2, .lconst 1, 1), (3, .ldc2_w 211, 3), (6, .invokestatic 53, 3), (9, .ifCond .ne 9, 3), (12, .aload_n 0, 1), (13, .iconst 1, 1), (14, .invokevirtual 79, 3), (17, .ireturn, 1), (18, .aload_n 0, 1), (19, .getfield 9, 3), (22, .iconst 0, 1), (23, .iaload, 1), (24, .iload_n 1, 1), (25, .iadd, 1), (26, .sipush 9999, 3), (29, .if_icmp .le 9, 3), (32, .aload_n 0, 1), (33, .iconst 3, 1), (34, .invokevirtual 79, 3), (37, .ireturn, 1), (38, .iconst 0, 1), (39, .istore_n 3, 1), (40, .iload_n 3, 1), (41, .iload_n 1, 1), (42, .if_icmp .ge 53, 3), (45, .iconst 0, 1), (46, .istore 4, 2), (48, .iload 4, 2), (50, .aload_n 0, 1), (51, .getfield 9, 3), (54, .bipush 6, 2), (56, .iaload, 1), (57, .if_icmp .ge 28, 3), (60, .iload_n 2, 1), (61, .ifCond .eq 24, 3), (64, .aload_n 0, 1), (65, .iload 4, 2), (67, .aload_n 0, 1), (68, .invokevirtual 213, 3), (71, .iconst 3, 1), (72, .irem, 1), (73, .iconst 1, 1), (74, .isub, 1), (75, .invokevirtual 119, 3), (78, .pop, 1), (79, .iinc 4 1, 3), (82, .goto (-34), 3), (85, .aload_n 0, 1), (86, .invokevirtual 216, 3), (89, .iinc 3 1, 3), (92, .goto (-52), 3), (95, .aload_n 0, 1), (96, .invokevirtual 219, 3), (99, .ireturn, 1)]
theorem tX10_goOn_0_ok : ∀ q ∈ tX10_goOn_0, decode cX10_goOn q.1 = .ok (q.2.1, q.2.2) := by decide +kernel
theorem pX10_goOn_0 : At cX10_goOn 0 (.iload_n 1) 1 1 := ⟨tX10_goOn_0_ok (0, .iload_n 1, 1) (List.mem_of_getElem? (i := 0) rfl), rfl⟩
theorem pX10_goOn_1 : At cX10_goOn 1 (.i2l) 1 2 := ⟨tX10_goOn_0_ok (1, .i2l, 1) (List.mem_of_getElem? (i := 1) rfl), rfl⟩
theorem pX10_goOn_2 : At cX10_goOn 2 (.lconst 1) 1 3 := ⟨tX10_goOn_0_ok (2, .lconst 1, 1) (List.mem_of_getElem? (i := 2) rfl), rfl⟩
theorem pX10_goOn_3 : At cX10_goOn 3 (.ldc2_w 211) 3 6 := ⟨tX10_goOn_0_ok (3, .ldc2_w 211, 3) (List.mem_of_getElem? (i := 3) rfl), rfl⟩
theorem pX10_goOn_6 : At cX10_goOn 6 (.invokestatic 53) 3 9 := ⟨tX10_goOn_0_ok (6, .invokestatic 53, 3) (List.mem_of_getElem? (i := 4) rfl), rfl⟩
theorem pX10_goOn_9 : Bt cX10_goOn 9 (.ifCond .ne 9) 9 18 12 := ⟨tX10_goOn_0_ok (9, .ifCond .ne 9, 3) (List.mem_of_getElem? (i := 5) rfl), by decide, rfl⟩
theorem pX10_goOn_12 : At cX10_goOn 12 (.aload_n 0) 1 13 := ⟨tX10_goOn_0_ok (12, .aload_n 0, 1) (List.mem_of_getElem? (i := 6) rfl), rfl⟩
theorem pX10_goOn_13 : At cX10_goOn 13 (.iconst 1) 1 14 := ⟨tX10_goOn_0_ok (13, .iconst 1, 1) (List.mem_of_getElem? (i := 7) rfl), rfl⟩
theorem pX10_goOn_14 : At cX10_goOn 14 (.invokevirtual 79) 3 17 := ⟨tX10_goOn_0_ok (14, .invokevirtual 79, 3) (List.mem_of_getElem? (i := 8) rfl), rfl⟩
theorem pX10_goOn_17 : At cX10_goOn 17 (.ireturn) 1 18 := ⟨tX10_goOn_0_ok (17, .ireturn, 1) (List.mem_of_getElem? (i := 9) rfl), rfl⟩
theorem pX10_goOn_18 : At cX10_goOn 18 (.aload_n 0) 1 19 := ⟨tX10_goOn_0_ok (18, .aload_n 0, 1) (List.mem_of_getElem? (i := 10) rfl), rfl⟩
theorem pX10_goOn_19 : At cX10_goOn 19 (.getfield 9) 3 22 := ⟨tX10_goOn_0_ok (19, .getfield 9, 3) (List.mem_of_getElem? (i := 11) rfl), rfl⟩
theorem pX10_goOn_22 : At cX10_goOn 22 (.iconst 0) 1 23 := ⟨tX10_goOn_0_ok (22, .iconst 0, 1) (List.mem_of_getElem? (i := 12) rfl), rfl⟩
theorem pX10_goOn_23 : At cX10_goOn 23 (.iaload) 1 24 := ⟨tX10_goOn_0_ok (23, .iaload, 1) (List.mem_of_getElem? (i := 13) rfl), rfl⟩
theorem pX10_goOn_24 : At cX10_goOn 24 (.iload_n 1) 1 25 := ⟨tX10_goOn_0_ok (24, .iload_n 1, 1) (List.mem_of_getElem? (i := 14) rfl), rfl⟩
theorem pX10_goOn_25 : At cX10_goOn 25 (.iadd) 1 26 := ⟨tX10_goOn_0_ok (25, .iadd, 1) (List.mem_of_getElem? (i := 15) rfl), rfl⟩
theorem pX10_goOn_26 : At cX10_goOn 26 (.sipush 9999) 3 29 := ⟨tX10_goOn_0_ok (26, .sipush 9999, 3) (List.mem_of_getElem? (i := 16) rfl), rfl⟩
theorem pX10_goOn_29 : Bt cX10_goOn 29 (.if_icmp .le 9) 9 38 32 := ⟨tX10_goOn_0_ok (29, .if_icmp .le 9, 3) (List.mem_of_getElem? (i := 17) rfl), by decide, rfl⟩
theorem pX10_goOn_32 : At cX10_goOn 32 (.aload_n 0) 1 33 := ⟨tX10_goOn_0_ok (32, .aload_n 0, 1) (List.mem_of_getElem? (i := 18) rfl), rfl⟩
theorem pX10_goOn_33 : At cX10_goOn 33 (.iconst 3) 1 34 := ⟨tX10_goOn_0_ok (33, .iconst 3, 1) (List.mem_of_getElem? (i := 19) rfl), rfl⟩
theorem pX10_goOn_34 : At cX10_goOn 34 (.invokevirtual 79) 3 37 := ⟨tX10_goOn_0_ok (34, .invokevirtual 79, 3) (List.mem_of_getElem? (i := 20) rfl), rfl⟩
theorem pX10_goOn_37 : At cX10_goOn 37 (.ireturn) 1 38 := ⟨tX10_goOn_0_ok (37, .ireturn, 1) (List.mem_of_getElem? (i := 21) rfl), rfl⟩
theorem pX10_goOn_38 : At cX10_goOn 38 (.iconst 0) 1 39 := ⟨tX10_goOn_0_ok (38, .iconst 0, 1) (List.mem_of_getElem? (i := 22) rfl), rfl⟩
theorem pX10_goOn_39 : At cX10_goOn 39 (.istore_n 3) 1 40 := ⟨tX10_goOn_0_ok (39, .istore_n 3, 1) (List.mem_of_getElem? (i := 23) rfl), rfl⟩
theorem pX10_goOn_40 : At cX10_goOn 40 (.iload_n 3) 1 41 := ⟨tX10_goOn_0_ok (40, .iload_n 3, 1) (List.mem_of_getElem? (i := 24) rfl), rfl⟩
theorem pX10_goOn_41 : At cX10_goOn 41 (.iload_n 1) 1 42 := ⟨tX10_goOn_0_ok (41, .iload_n 1, 1) (List.mem_of_getElem? (i := 25) rfl), rfl⟩
theorem pX10_goOn_42 : Bt cX10_goOn 42 (.if_icmp .ge 53) 53 95 45 := ⟨tX10_goOn_0_ok (42, .if_icmp .ge 53, 3) (List.mem_of_getElem? (i := 26) rfl), by decide, rfl⟩
theorem pX10_goOn_45 : At cX10_goOn 45 (.iconst 0) 1 46 := ⟨tX10_goOn_0_ok (45, .iconst 0, 1) (List.mem_of_getElem? (i := 27) rfl), rfl⟩
theorem pX10_goOn_46 : At cX10_goOn 46 (.istore 4) 2 48 := ⟨tX10_goOn_0_ok (46, .istore 4, 2) (List.mem_of_getElem? (i := 28) rfl), rfl⟩
theorem pX10_goOn_48 : At cX10_goOn 48 (.iload 4) 2 50 := ⟨tX10_goOn_0_ok (48, .iload 4, 2) (List.mem_of_getElem? (i := 29) rfl), rfl⟩
theorem pX10_goOn_50 : At cX10_goOn 50 (.aload_n 0) 1 51 := ⟨tX10_goOn_0_ok (50, .aload_n 0, 1) (List.mem_of_getElem? (i := 30) rfl), rfl⟩
theorem pX10_goOn_51 : At cX10_goOn 51 (.getfield 9) 3 54 := ⟨tX10_goOn_0_ok (51, .getfield 9, 3) (List.mem_of_getElem? (i := 31) rfl), rfl⟩
theorem pX10_goOn_54 : At cX10_goOn 54 (.bipush 6) 2 56 := ⟨tX10_goOn_0_ok (54, .bipush 6, 2) (List.mem_of_getElem? (i := 32) rfl), rfl⟩
theorem pX10_goOn_56 : At cX10_goOn 56 (.iaload) 1 57 := ⟨tX10_goOn_0_ok (56, .iaload, 1) (List.mem_of_getElem? (i := 33) rfl), rfl⟩
theorem pX10_goOn_57 : Bt cX10_goOn 57 (.if_icmp .ge 28) 28 85 60 := ⟨tX10_goOn_0_ok (57, .if_icmp .ge 28, 3) (List.mem_of_getElem? (i := 34) rfl), by decide, rfl⟩
theorem pX10_goOn_60 : At cX10_goOn 60 (.iload_n 2) 1 61 := ⟨tX10_goOn_0_ok (60, .iload_n 2, 1) (List.mem_of_getElem? (i := 35) rfl), rfl⟩
theorem pX10_goOn_61 : Bt cX10_goOn 61 (.ifCond .eq 24) 24 85 64 := ⟨tX10_goOn_0_ok (61, .ifCond .eq 24, 3) (List.mem_of_getElem? (i := 36) rfl), by decide, rfl⟩
theorem pX10_goOn_64 : At cX10_goOn 64 (.aload_n 0) 1 65 := ⟨tX10_goOn_0_ok (64, .aload_n 0, 1) (List.mem_of_getElem? (i := 37) rfl), rfl⟩
theorem pX10_goOn_65 : At cX10_goOn 65 (.iload 4) 2 67 := ⟨tX10_goOn_0_ok (65, .iload 4, 2) (List.mem_of_getElem? (i := 38) rfl), rfl⟩
theorem pX10_goOn_67 : At cX10_goOn 67 (.aload_n 0) 1 68 := ⟨tX10_goOn_0_ok (67, .aload_n 0, 1) (List.mem_of_getElem? (i := 39) rfl), rfl⟩
theorem pX10_goOn_68 : At cX10_goOn 68 (.invokevirtual 213) 3 71 := ⟨tX10_goOn_0_ok (68, .invokevirtual 213, 3) (List.mem_of_getElem? (i := 40) rfl), rfl⟩
theorem pX10_goOn_71 : At cX10_goOn 71 (.iconst 3) 1 72 := ⟨tX10_goOn_0_ok (71, .iconst 3, 1) (List.mem_of_getElem? (i := 41) rfl), rfl⟩
theorem pX10_goOn_72 : At cX10_goOn 72 (.irem) 1 73 := ⟨tX10_goOn_0_ok (72, .irem, 1) (List.mem_of_getElem? (i := 42) rfl), rfl⟩
theorem pX10_goOn_73 : At cX10_goOn 73 (.iconst 1) 1 74 := ⟨tX10_goOn_0_ok (73, .iconst 1, 1) (List.mem_of_getElem? (i := 43) rfl), rfl⟩
theorem pX10_goOn_74 : At cX10_goOn 74 (.isub) 1 75 := ⟨tX10_goOn_0_ok (74, .isub, 1) (List.mem_of_getElem? (i := 44) rfl), rfl⟩
theorem pX10_goOn_75 : At cX10_goOn 75 (.invokevirtual 119) 3 78 := ⟨tX10_goOn_0_ok (75, .invokevirtual 119, 3) (List.mem_of_getElem? (i := 45) rfl), rfl⟩
theorem pX10_goOn_78 : At cX10_goOn 78 (.pop) 1 79 := ⟨tX10_goOn_0_ok (78, .pop, 1) (List.mem_of_getElem? (i := 46) rfl), rfl⟩
theorem pX10_goOn_79 : At cX10_goOn 79 (.iinc 4 1) 3 82 := ⟨tX10_goOn_0_ok (79, .iinc 4 1, 3) (List.mem_of_getElem? (i := 47) rfl), rfl⟩
theorem pX10_goOn_82 : Bt cX10_goOn 82 (.goto (-34)) (-34) 48 85 := ⟨tX10_goOn_0_ok (82, .goto (-34), 3) (List.mem_of_getElem? (i := 48) rfl), by decide, rfl⟩
theorem pX10_goOn_85 : At cX10_goOn 85 (.aload_n 0) 1 86 := ⟨tX10_goOn_0_ok (85, .aload_n 0, 1) (List.mem_of_getElem? (i := 49) rfl), rfl⟩
theorem pX10_goOn_86 : At cX10_goOn 86 (.invokevirtual 216) 3 89 := ⟨tX10_goOn_0_ok (86, .invokevirtual 216, 3) (List.mem_of_getElem? (i := 50) rfl), rfl⟩
theorem pX10_goOn_89 : At cX10_goOn 89 (.iinc 3 1) 3 92 := ⟨tX10_goOn_0_ok (89, .iinc 3 1, 3) (List.mem_of_getElem? (i := 51) rfl), rfl⟩
theorem pX10_goOn_92 : Bt cX10_goOn 92 (.goto (-52)) (-52) 40 95 := ⟨tX10_goOn_0_ok (92, .goto (-52), 3) (List.mem_of_getElem? (i := 52) rfl), by decide, rfl⟩
theorem pX10_goOn_95 : At cX10_goOn 95 (.aload_n 0) 1 96 := ⟨tX10_goOn_0_ok (95, .aload_n 0, 1) (List.mem_of_getElem? (i := 53) rfl), rfl⟩
theorem pX10_goOn_96 : At cX10_goOn 96 (.invokevirtual 219) 3 99 := ⟨tX10_goOn_0_ok (96, .invokevirtual 219, 3) (List.mem_of_getElem? (i := 54) rfl), rfl⟩
theorem pX10_goOn_99 : At cX10_goOn 99 (.ireturn) 1 100 := ⟨tX10_goOn_0_ok (99, .ireturn, 1) (List.mem_of_getElem? (i := 55) rfl), rfl⟩
def tX10_steps_0 : List (Nat × Instr × Nat) := [(0, .aload_n 0, 1), (1, .iload_n 1, 1), (2, .iconst 0, 1), (3, .invokevirtual 222, 3), (6, .ireturn, 1)]
theorem tX10_steps_0_ok : ∀ q ∈ tX10_steps_0, decode cX10_steps q.1 = .ok (q.2.1, q.2.2) := by decide +kernel
theorem pX10_steps_0 : At cX10_steps 0 (.aload_n 0) 1 1 := ⟨tX10_steps_0_ok (0, .aload_n 0, 1) (List.mem_of_getElem? (i := 0) rfl), rfl⟩
theorem pX10_steps_1 : At cX10_steps 1 (.iload_n 1) 1 2 := ⟨tX10_steps_0_ok (1, .iload_n 1, 1) (List.mem_of_getElem? (i := 1) rfl), rfl⟩
theorem pX10_steps_2 : At cX10_steps 2 (.iconst 0) 1 3 := ⟨tX10_steps_0_ok (2, .iconst 0, 1) (List.mem_of_getElem? (i := 2) rfl), rfl⟩
theorem pX10_steps_3 : At cX10_steps 3 (.invokevirtual 222) 3 6 := ⟨tX10_steps_0_ok (3, .invokevirtual 222, 3) (List.mem_of_getElem? (i := 3) rfl), rfl⟩
theorem pX10_steps_6 : At cX10_steps 6 (.ireturn) 1 7 := ⟨tX10_steps_0_ok (6, .ireturn, 1) (List.mem_of_getElem? (i := 4) rfl), rfl⟩
def tX10_loose_0 : List (Nat × Instr × Nat) := [(0, .aload_n 0, 1), (1, .iload_n 1, 1), (2, .iconst 1, 1), (3, .invokevirtual 222, 3), (6, .ireturn, 1)]
theorem tX10_loose_0_ok : ∀ q ∈ tX10_loose_0, decode cX10_loose q.1 = .ok (q.2.1, q.2.2) := by decide +kernel
theorem pX10_loose_0 : At cX10_loose 0 (.aload_n 0) 1 1 := ⟨tX10_loose_0_ok (0, .aload_n 0, 1) (List.mem_of_getElem? (i := 0) rfl), rfl⟩
theorem pX10_loose_1 : At cX10_loose 1 (.iload_n 1) 1 2 := ⟨tX10_loose_0_ok (1, .iload_n 1, 1) (List.mem_of_getElem? (i := 1) rfl), rfl⟩
theorem pX10_loose_2 : At cX10_loose 2 (.iconst 1) 1 3 := ⟨tX10_loose_0_ok (2, .iconst 1, 1) (List.mem_of_getElem? (i := 2) rfl), rfl⟩
theorem pX10_loose_3 : At cX10_loose 3 (.invokevirtual 222) 3 6 := ⟨tX10_loose_0_ok (3, .invokevirtual 222, 3) (List.mem_of_getElem? (i := 3) rfl), rfl⟩
theorem pX10_loose_6 : At cX10_loose 6 (.ireturn) 1 7 := ⟨tX10_loose_0_ok (6, .ireturn, 1) (List.mem_of_getElem? (i := 4) rfl), rfl⟩
def tX10_saves_0 : List (Nat × Instr × Nat) := [(0, .aload_n 0, 1), (1, .getfield 28, 3), (4, .iconst 0, 1), (5, .aload_n 0, 1), (6, .getfield 9, 3), (9, .iconst 0, 1), (10, .iaload, 1), (11, .iastore, 1), (12, .aload_n 0, 1), (13, .getfield 28, 3), (16, .iconst 1, 1), (17, .aload_n 0, 1), (18, .getfield 9, 3), (21, .iconst 1, 1), (22, .iaload, 1), (23, .iastore, 1), (24, .iconst 0, 1), (25, .istore_n 1, 1), (26, .iload_n 1, 1), (27, .bipush 40, 2), (29, .if_icmp .ge 26, 3), (32, .aload_n 0, 1), (33, .getfield 28, 3), (36, .iconst 2, 1), (37, .iload_n 1, 1), (38, .iadd, 1), (39, .aload_n 0, 1), (40, .getfield 9, 3), (43, .bipush 10, 2), (45, .iload_n 1, 1), (46, .iadd, 1), (47, .iaload, 1), (48, .iastore, 1), (49, .iinc 1 1, 3), (52, .goto (-26), 3), (55, .return_, 1)]
theorem tX10_saves_0_ok : ∀ q ∈ tX10_saves_0, decode cX10_saves q.1 = .ok (q.2.1, q.2.2) := by decide +kernel
theorem pX10_saves_0 : At cX10_saves 0 (.aload_n 0) 1 1 := ⟨tX10_saves_0_ok (0, .aload_n 0, 1) (List.mem_of_getElem? (i := 0) rfl), rfl⟩
theorem pX10_saves_1 : At cX10_saves 1 (.getfield 28) 3 4 := ⟨tX10_saves_0_ok (1, .getfield 28, 3) (List.mem_of_getElem? (i := 1) rfl), rfl⟩
theorem pX10_saves_4 : At cX10_saves 4 (.iconst 0) 1 5 := ⟨tX10_saves_0_ok (4, .iconst 0, 1) (List.mem_of_getElem? (i := 2) rfl), rfl⟩
theorem pX10_saves_5 : At cX10_saves 5 (.aload_n 0) 1 6 := ⟨tX10_saves_0_ok (5, .aload_n 0, 1) (List.mem_of_getElem? (i := 3) rfl), rfl⟩
theorem pX10_saves_6 : At cX10_saves 6 (.getfield 9) 3 9 := ⟨tX10_saves_0_ok (6, .getfield 9, 3) (List.mem_of_getElem? (i := 4) rfl), rfl⟩
theorem pX10_saves_9 : At cX10_saves 9 (.iconst 0) 1 10 := ⟨tX10_saves_0_ok (9, .iconst 0, 1) (List.mem_of_getElem? (i := 5) rfl), rfl⟩
theorem pX10_saves_10 : At cX10_saves 10 (.iaload) 1 11 := ⟨tX10_saves_0_ok (10, .iaload, 1) (List.mem_of_getElem? (i := 6) rfl), rfl⟩
theorem pX10_saves_11 : At cX10_saves 11 (.iastore) 1 12 := ⟨tX10_saves_0_ok (11, .iastore, 1) (List.mem_of_getElem? (i := 7) rfl), rfl⟩
theorem pX10_saves_12 : At cX10_saves 12 (.aload_n 0) 1 13 := ⟨tX10_saves_0_ok (12, .aload_n 0, 1) (List.mem_of_getElem? (i := 8) rfl), rfl⟩
theorem pX10_saves_13 : At cX10_saves 13 (.getfield 28) 3 16 := ⟨tX10_saves_0_ok (13, .getfield 28, 3) (List.mem_of_getElem? (i := 9) rfl), rfl⟩
theorem pX10_saves_16 : At cX10_saves 16 (.iconst 1) 1 17 := ⟨tX10_saves_0_ok (16, .iconst 1, 1) (List.mem_of_getElem? (i := 10) rfl), rfl⟩
theorem pX10_saves_17 : At cX10_saves 17 (.aload_n 0) 1 18 := ⟨tX10_saves_0_ok (17, .aload_n 0, 1) (List.mem_of_getElem? (i := 11) rfl), rfl⟩
theorem pX10_saves_18 : At cX10_saves 18 (.getfield 9) 3 21 := ⟨tX10_saves_0_ok (18, .getfield 9, 3) (List.mem_of_getElem? (i := 12) rfl), rfl⟩
theorem pX10_saves_21 : At cX10_saves 21 (.iconst 1) 1 22 := ⟨tX10_saves_0_ok (21, .iconst 1, 1) (List.mem_of_getElem? (i := 13) rfl), rfl⟩
theorem pX10_saves_22 : At cX10_saves 22 (.iaload) 1 23 := ⟨tX10_saves_0_ok (22, .iaload, 1) (List.mem_of_getElem? (i := 14) rfl), rfl⟩
theorem pX10_saves_23 : At cX10_saves 23 (.iastore) 1 24 := ⟨tX10_saves_0_ok (23, .iastore, 1) (List.mem_of_getElem? (i := 15) rfl), rfl⟩
theorem pX10_saves_24 : At cX10_saves 24 (.iconst 0) 1 25 := ⟨tX10_saves_0_ok (24, .iconst 0, 1) (List.mem_of_getElem? (i := 16) rfl), rfl⟩
theorem pX10_saves_25 : At cX10_saves 25 (.istore_n 1) 1 26 := ⟨tX10_saves_0_ok (25, .istore_n 1, 1) (List.mem_of_getElem? (i := 17) rfl), rfl⟩
theorem pX10_saves_26 : At cX10_saves 26 (.iload_n 1) 1 27 := ⟨tX10_saves_0_ok (26, .iload_n 1, 1) (List.mem_of_getElem? (i := 18) rfl), rfl⟩
theorem pX10_saves_27 : At cX10_saves 27 (.bipush 40) 2 29 := ⟨tX10_saves_0_ok (27, .bipush 40, 2) (List.mem_of_getElem? (i := 19) rfl), rfl⟩
theorem pX10_saves_29 : Bt cX10_saves 29 (.if_icmp .ge 26) 26 55 32 := ⟨tX10_saves_0_ok (29, .if_icmp .ge 26, 3) (List.mem_of_getElem? (i := 20) rfl), by decide, rfl⟩
theorem pX10_saves_32 : At cX10_saves 32 (.aload_n 0) 1 33 := ⟨tX10_saves_0_ok (32, .aload_n 0, 1) (List.mem_of_getElem? (i := 21) rfl), rfl⟩
theorem pX10_saves_33 : At cX10_saves 33 (.getfield 28) 3 36 := ⟨tX10_saves_0_ok (33, .getfield 28, 3) (List.mem_of_getElem? (i := 22) rfl), rfl⟩
theorem pX10_saves_36 : At cX10_saves 36 (.iconst 2) 1 37 := ⟨tX10_saves_0_ok (36, .iconst 2, 1) (List.mem_of_getElem? (i := 23) rfl), rfl⟩
theorem pX10_saves_37 : At cX10_saves 37 (.iload_n 1) 1 38 := ⟨tX10_saves_0_ok (37, .iload_n 1, 1) (List.mem_of_getElem? (i := 24) rfl), rfl⟩
theorem pX10_saves_38 : At cX10_saves 38 (.iadd) 1 39 := ⟨tX10_saves_0_ok (38, .iadd, 1) (List.mem_of_getElem? (i := 25) rfl), rfl⟩
theorem pX10_saves_39 : At cX10_saves 39 (.aload_n 0) 1 40 := ⟨tX10_saves_0_ok (39, .aload_n 0, 1) (List.mem_of_getElem? (i := 26) rfl), rfl⟩
theorem pX10_saves_40 : At cX10_saves 40 (.getfield 9) 3 43 := ⟨tX10_saves_0_ok (40, .getfield 9, 3) (List.mem_of_getElem? (i := 27) rfl), rfl⟩
theorem pX10_saves_43 : At cX10_saves 43 (.bipush 10) 2 45 := ⟨tX10_saves_0_ok (43, .bipush 10, 2) (List.mem_of_getElem? (i := 28) rfl), rfl⟩
theorem pX10_saves_45 : At cX10_saves 45 (.iload_n 1) 1 46 := ⟨tX10_saves_0_ok (45, .iload_n 1, 1) (List.mem_of_getElem? (i := 29) rfl), rfl⟩
theorem pX10_saves_46 : At cX10_saves 46 (.iadd) 1 47 := ⟨tX10_saves_0_ok (46, .iadd, 1) (List.mem_of_getElem? (i := 30) rfl), rfl⟩
theorem pX10_saves_47 : At cX10_saves 47 (.iaload) 1 48 := ⟨tX10_saves_0_ok (47, .iaload, 1) (List.mem_of_getElem? (i := 31) rfl), rfl⟩
theorem pX10_saves_48 : At cX10_saves 48 (.iastore) 1 49 := ⟨tX10_saves_0_ok (48, .iastore, 1) (List.mem_of_getElem? (i := 32) rfl), rfl⟩
theorem pX10_saves_49 : At cX10_saves 49 (.iinc 1 1) 3 52 := ⟨tX10_saves_0_ok (49, .iinc 1 1, 3) (List.mem_of_getElem? (i := 33) rfl), rfl⟩
theorem pX10_saves_52 : Bt cX10_saves 52 (.goto (-26)) (-26) 26 55 := ⟨tX10_saves_0_ok (52, .goto (-26), 3) (List.mem_of_getElem? (i := 34) rfl), by decide, rfl⟩
theorem pX10_saves_55 : At cX10_saves 55 (.return_) 1 56 := ⟨tX10_saves_0_ok (55, .return_, 1) (List.mem_of_getElem? (i := 35) rfl), rfl⟩
def tX10_putsBack_0 : List (Nat × Instr × Nat) := [(0, .aload_n 0, 1), (1, .getfield 9, 3), (4, .iconst 0, 1), (5, .aload_n 0, 1), (6, .getfield 28, 3), (9, .iconst 0, 1), (10, .iaload, 1), (11, .iastore, 1), (12, .aload_n 0, 1), (13, .getfield 9, 3), (16, .iconst 1, 1), (17, .aload_n 0, 1), (18, .getfield 28, 3), (21, .iconst 1, 1), (22, .iaload, 1), (23, .iastore, 1), (24, .iconst 0, 1), (25, .istore_n 1, 1), (26, .iload_n 1, 1), (27, .bipush 40, 2), (29, .if_icmp .ge 26, 3), (32, .aload_n 0, 1), (33, .getfield 9, 3), (36, .bipush 10, 2), (38, .iload_n 1, 1), (39, .iadd, 1), (40, .aload_n 0, 1), (41, .getfield 28, 3), (44, .iconst 2, 1), (45, .iload_n 1, 1), (46, .iadd, 1), (47, .iaload, 1), (48, .iastore, 1), (49, .iinc 1 1, 3), (52, .goto (-26), 3), (55, .return_, 1)]
theorem tX10_putsBack_0_ok : ∀ q ∈ tX10_putsBack_0, decode cX10_putsBack q.1 = .ok (q.2.1, q.2.2) := by decide +kernel
theorem pX10_putsBack_0 : At cX10_putsBack 0 (.aload_n 0) 1 1 := ⟨tX10_putsBack_0_ok (0, .aload_n 0, 1) (List.mem_of_getElem? (i := 0) rfl), rfl⟩
theorem pX10_putsBack_1 : At cX10_putsBack 1 (.getfield 9) 3 4 := ⟨tX10_putsBack_0_ok (1, .getfield 9, 3) (List.mem_of_getElem? (i := 1) rfl), rfl⟩
theorem pX10_putsBack_4 : At cX10_putsBack 4 (.iconst 0) 1 5 := ⟨tX10_putsBack_0_ok (4, .iconst 0, 1) (List.mem_of_getElem? (i := 2) rfl), rfl⟩
theorem pX10_putsBack_5 : At cX10_putsBack 5 (.aload_n 0) 1 6 := ⟨tX10_putsBack_0_ok (5, .aload_n 0, 1) (List.mem_of_getElem? (i := 3) rfl), rfl⟩
theorem pX10_putsBack_6 : At cX10_putsBack 6 (.getfield 28) 3 9 := ⟨tX10_putsBack_0_ok (6, .getfield 28, 3) (List.mem_of_getElem? (i := 4) rfl), rfl⟩
theorem pX10_putsBack_9 : At cX10_putsBack 9 (.iconst 0) 1 10 := ⟨tX10_putsBack_0_ok (9, .iconst 0, 1) (List.mem_of_getElem? (i := 5) rfl), rfl⟩
theorem pX10_putsBack_10 : At cX10_putsBack 10 (.iaload) 1 11 := ⟨tX10_putsBack_0_ok (10, .iaload, 1) (List.mem_of_getElem? (i := 6) rfl), rfl⟩
theorem pX10_putsBack_11 : At cX10_putsBack 11 (.iastore) 1 12 := ⟨tX10_putsBack_0_ok (11, .iastore, 1) (List.mem_of_getElem? (i := 7) rfl), rfl⟩
theorem pX10_putsBack_12 : At cX10_putsBack 12 (.aload_n 0) 1 13 := ⟨tX10_putsBack_0_ok (12, .aload_n 0, 1) (List.mem_of_getElem? (i := 8) rfl), rfl⟩
theorem pX10_putsBack_13 : At cX10_putsBack 13 (.getfield 9) 3 16 := ⟨tX10_putsBack_0_ok (13, .getfield 9, 3) (List.mem_of_getElem? (i := 9) rfl), rfl⟩
theorem pX10_putsBack_16 : At cX10_putsBack 16 (.iconst 1) 1 17 := ⟨tX10_putsBack_0_ok (16, .iconst 1, 1) (List.mem_of_getElem? (i := 10) rfl), rfl⟩
theorem pX10_putsBack_17 : At cX10_putsBack 17 (.aload_n 0) 1 18 := ⟨tX10_putsBack_0_ok (17, .aload_n 0, 1) (List.mem_of_getElem? (i := 11) rfl), rfl⟩
theorem pX10_putsBack_18 : At cX10_putsBack 18 (.getfield 28) 3 21 := ⟨tX10_putsBack_0_ok (18, .getfield 28, 3) (List.mem_of_getElem? (i := 12) rfl), rfl⟩
theorem pX10_putsBack_21 : At cX10_putsBack 21 (.iconst 1) 1 22 := ⟨tX10_putsBack_0_ok (21, .iconst 1, 1) (List.mem_of_getElem? (i := 13) rfl), rfl⟩
theorem pX10_putsBack_22 : At cX10_putsBack 22 (.iaload) 1 23 := ⟨tX10_putsBack_0_ok (22, .iaload, 1) (List.mem_of_getElem? (i := 14) rfl), rfl⟩
theorem pX10_putsBack_23 : At cX10_putsBack 23 (.iastore) 1 24 := ⟨tX10_putsBack_0_ok (23, .iastore, 1) (List.mem_of_getElem? (i := 15) rfl), rfl⟩
theorem pX10_putsBack_24 : At cX10_putsBack 24 (.iconst 0) 1 25 := ⟨tX10_putsBack_0_ok (24, .iconst 0, 1) (List.mem_of_getElem? (i := 16) rfl), rfl⟩
theorem pX10_putsBack_25 : At cX10_putsBack 25 (.istore_n 1) 1 26 := ⟨tX10_putsBack_0_ok (25, .istore_n 1, 1) (List.mem_of_getElem? (i := 17) rfl), rfl⟩
theorem pX10_putsBack_26 : At cX10_putsBack 26 (.iload_n 1) 1 27 := ⟨tX10_putsBack_0_ok (26, .iload_n 1, 1) (List.mem_of_getElem? (i := 18) rfl), rfl⟩
theorem pX10_putsBack_27 : At cX10_putsBack 27 (.bipush 40) 2 29 := ⟨tX10_putsBack_0_ok (27, .bipush 40, 2) (List.mem_of_getElem? (i := 19) rfl), rfl⟩
theorem pX10_putsBack_29 : Bt cX10_putsBack 29 (.if_icmp .ge 26) 26 55 32 := ⟨tX10_putsBack_0_ok (29, .if_icmp .ge 26, 3) (List.mem_of_getElem? (i := 20) rfl), by decide, rfl⟩
theorem pX10_putsBack_32 : At cX10_putsBack 32 (.aload_n 0) 1 33 := ⟨tX10_putsBack_0_ok (32, .aload_n 0, 1) (List.mem_of_getElem? (i := 21) rfl), rfl⟩
theorem pX10_putsBack_33 : At cX10_putsBack 33 (.getfield 9) 3 36 := ⟨tX10_putsBack_0_ok (33, .getfield 9, 3) (List.mem_of_getElem? (i := 22) rfl), rfl⟩
theorem pX10_putsBack_36 : At cX10_putsBack 36 (.bipush 10) 2 38 := ⟨tX10_putsBack_0_ok (36, .bipush 10, 2) (List.mem_of_getElem? (i := 23) rfl), rfl⟩
theorem pX10_putsBack_38 : At cX10_putsBack 38 (.iload_n 1) 1 39 := ⟨tX10_putsBack_0_ok (38, .iload_n 1, 1) (List.mem_of_getElem? (i := 24) rfl), rfl⟩
theorem pX10_putsBack_39 : At cX10_putsBack 39 (.iadd) 1 40 := ⟨tX10_putsBack_0_ok (39, .iadd, 1) (List.mem_of_getElem? (i := 25) rfl), rfl⟩
theorem pX10_putsBack_40 : At cX10_putsBack 40 (.aload_n 0) 1 41 := ⟨tX10_putsBack_0_ok (40, .aload_n 0, 1) (List.mem_of_getElem? (i := 26) rfl), rfl⟩
theorem pX10_putsBack_41 : At cX10_putsBack 41 (.getfield 28) 3 44 := ⟨tX10_putsBack_0_ok (41, .getfield 28, 3) (List.mem_of_getElem? (i := 27) rfl), rfl⟩
theorem pX10_putsBack_44 : At cX10_putsBack 44 (.iconst 2) 1 45 := ⟨tX10_putsBack_0_ok (44, .iconst 2, 1) (List.mem_of_getElem? (i := 28) rfl), rfl⟩
theorem pX10_putsBack_45 : At cX10_putsBack 45 (.iload_n 1) 1 46 := ⟨tX10_putsBack_0_ok (45, .iload_n 1, 1) (List.mem_of_getElem? (i := 29) rfl), rfl⟩
theorem pX10_putsBack_46 : At cX10_putsBack 46 (.iadd) 1 47 := ⟨tX10_putsBack_0_ok (46, .iadd, 1) (List.mem_of_getElem? (i := 30) rfl), rfl⟩
theorem pX10_putsBack_47 : At cX10_putsBack 47 (.iaload) 1 48 := ⟨tX10_putsBack_0_ok (47, .iaload, 1) (List.mem_of_getElem? (i := 31) rfl), rfl⟩
theorem pX10_putsBack_48 : At cX10_putsBack 48 (.iastore) 1 49 := ⟨tX10_putsBack_0_ok (48, .iastore, 1) (List.mem_of_getElem? (i := 32) rfl), rfl⟩
theorem pX10_putsBack_49 : At cX10_putsBack 49 (.iinc 1 1) 3 52 := ⟨tX10_putsBack_0_ok (49, .iinc 1 1, 3) (List.mem_of_getElem? (i := 33) rfl), rfl⟩
theorem pX10_putsBack_52 : Bt cX10_putsBack 52 (.goto (-26)) (-26) 26 55 := ⟨tX10_putsBack_0_ok (52, .goto (-26), 3) (List.mem_of_getElem? (i := 34) rfl), by decide, rfl⟩
theorem pX10_putsBack_55 : At cX10_putsBack 55 (.return_) 1 56 := ⟨tX10_putsBack_0_ok (55, .return_, 1) (List.mem_of_getElem? (i := 35) rfl), rfl⟩
def tX10_then_0 : List (Nat × Instr × Nat) := [(0, .iload_n 1, 1), (1, .i2l, 1), (2, .lconst 0, 1), (3, .ldc2_w 211, 3), (6, .invokestatic 53, 3), (9, .ifCond .eq 23, 3), (12, .aload_n 0, 1), (13, .iload_n 2, 1), (14, .invokevirtual 87, 3), (17, .ifCond .eq 15, 3), (20, .iload_n 3, 1), (21, .i2l, 1), (22, .lconst 0, 1), (23, .ldc2_w 122, 3), (26, .invokestatic 53, 3), (29, .ifCond .ne 9, 3), (32, .aload_n 0, 1), (33, .iconst 1, 1), (34, .invokevirtual 79, 3), (37, .ireturn, 1), (38, .aload_n 0, 1), (39, .invokevirtual 226, 3), (42, .iconst 0, 1), (43, .istore 4, 2), (45, .iload 4, 2), (47, .iload_n 1, 1), (48, .if_icmp .ge 13, 3), (51, .aload_n 0, 1), (52, .invokevirtual 216, 3), (55, .iinc 4 1, 3), (58, .goto (-13), 3), (61, .iload_n 3, 1), (62, .iconst 2, 1), (63, .if_icmp .ne 12, 3), (66, .aload_n 0, 1), (67, .getfield 9, 3), (70, .iconst 1, 1), (71, .iaload, 1), (72, .goto 11, 3), (75, .aload_n 0, 1), (76, .iload_n 2, 1), (77, .iconst 2, 1), (78, .iload_n 3, 1), (79, .iadd, 1), (80, .invokevirtual 61, 3), (83, .istore 4, 2), (85, .aload_n 0, 1), (86, .invokevirtual 229, 3), (89, .iload 4, 2), (91, .ireturn, 1)]
theorem tX10_then_0_ok : ∀ q ∈ tX10_then_0, decode cX10_then q.1 = .ok (q.2.1, q.2.2) := by decide +kernel
theorem pX10_then_0 : At cX10_then 0 (.iload_n 1) 1 1 := ⟨tX10_then_0_ok (0, .iload_n 1, 1) (List.mem_of_getElem? (i := 0) rfl), rfl⟩
theorem pX10_then_1 : At cX10_then 1 (.i2l) 1 2 := ⟨tX10_then_0_ok (1, .i2l, 1) (List.mem_of_getElem? (i := 1) rfl), rfl⟩
theorem pX10_then_2 : At cX10_then 2 (.lconst 0) 1 3 := ⟨tX10_then_0_ok (2, .lconst 0, 1) (List.mem_of_getElem? (i := 2) rfl), rfl⟩
theorem pX10_then_3 : At cX10_then 3 (.ldc2_w 211) 3 6 := ⟨tX10_then_0_ok (3, .ldc2_w 211, 3) (List.mem_of_getElem? (i := 3) rfl), rfl⟩
theorem pX10_then_6 : At cX10_then 6 (.invokestatic 53) 3 9 := ⟨tX10_then_0_ok (6, .invokestatic 53, 3) (List.mem_of_getElem? (i := 4) rfl), rfl⟩
theorem pX10_then_9 : Bt cX10_then 9 (.ifCond .eq 23) 23 32 12 := ⟨tX10_then_0_ok (9, .ifCond .eq 23, 3) (List.mem_of_getElem? (i := 5) rfl), by decide, rfl⟩
theorem pX10_then_12 : At cX10_then 12 (.aload_n 0) 1 13 := ⟨tX10_then_0_ok (12, .aload_n 0, 1) (List.mem_of_getElem? (i := 6) rfl), rfl⟩
theorem pX10_then_13 : At cX10_then 13 (.iload_n 2) 1 14 := ⟨tX10_then_0_ok (13, .iload_n 2, 1) (List.mem_of_getElem? (i := 7) rfl), rfl⟩
theorem pX10_then_14 : At cX10_then 14 (.invokevirtual 87) 3 17 := ⟨tX10_then_0_ok (14, .invokevirtual 87, 3) (List.mem_of_getElem? (i := 8) rfl), rfl⟩
theorem pX10_then_17 : Bt cX10_then 17 (.ifCond .eq 15) 15 32 20 := ⟨tX10_then_0_ok (17, .ifCond .eq 15, 3) (List.mem_of_getElem? (i := 9) rfl), by decide, rfl⟩
theorem pX10_then_20 : At cX10_then 20 (.iload_n 3) 1 21 := ⟨tX10_then_0_ok (20, .iload_n 3, 1) (List.mem_of_getElem? (i := 10) rfl), rfl⟩
theorem pX10_then_21 : At cX10_then 21 (.i2l) 1 22 := ⟨tX10_then_0_ok (21, .i2l, 1) (List.mem_of_getElem? (i := 11) rfl), rfl⟩
theorem pX10_then_22 : At cX10_then 22 (.lconst 0) 1 23 := ⟨tX10_then_0_ok (22, .lconst 0, 1) (List.mem_of_getElem? (i := 12) rfl), rfl⟩
theorem pX10_then_23 : At cX10_then 23 (.ldc2_w 122) 3 26 := ⟨tX10_then_0_ok (23, .ldc2_w 122, 3) (List.mem_of_getElem? (i := 13) rfl), rfl⟩
theorem pX10_then_26 : At cX10_then 26 (.invokestatic 53) 3 29 := ⟨tX10_then_0_ok (26, .invokestatic 53, 3) (List.mem_of_getElem? (i := 14) rfl), rfl⟩
theorem pX10_then_29 : Bt cX10_then 29 (.ifCond .ne 9) 9 38 32 := ⟨tX10_then_0_ok (29, .ifCond .ne 9, 3) (List.mem_of_getElem? (i := 15) rfl), by decide, rfl⟩
theorem pX10_then_32 : At cX10_then 32 (.aload_n 0) 1 33 := ⟨tX10_then_0_ok (32, .aload_n 0, 1) (List.mem_of_getElem? (i := 16) rfl), rfl⟩
theorem pX10_then_33 : At cX10_then 33 (.iconst 1) 1 34 := ⟨tX10_then_0_ok (33, .iconst 1, 1) (List.mem_of_getElem? (i := 17) rfl), rfl⟩
theorem pX10_then_34 : At cX10_then 34 (.invokevirtual 79) 3 37 := ⟨tX10_then_0_ok (34, .invokevirtual 79, 3) (List.mem_of_getElem? (i := 18) rfl), rfl⟩
theorem pX10_then_37 : At cX10_then 37 (.ireturn) 1 38 := ⟨tX10_then_0_ok (37, .ireturn, 1) (List.mem_of_getElem? (i := 19) rfl), rfl⟩
theorem pX10_then_38 : At cX10_then 38 (.aload_n 0) 1 39 := ⟨tX10_then_0_ok (38, .aload_n 0, 1) (List.mem_of_getElem? (i := 20) rfl), rfl⟩
theorem pX10_then_39 : At cX10_then 39 (.invokevirtual 226) 3 42 := ⟨tX10_then_0_ok (39, .invokevirtual 226, 3) (List.mem_of_getElem? (i := 21) rfl), rfl⟩
theorem pX10_then_42 : At cX10_then 42 (.iconst 0) 1 43 := ⟨tX10_then_0_ok (42, .iconst 0, 1) (List.mem_of_getElem? (i := 22) rfl), rfl⟩
theorem pX10_then_43 : At cX10_then 43 (.istore 4) 2 45 := ⟨tX10_then_0_ok (43, .istore 4, 2) (List.mem_of_getElem? (i := 23) rfl), rfl⟩
theorem pX10_then_45 : At cX10_then 45 (.iload 4) 2 47 := ⟨tX10_then_0_ok (45, .iload 4, 2) (List.mem_of_getElem? (i := 24) rfl), rfl⟩
theorem pX10_then_47 : At cX10_then 47 (.iload_n 1) 1 48 := ⟨tX10_then_0_ok (47, .iload_n 1, 1) (List.mem_of_getElem? (i := 25) rfl), rfl⟩
theorem pX10_then_48 : Bt cX10_then 48 (.if_icmp .ge 13) 13 61 51 := ⟨tX10_then_0_ok (48, .if_icmp .ge 13, 3) (List.mem_of_getElem? (i := 26) rfl), by decide, rfl⟩
theorem pX10_then_51 : At cX10_then 51 (.aload_n 0) 1 52 := ⟨tX10_then_0_ok (51, .aload_n 0, 1) (List.mem_of_getElem? (i := 27) rfl), rfl⟩
theorem pX10_then_52 : At cX10_then 52 (.invokevirtual 216) 3 55 := ⟨tX10_then_0_ok (52, .invokevirtual 216, 3) (List.mem_of_getElem? (i := 28) rfl), rfl⟩
theorem pX10_then_55 : At cX10_then 55 (.iinc 4 1) 3 58 := ⟨tX10_then_0_ok (55, .iinc 4 1, 3) (List.mem_of_getElem? (i := 29) rfl), rfl⟩
theorem pX10_then_58 : Bt cX10_then 58 (.goto (-13)) (-13) 45 61 := ⟨tX10_then_0_ok (58, .goto (-13), 3) (List.mem_of_getElem? (i := 30) rfl), by decide, rfl⟩
theorem pX10_then_61 : At cX10_then 61 (.iload_n 3) 1 62 := ⟨tX10_then_0_ok (61, .iload_n 3, 1) (List.mem_of_getElem? (i := 31) rfl), rfl⟩
theorem pX10_then_62 : At cX10_then 62 (.iconst 2) 1 63 := ⟨tX10_then_0_ok (62, .iconst 2, 1) (List.mem_of_getElem? (i := 32) rfl), rfl⟩
theorem pX10_then_63 : Bt cX10_then 63 (.if_icmp .ne 12) 12 75 66 := ⟨tX10_then_0_ok (63, .if_icmp .ne 12, 3) (List.mem_of_getElem? (i := 33) rfl), by decide, rfl⟩
theorem pX10_then_66 : At cX10_then 66 (.aload_n 0) 1 67 := ⟨tX10_then_0_ok (66, .aload_n 0, 1) (List.mem_of_getElem? (i := 34) rfl), rfl⟩
theorem pX10_then_67 : At cX10_then 67 (.getfield 9) 3 70 := ⟨tX10_then_0_ok (67, .getfield 9, 3) (List.mem_of_getElem? (i := 35) rfl), rfl⟩
theorem pX10_then_70 : At cX10_then 70 (.iconst 1) 1 71 := ⟨tX10_then_0_ok (70, .iconst 1, 1) (List.mem_of_getElem? (i := 36) rfl), rfl⟩
theorem pX10_then_71 : At cX10_then 71 (.iaload) 1 72 := ⟨tX10_then_0_ok (71, .iaload, 1) (List.mem_of_getElem? (i := 37) rfl), rfl⟩
theorem pX10_then_72 : Bt cX10_then 72 (.goto 11) 11 83 75 := ⟨tX10_then_0_ok (72, .goto 11, 3) (List.mem_of_getElem? (i := 38) rfl), by decide, rfl⟩
theorem pX10_then_75 : At cX10_then 75 (.aload_n 0) 1 76 := ⟨tX10_then_0_ok (75, .aload_n 0, 1) (List.mem_of_getElem? (i := 39) rfl), rfl⟩
theorem pX10_then_76 : At cX10_then 76 (.iload_n 2) 1 77 := ⟨tX10_then_0_ok (76, .iload_n 2, 1) (List.mem_of_getElem? (i := 40) rfl), rfl⟩
theorem pX10_then_77 : At cX10_then 77 (.iconst 2) 1 78 := ⟨tX10_then_0_ok (77, .iconst 2, 1) (List.mem_of_getElem? (i := 41) rfl), rfl⟩
theorem pX10_then_78 : At cX10_then 78 (.iload_n 3) 1 79 := ⟨tX10_then_0_ok (78, .iload_n 3, 1) (List.mem_of_getElem? (i := 42) rfl), rfl⟩
theorem pX10_then_79 : At cX10_then 79 (.iadd) 1 80 := ⟨tX10_then_0_ok (79, .iadd, 1) (List.mem_of_getElem? (i := 43) rfl), rfl⟩
theorem pX10_then_80 : At cX10_then 80 (.invokevirtual 61) 3 83 := ⟨tX10_then_0_ok (80, .invokevirtual 61, 3) (List.mem_of_getElem? (i := 44) rfl), rfl⟩
theorem pX10_then_83 : At cX10_then 83 (.istore 4) 2 85 := ⟨tX10_then_0_ok (83, .istore 4, 2) (List.mem_of_getElem? (i := 45) rfl), rfl⟩
theorem pX10_then_85 : At cX10_then 85 (.aload_n 0) 1 86 := ⟨tX10_then_0_ok (85, .aload_n 0, 1) (List.mem_of_getElem? (i := 46) rfl), rfl⟩
theorem pX10_then_86 : At cX10_then 86 (.invokevirtual 229) 3 89 := ⟨tX10_then_0_ok (86, .invokevirtual 229, 3) (List.mem_of_getElem? (i := 47) rfl), rfl⟩
theorem pX10_then_89 : At cX10_then 89 (.iload 4) 2 91 := ⟨tX10_then_0_ok (89, .iload 4, 2) (List.mem_of_getElem? (i := 48) rfl), rfl⟩
theorem pX10_then_91 : At cX10_then 91 (.ireturn) 1 92 := ⟨tX10_then_0_ok (91, .ireturn, 1) (List.mem_of_getElem? (i := 49) rfl), rfl⟩
def tX10_restOf_0 : List (Nat × Instr × Nat) := [(0, .aload_n 0, 1), (1, .iload_n 1, 1), (2, .iconst 2, 1), (3, .invokevirtual 61, 3), (6, .istore_n 2, 1), (7, .aload_n 0, 1), (8, .iload_n 1, 1), (9, .iconst 3, 1), (10, .invokevirtual 61, 3), (13, .istore_n 3, 1), (14, .iconst 0, 1), (15, .istore 4, 2), (17, .iload 4, 2), (19, .sipush 200, 3), (22, .if_icmp .gt 37, 3), (25, .aload_n 0, 1), (26, .iload_n 1, 1), (27, .invokevirtual 103, 3), (30, .ifCond .ne 29, 3), (33, .aload_n 0, 1), (34, .iload_n 1, 1), (35, .iconst 2, 1), (36, .aload_n 0, 1), (37, .getfield 195, 3), (40, .invokevirtual 83, 3), (43, .aload_n 0, 1), (44, .iload_n 1, 1), (45, .iconst 3, 1), (46, .aload_n 0, 1), (47, .getfield 198, 3), (50, .invokevirtual 83, 3), (53, .iinc 4 1, 3), (56, .goto (-39), 3), (59, .aload_n 0, 1), (60, .aload_n 0, 1), (61, .iload_n 1, 1), (62, .iconst 2, 1), (63, .invokevirtual 61, 3), (66, .putfield 232, 3), (69, .aload_n 0, 1), (70, .iload_n 1, 1), (71, .iconst 2, 1), (72, .iload_n 2, 1), (73, .invokevirtual 83, 3), (76, .aload_n 0, 1), (77, .iload_n 1, 1), (78, .iconst 3, 1), (79, .iload_n 3, 1), (80, .invokevirtual 83, 3), (83, .iload 4, 2), (85, .sipush 200, 3), (88, .if_icmp .gt 8, 3), (91, .iload 4, 2), (93, .goto 4, 3), (96, .iconst (-1), 1), (97, .ireturn, 1)]
theorem tX10_restOf_0_ok : ∀ q ∈ tX10_restOf_0, decode cX10_restOf q.1 = .ok (q.2.1, q.2.2) := by decide +kernel
theorem pX10_restOf_0 : At cX10_restOf 0 (.aload_n 0) 1 1 := ⟨tX10_restOf_0_ok (0, .aload_n 0, 1) (List.mem_of_getElem? (i := 0) rfl), rfl⟩
theorem pX10_restOf_1 : At cX10_restOf 1 (.iload_n 1) 1 2 := ⟨tX10_restOf_0_ok (1, .iload_n 1, 1) (List.mem_of_getElem? (i := 1) rfl), rfl⟩
theorem pX10_restOf_2 : At cX10_restOf 2 (.iconst 2) 1 3 := ⟨tX10_restOf_0_ok (2, .iconst 2, 1) (List.mem_of_getElem? (i := 2) rfl), rfl⟩
theorem pX10_restOf_3 : At cX10_restOf 3 (.invokevirtual 61) 3 6 := ⟨tX10_restOf_0_ok (3, .invokevirtual 61, 3) (List.mem_of_getElem? (i := 3) rfl), rfl⟩
theorem pX10_restOf_6 : At cX10_restOf 6 (.istore_n 2) 1 7 := ⟨tX10_restOf_0_ok (6, .istore_n 2, 1) (List.mem_of_getElem? (i := 4) rfl), rfl⟩
theorem pX10_restOf_7 : At cX10_restOf 7 (.aload_n 0) 1 8 := ⟨tX10_restOf_0_ok (7, .aload_n 0, 1) (List.mem_of_getElem? (i := 5) rfl), rfl⟩
theorem pX10_restOf_8 : At cX10_restOf 8 (.iload_n 1) 1 9 := ⟨tX10_restOf_0_ok (8, .iload_n 1, 1) (List.mem_of_getElem? (i := 6) rfl), rfl⟩
theorem pX10_restOf_9 : At cX10_restOf 9 (.iconst 3) 1 10 := ⟨tX10_restOf_0_ok (9, .iconst 3, 1) (List.mem_of_getElem? (i := 7) rfl), rfl⟩
theorem pX10_restOf_10 : At cX10_restOf 10 (.invokevirtual 61) 3 13 := ⟨tX10_restOf_0_ok (10, .invokevirtual 61, 3) (List.mem_of_getElem? (i := 8) rfl), rfl⟩
theorem pX10_restOf_13 : At cX10_restOf 13 (.istore_n 3) 1 14 := ⟨tX10_restOf_0_ok (13, .istore_n 3, 1) (List.mem_of_getElem? (i := 9) rfl), rfl⟩
theorem pX10_restOf_14 : At cX10_restOf 14 (.iconst 0) 1 15 := ⟨tX10_restOf_0_ok (14, .iconst 0, 1) (List.mem_of_getElem? (i := 10) rfl), rfl⟩
theorem pX10_restOf_15 : At cX10_restOf 15 (.istore 4) 2 17 := ⟨tX10_restOf_0_ok (15, .istore 4, 2) (List.mem_of_getElem? (i := 11) rfl), rfl⟩
theorem pX10_restOf_17 : At cX10_restOf 17 (.iload 4) 2 19 := ⟨tX10_restOf_0_ok (17, .iload 4, 2) (List.mem_of_getElem? (i := 12) rfl), rfl⟩
theorem pX10_restOf_19 : At cX10_restOf 19 (.sipush 200) 3 22 := ⟨tX10_restOf_0_ok (19, .sipush 200, 3) (List.mem_of_getElem? (i := 13) rfl), rfl⟩
theorem pX10_restOf_22 : Bt cX10_restOf 22 (.if_icmp .gt 37) 37 59 25 := ⟨tX10_restOf_0_ok (22, .if_icmp .gt 37, 3) (List.mem_of_getElem? (i := 14) rfl), by decide, rfl⟩
theorem pX10_restOf_25 : At cX10_restOf 25 (.aload_n 0) 1 26 := ⟨tX10_restOf_0_ok (25, .aload_n 0, 1) (List.mem_of_getElem? (i := 15) rfl), rfl⟩
theorem pX10_restOf_26 : At cX10_restOf 26 (.iload_n 1) 1 27 := ⟨tX10_restOf_0_ok (26, .iload_n 1, 1) (List.mem_of_getElem? (i := 16) rfl), rfl⟩
theorem pX10_restOf_27 : At cX10_restOf 27 (.invokevirtual 103) 3 30 := ⟨tX10_restOf_0_ok (27, .invokevirtual 103, 3) (List.mem_of_getElem? (i := 17) rfl), rfl⟩
theorem pX10_restOf_30 : Bt cX10_restOf 30 (.ifCond .ne 29) 29 59 33 := ⟨tX10_restOf_0_ok (30, .ifCond .ne 29, 3) (List.mem_of_getElem? (i := 18) rfl), by decide, rfl⟩
theorem pX10_restOf_33 : At cX10_restOf 33 (.aload_n 0) 1 34 := ⟨tX10_restOf_0_ok (33, .aload_n 0, 1) (List.mem_of_getElem? (i := 19) rfl), rfl⟩
theorem pX10_restOf_34 : At cX10_restOf 34 (.iload_n 1) 1 35 := ⟨tX10_restOf_0_ok (34, .iload_n 1, 1) (List.mem_of_getElem? (i := 20) rfl), rfl⟩
theorem pX10_restOf_35 : At cX10_restOf 35 (.iconst 2) 1 36 := ⟨tX10_restOf_0_ok (35, .iconst 2, 1) (List.mem_of_getElem? (i := 21) rfl), rfl⟩
theorem pX10_restOf_36 : At cX10_restOf 36 (.aload_n 0) 1 37 := ⟨tX10_restOf_0_ok (36, .aload_n 0, 1) (List.mem_of_getElem? (i := 22) rfl), rfl⟩
theorem pX10_restOf_37 : At cX10_restOf 37 (.getfield 195) 3 40 := ⟨tX10_restOf_0_ok (37, .getfield 195, 3) (List.mem_of_getElem? (i := 23) rfl), rfl⟩
theorem pX10_restOf_40 : At cX10_restOf 40 (.invokevirtual 83) 3 43 := ⟨tX10_restOf_0_ok (40, .invokevirtual 83, 3) (List.mem_of_getElem? (i := 24) rfl), rfl⟩
theorem pX10_restOf_43 : At cX10_restOf 43 (.aload_n 0) 1 44 := ⟨tX10_restOf_0_ok (43, .aload_n 0, 1) (List.mem_of_getElem? (i := 25) rfl), rfl⟩
theorem pX10_restOf_44 : At cX10_restOf 44 (.iload_n 1) 1 45 := ⟨tX10_restOf_0_ok (44, .iload_n 1, 1) (List.mem_of_getElem? (i := 26) rfl), rfl⟩
theorem pX10_restOf_45 : At cX10_restOf 45 (.iconst 3) 1 46 := ⟨tX10_restOf_0_ok (45, .iconst 3, 1) (List.mem_of_getElem? (i := 27) rfl), rfl⟩
theorem pX10_restOf_46 : At cX10_restOf 46 (.aload_n 0) 1 47 := ⟨tX10_restOf_0_ok (46, .aload_n 0, 1) (List.mem_of_getElem? (i := 28) rfl), rfl⟩
theorem pX10_restOf_47 : At cX10_restOf 47 (.getfield 198) 3 50 := ⟨tX10_restOf_0_ok (47, .getfield 198, 3) (List.mem_of_getElem? (i := 29) rfl), rfl⟩
theorem pX10_restOf_50 : At cX10_restOf 50 (.invokevirtual 83) 3 53 := ⟨tX10_restOf_0_ok (50, .invokevirtual 83, 3) (List.mem_of_getElem? (i := 30) rfl), rfl⟩
theorem pX10_restOf_53 : At cX10_restOf 53 (.iinc 4 1) 3 56 := ⟨tX10_restOf_0_ok (53, .iinc 4 1, 3) (List.mem_of_getElem? (i := 31) rfl), rfl⟩
theorem pX10_restOf_56 : Bt cX10_restOf 56 (.goto (-39)) (-39) 17 59 := ⟨tX10_restOf_0_ok (56, .goto (-39), 3) (List.mem_of_getElem? (i := 32) rfl), by decide, rfl⟩
theorem pX10_restOf_59 : At cX10_restOf 59 (.aload_n 0) 1 60 := ⟨tX10_restOf_0_ok (59, .aload_n 0, 1) (List.mem_of_getElem? (i := 33) rfl), rfl⟩
theorem pX10_restOf_60 : At cX10_restOf 60 (.aload_n 0) 1 61 := ⟨tX10_restOf_0_ok (60, .aload_n 0, 1) (List.mem_of_getElem? (i := 34) rfl), rfl⟩
theorem pX10_restOf_61 : At cX10_restOf 61 (.iload_n 1) 1 62 := ⟨tX10_restOf_0_ok (61, .iload_n 1, 1) (List.mem_of_getElem? (i := 35) rfl), rfl⟩
theorem pX10_restOf_62 : At cX10_restOf 62 (.iconst 2) 1 63 := ⟨tX10_restOf_0_ok (62, .iconst 2, 1) (List.mem_of_getElem? (i := 36) rfl), rfl⟩
theorem pX10_restOf_63 : At cX10_restOf 63 (.invokevirtual 61) 3 66 := ⟨tX10_restOf_0_ok (63, .invokevirtual 61, 3) (List.mem_of_getElem? (i := 37) rfl), rfl⟩
theorem pX10_restOf_66 : At cX10_restOf 66 (.putfield 232) 3 69 := ⟨tX10_restOf_0_ok (66, .putfield 232, 3) (List.mem_of_getElem? (i := 38) rfl), rfl⟩
theorem pX10_restOf_69 : At cX10_restOf 69 (.aload_n 0) 1 70 := ⟨tX10_restOf_0_ok (69, .aload_n 0, 1) (List.mem_of_getElem? (i := 39) rfl), rfl⟩
theorem pX10_restOf_70 : At cX10_restOf 70 (.iload_n 1) 1 71 := ⟨tX10_restOf_0_ok (70, .iload_n 1, 1) (List.mem_of_getElem? (i := 40) rfl), rfl⟩
theorem pX10_restOf_71 : At cX10_restOf 71 (.iconst 2) 1 72 := ⟨tX10_restOf_0_ok (71, .iconst 2, 1) (List.mem_of_getElem? (i := 41) rfl), rfl⟩
theorem pX10_restOf_72 : At cX10_restOf 72 (.iload_n 2) 1 73 := ⟨tX10_restOf_0_ok (72, .iload_n 2, 1) (List.mem_of_getElem? (i := 42) rfl), rfl⟩
theorem pX10_restOf_73 : At cX10_restOf 73 (.invokevirtual 83) 3 76 := ⟨tX10_restOf_0_ok (73, .invokevirtual 83, 3) (List.mem_of_getElem? (i := 43) rfl), rfl⟩
theorem pX10_restOf_76 : At cX10_restOf 76 (.aload_n 0) 1 77 := ⟨tX10_restOf_0_ok (76, .aload_n 0, 1) (List.mem_of_getElem? (i := 44) rfl), rfl⟩
theorem pX10_restOf_77 : At cX10_restOf 77 (.iload_n 1) 1 78 := ⟨tX10_restOf_0_ok (77, .iload_n 1, 1) (List.mem_of_getElem? (i := 45) rfl), rfl⟩
theorem pX10_restOf_78 : At cX10_restOf 78 (.iconst 3) 1 79 := ⟨tX10_restOf_0_ok (78, .iconst 3, 1) (List.mem_of_getElem? (i := 46) rfl), rfl⟩
theorem pX10_restOf_79 : At cX10_restOf 79 (.iload_n 3) 1 80 := ⟨tX10_restOf_0_ok (79, .iload_n 3, 1) (List.mem_of_getElem? (i := 47) rfl), rfl⟩
theorem pX10_restOf_80 : At cX10_restOf 80 (.invokevirtual 83) 3 83 := ⟨tX10_restOf_0_ok (80, .invokevirtual 83, 3) (List.mem_of_getElem? (i := 48) rfl), rfl⟩
theorem pX10_restOf_83 : At cX10_restOf 83 (.iload 4) 2 85 := ⟨tX10_restOf_0_ok (83, .iload 4, 2) (List.mem_of_getElem? (i := 49) rfl), rfl⟩
theorem pX10_restOf_85 : At cX10_restOf 85 (.sipush 200) 3 88 := ⟨tX10_restOf_0_ok (85, .sipush 200, 3) (List.mem_of_getElem? (i := 50) rfl), rfl⟩
theorem pX10_restOf_88 : Bt cX10_restOf 88 (.if_icmp .gt 8) 8 96 91 := ⟨tX10_restOf_0_ok (88, .if_icmp .gt 8, 3) (List.mem_of_getElem? (i := 51) rfl), by decide, rfl⟩
theorem pX10_restOf_91 : At cX10_restOf 91 (.iload 4) 2 93 := ⟨tX10_restOf_0_ok (91, .iload 4, 2) (List.mem_of_getElem? (i := 52) rfl), rfl⟩
theorem pX10_restOf_93 : Bt cX10_restOf 93 (.goto 4) 4 97 96 := ⟨tX10_restOf_0_ok (93, .goto 4, 3) (List.mem_of_getElem? (i := 53) rfl), by decide, rfl⟩
theorem pX10_restOf_96 : At cX10_restOf 96 (.iconst (-1)) 1 97 := ⟨tX10_restOf_0_ok (96, .iconst (-1), 1) (List.mem_of_getElem? (i := 54) rfl), rfl⟩
theorem pX10_restOf_97 : At cX10_restOf 97 (.ireturn) 1 98 := ⟨tX10_restOf_0_ok (97, .ireturn, 1) (List.mem_of_getElem? (i := 55) rfl), rfl⟩
def tX10_rests_0 : List (Nat × Instr × Nat) := [(0, .aload_n 0, 1), (1, .iload_n 1, 1), (2, .invokevirtual 87, 3), (5, .ifCond .eq 13, 3), (8, .iload_n 2, 1), (9, .i2l, 1), (10, .lconst 0, 1), (11, .lconst 1, 1), (12, .invokestatic 53, 3), (15, .ifCond .ne 9, 3), (18, .aload_n 0, 1), (19, .iconst 1, 1), (20, .invokevirtual 79, 3), (23, .ireturn, 1), (24, .aload_n 0, 1), (25, .iload_n 1, 1), (26, .invokevirtual 235, 3), (29, .istore_n 3, 1), (30, .iload_n 3, 1), (31, .ifCond .ge 11, 3), (34, .aload_n 0, 1), (35, .iconst 2, 1), (36, .invokevirtual 79, 3), (39, .goto 15, 3), (42, .iload_n 2, 1), (43, .ifCond .ne 7, 3), (46, .iload_n 3, 1), (47, .goto 7, 3), (50, .aload_n 0, 1), (51, .getfield 232, 3), (54, .ireturn, 1)]
theorem tX10_rests_0_ok : ∀ q ∈ tX10_rests_0, decode cX10_rests q.1 = .ok (q.2.1, q.2.2) := by decide +kernel
theorem pX10_rests_0 : At cX10_rests 0 (.aload_n 0) 1 1 := ⟨tX10_rests_0_ok (0, .aload_n 0, 1) (List.mem_of_getElem? (i := 0) rfl), rfl⟩
theorem pX10_rests_1 : At cX10_rests 1 (.iload_n 1) 1 2 := ⟨tX10_rests_0_ok (1, .iload_n 1, 1) (List.mem_of_getElem? (i := 1) rfl), rfl⟩
theorem pX10_rests_2 : At cX10_rests 2 (.invokevirtual 87) 3 5 := ⟨tX10_rests_0_ok (2, .invokevirtual 87, 3) (List.mem_of_getElem? (i := 2) rfl), rfl⟩
theorem pX10_rests_5 : Bt cX10_rests 5 (.ifCond .eq 13) 13 18 8 := ⟨tX10_rests_0_ok (5, .ifCond .eq 13, 3) (List.mem_of_getElem? (i := 3) rfl), by decide, rfl⟩
theorem pX10_rests_8 : At cX10_rests 8 (.iload_n 2) 1 9 := ⟨tX10_rests_0_ok (8, .iload_n 2, 1) (List.mem_of_getElem? (i := 4) rfl), rfl⟩
theorem pX10_rests_9 : At cX10_rests 9 (.i2l) 1 10 := ⟨tX10_rests_0_ok (9, .i2l, 1) (List.mem_of_getElem? (i := 5) rfl), rfl⟩
theorem pX10_rests_10 : At cX10_rests 10 (.lconst 0) 1 11 := ⟨tX10_rests_0_ok (10, .lconst 0, 1) (List.mem_of_getElem? (i := 6) rfl), rfl⟩
theorem pX10_rests_11 : At cX10_rests 11 (.lconst 1) 1 12 := ⟨tX10_rests_0_ok (11, .lconst 1, 1) (List.mem_of_getElem? (i := 7) rfl), rfl⟩
theorem pX10_rests_12 : At cX10_rests 12 (.invokestatic 53) 3 15 := ⟨tX10_rests_0_ok (12, .invokestatic 53, 3) (List.mem_of_getElem? (i := 8) rfl), rfl⟩
theorem pX10_rests_15 : Bt cX10_rests 15 (.ifCond .ne 9) 9 24 18 := ⟨tX10_rests_0_ok (15, .ifCond .ne 9, 3) (List.mem_of_getElem? (i := 9) rfl), by decide, rfl⟩
theorem pX10_rests_18 : At cX10_rests 18 (.aload_n 0) 1 19 := ⟨tX10_rests_0_ok (18, .aload_n 0, 1) (List.mem_of_getElem? (i := 10) rfl), rfl⟩
theorem pX10_rests_19 : At cX10_rests 19 (.iconst 1) 1 20 := ⟨tX10_rests_0_ok (19, .iconst 1, 1) (List.mem_of_getElem? (i := 11) rfl), rfl⟩
theorem pX10_rests_20 : At cX10_rests 20 (.invokevirtual 79) 3 23 := ⟨tX10_rests_0_ok (20, .invokevirtual 79, 3) (List.mem_of_getElem? (i := 12) rfl), rfl⟩
theorem pX10_rests_23 : At cX10_rests 23 (.ireturn) 1 24 := ⟨tX10_rests_0_ok (23, .ireturn, 1) (List.mem_of_getElem? (i := 13) rfl), rfl⟩
theorem pX10_rests_24 : At cX10_rests 24 (.aload_n 0) 1 25 := ⟨tX10_rests_0_ok (24, .aload_n 0, 1) (List.mem_of_getElem? (i := 14) rfl), rfl⟩
theorem pX10_rests_25 : At cX10_rests 25 (.iload_n 1) 1 26 := ⟨tX10_rests_0_ok (25, .iload_n 1, 1) (List.mem_of_getElem? (i := 15) rfl), rfl⟩
theorem pX10_rests_26 : At cX10_rests 26 (.invokevirtual 235) 3 29 := ⟨tX10_rests_0_ok (26, .invokevirtual 235, 3) (List.mem_of_getElem? (i := 16) rfl), rfl⟩
theorem pX10_rests_29 : At cX10_rests 29 (.istore_n 3) 1 30 := ⟨tX10_rests_0_ok (29, .istore_n 3, 1) (List.mem_of_getElem? (i := 17) rfl), rfl⟩
theorem pX10_rests_30 : At cX10_rests 30 (.iload_n 3) 1 31 := ⟨tX10_rests_0_ok (30, .iload_n 3, 1) (List.mem_of_getElem? (i := 18) rfl), rfl⟩
theorem pX10_rests_31 : Bt cX10_rests 31 (.ifCond .ge 11) 11 42 34 := ⟨tX10_rests_0_ok (31, .ifCond .ge 11, 3) (List.mem_of_getElem? (i := 19) rfl), by decide, rfl⟩
theorem pX10_rests_34 : At cX10_rests 34 (.aload_n 0) 1 35 := ⟨tX10_rests_0_ok (34, .aload_n 0, 1) (List.mem_of_getElem? (i := 20) rfl), rfl⟩
theorem pX10_rests_35 : At cX10_rests 35 (.iconst 2) 1 36 := ⟨tX10_rests_0_ok (35, .iconst 2, 1) (List.mem_of_getElem? (i := 21) rfl), rfl⟩
theorem pX10_rests_36 : At cX10_rests 36 (.invokevirtual 79) 3 39 := ⟨tX10_rests_0_ok (36, .invokevirtual 79, 3) (List.mem_of_getElem? (i := 22) rfl), rfl⟩
theorem pX10_rests_39 : Bt cX10_rests 39 (.goto 15) 15 54 42 := ⟨tX10_rests_0_ok (39, .goto 15, 3) (List.mem_of_getElem? (i := 23) rfl), by decide, rfl⟩
theorem pX10_rests_42 : At cX10_rests 42 (.iload_n 2) 1 43 := ⟨tX10_rests_0_ok (42, .iload_n 2, 1) (List.mem_of_getElem? (i := 24) rfl), rfl⟩
theorem pX10_rests_43 : Bt cX10_rests 43 (.ifCond .ne 7) 7 50 46 := ⟨tX10_rests_0_ok (43, .ifCond .ne 7, 3) (List.mem_of_getElem? (i := 25) rfl), by decide, rfl⟩
theorem pX10_rests_46 : At cX10_rests 46 (.iload_n 3) 1 47 := ⟨tX10_rests_0_ok (46, .iload_n 3, 1) (List.mem_of_getElem? (i := 26) rfl), rfl⟩
theorem pX10_rests_47 : Bt cX10_rests 47 (.goto 7) 7 54 50 := ⟨tX10_rests_0_ok (47, .goto 7, 3) (List.mem_of_getElem? (i := 27) rfl), by decide, rfl⟩
theorem pX10_rests_50 : At cX10_rests 50 (.aload_n 0) 1 51 := ⟨tX10_rests_0_ok (50, .aload_n 0, 1) (List.mem_of_getElem? (i := 28) rfl), rfl⟩
theorem pX10_rests_51 : At cX10_rests 51 (.getfield 232) 3 54 := ⟨tX10_rests_0_ok (51, .getfield 232, 3) (List.mem_of_getElem? (i := 29) rfl), rfl⟩
theorem pX10_rests_54 : At cX10_rests 54 (.ireturn) 1 55 := ⟨tX10_rests_0_ok (54, .ireturn, 1) (List.mem_of_getElem? (i := 30) rfl), rfl⟩
def tX10_first_0 : List (Nat × Instr × Nat) := [(0, .iconst (-1), 1), (1, .istore_n 1, 1), (2, .iconst 0, 1), (3, .istore_n 2, 1), (4, .iconst 0, 1), (5, .istore_n 3, 1), (6, .iload_n 3, 1), (7, .aload_n 0, 1), (8, .getfield 9, 3), (11, .bipush 6, 2), (13, .iaload, 1), (14, .if_icmp .ge 53, 3), (17, .aload_n 0, 1), (18, .iload_n 3, 1), (19, .invokevirtual 235, 3), (22, .istore 4, 2), (24, .iload 4, 2), (26, .ifCond .lt 35, 3), (29, .aload_n 0, 1), (30, .getfield 232, 3), (33, .i2l, 1), (34, .ldc2_w 238, 3), (37, .ldc2_w 124, 3), (40, .invokestatic 53, 3), (43, .ifCond .eq 18, 3), (46, .iload_n 1, 1), (47, .ifCond .lt 9, 3), (50, .iload 4, 2), (52, .iload_n 2, 1), (53, .if_icmp .ge 8, 3), (56, .iload_n 3, 1), (57, .istore_n 1, 1), (58, .iload 4, 2), (60, .istore_n 2, 1), (61, .iinc 3 1, 3), (64, .goto (-58), 3), (67, .iload_n 1, 1), (68, .ifCond .ge 11, 3), (71, .aload_n 0, 1), (72, .iconst 2, 1), (73, .invokevirtual 79, 3), (76, .goto 4, 3), (79, .iload_n 1, 1), (80, .ireturn, 1)]
theorem tX10_first_0_ok : ∀ q ∈ tX10_first_0, decode cX10_first q.1 = .ok (q.2.1, q.2.2) := by decide +kernel
theorem pX10_first_0 : At cX10_first 0 (.iconst (-1)) 1 1 := ⟨tX10_first_0_ok (0, .iconst (-1), 1) (List.mem_of_getElem? (i := 0) rfl), rfl⟩
theorem pX10_first_1 : At cX10_first 1 (.istore_n 1) 1 2 := ⟨tX10_first_0_ok (1, .istore_n 1, 1) (List.mem_of_getElem? (i := 1) rfl), rfl⟩
theorem pX10_first_2 : At cX10_first 2 (.iconst 0) 1 3 := ⟨tX10_first_0_ok (2, .iconst 0, 1) (List.mem_of_getElem? (i := 2) rfl), rfl⟩
theorem pX10_first_3 : At cX10_first 3 (.istore_n 2) 1 4 := ⟨tX10_first_0_ok (3, .istore_n 2, 1) (List.mem_of_getElem? (i := 3) rfl), rfl⟩
theorem pX10_first_4 : At cX10_first 4 (.iconst 0) 1 5 := ⟨tX10_first_0_ok (4, .iconst 0, 1) (List.mem_of_getElem? (i := 4) rfl), rfl⟩
theorem pX10_first_5 : At cX10_first 5 (.istore_n 3) 1 6 := ⟨tX10_first_0_ok (5, .istore_n 3, 1) (List.mem_of_getElem? (i := 5) rfl), rfl⟩
theorem pX10_first_6 : At cX10_first 6 (.iload_n 3) 1 7 := ⟨tX10_first_0_ok (6, .iload_n 3, 1) (List.mem_of_getElem? (i := 6) rfl), rfl⟩
theorem pX10_first_7 : At cX10_first 7 (.aload_n 0) 1 8 := ⟨tX10_first_0_ok (7, .aload_n 0, 1) (List.mem_of_getElem? (i := 7) rfl), rfl⟩
theorem pX10_first_8 : At cX10_first 8 (.getfield 9) 3 11 := ⟨tX10_first_0_ok (8, .getfield 9, 3) (List.mem_of_getElem? (i := 8) rfl), rfl⟩
theorem pX10_first_11 : At cX10_first 11 (.bipush 6) 2 13 := ⟨tX10_first_0_ok (11, .bipush 6, 2) (List.mem_of_getElem? (i := 9) rfl), rfl⟩
theorem pX10_first_13 : At cX10_first 13 (.iaload) 1 14 := ⟨tX10_first_0_ok (13, .iaload, 1) (List.mem_of_getElem? (i := 10) rfl), rfl⟩
theorem pX10_first_14 : Bt cX10_first 14 (.if_icmp .ge 53) 53 67 17 := ⟨tX10_first_0_ok (14, .if_icmp .ge 53, 3) (List.mem_of_getElem? (i := 11) rfl), by decide, rfl⟩
theorem pX10_first_17 : At cX10_first 17 (.aload_n 0) 1 18 := ⟨tX10_first_0_ok (17, .aload_n 0, 1) (List.mem_of_getElem? (i := 12) rfl), rfl⟩
theorem pX10_first_18 : At cX10_first 18 (.iload_n 3) 1 19 := ⟨tX10_first_0_ok (18, .iload_n 3, 1) (List.mem_of_getElem? (i := 13) rfl), rfl⟩
theorem pX10_first_19 : At cX10_first 19 (.invokevirtual 235) 3 22 := ⟨tX10_first_0_ok (19, .invokevirtual 235, 3) (List.mem_of_getElem? (i := 14) rfl), rfl⟩
theorem pX10_first_22 : At cX10_first 22 (.istore 4) 2 24 := ⟨tX10_first_0_ok (22, .istore 4, 2) (List.mem_of_getElem? (i := 15) rfl), rfl⟩
theorem pX10_first_24 : At cX10_first 24 (.iload 4) 2 26 := ⟨tX10_first_0_ok (24, .iload 4, 2) (List.mem_of_getElem? (i := 16) rfl), rfl⟩
theorem pX10_first_26 : Bt cX10_first 26 (.ifCond .lt 35) 35 61 29 := ⟨tX10_first_0_ok (26, .ifCond .lt 35, 3) (List.mem_of_getElem? (i := 17) rfl), by decide, rfl⟩
theorem pX10_first_29 : At cX10_first 29 (.aload_n 0) 1 30 := ⟨tX10_first_0_ok (29, .aload_n 0, 1) (List.mem_of_getElem? (i := 18) rfl), rfl⟩
theorem pX10_first_30 : At cX10_first 30 (.getfield 232) 3 33 := ⟨tX10_first_0_ok (30, .getfield 232, 3) (List.mem_of_getElem? (i := 19) rfl), rfl⟩
theorem pX10_first_33 : At cX10_first 33 (.i2l) 1 34 := ⟨tX10_first_0_ok (33, .i2l, 1) (List.mem_of_getElem? (i := 20) rfl), rfl⟩
theorem pX10_first_34 : At cX10_first 34 (.ldc2_w 238) 3 37 := ⟨tX10_first_0_ok (34, .ldc2_w 238, 3) (List.mem_of_getElem? (i := 21) rfl), rfl⟩
theorem pX10_first_37 : At cX10_first 37 (.ldc2_w 124) 3 40 := ⟨tX10_first_0_ok (37, .ldc2_w 124, 3) (List.mem_of_getElem? (i := 22) rfl), rfl⟩
theorem pX10_first_40 : At cX10_first 40 (.invokestatic 53) 3 43 := ⟨tX10_first_0_ok (40, .invokestatic 53, 3) (List.mem_of_getElem? (i := 23) rfl), rfl⟩
theorem pX10_first_43 : Bt cX10_first 43 (.ifCond .eq 18) 18 61 46 := ⟨tX10_first_0_ok (43, .ifCond .eq 18, 3) (List.mem_of_getElem? (i := 24) rfl), by decide, rfl⟩
theorem pX10_first_46 : At cX10_first 46 (.iload_n 1) 1 47 := ⟨tX10_first_0_ok (46, .iload_n 1, 1) (List.mem_of_getElem? (i := 25) rfl), rfl⟩
theorem pX10_first_47 : Bt cX10_first 47 (.ifCond .lt 9) 9 56 50 := ⟨tX10_first_0_ok (47, .ifCond .lt 9, 3) (List.mem_of_getElem? (i := 26) rfl), by decide, rfl⟩
theorem pX10_first_50 : At cX10_first 50 (.iload 4) 2 52 := ⟨tX10_first_0_ok (50, .iload 4, 2) (List.mem_of_getElem? (i := 27) rfl), rfl⟩
theorem pX10_first_52 : At cX10_first 52 (.iload_n 2) 1 53 := ⟨tX10_first_0_ok (52, .iload_n 2, 1) (List.mem_of_getElem? (i := 28) rfl), rfl⟩
theorem pX10_first_53 : Bt cX10_first 53 (.if_icmp .ge 8) 8 61 56 := ⟨tX10_first_0_ok (53, .if_icmp .ge 8, 3) (List.mem_of_getElem? (i := 29) rfl), by decide, rfl⟩
theorem pX10_first_56 : At cX10_first 56 (.iload_n 3) 1 57 := ⟨tX10_first_0_ok (56, .iload_n 3, 1) (List.mem_of_getElem? (i := 30) rfl), rfl⟩
theorem pX10_first_57 : At cX10_first 57 (.istore_n 1) 1 58 := ⟨tX10_first_0_ok (57, .istore_n 1, 1) (List.mem_of_getElem? (i := 31) rfl), rfl⟩
theorem pX10_first_58 : At cX10_first 58 (.iload 4) 2 60 := ⟨tX10_first_0_ok (58, .iload 4, 2) (List.mem_of_getElem? (i := 32) rfl), rfl⟩
theorem pX10_first_60 : At cX10_first 60 (.istore_n 2) 1 61 := ⟨tX10_first_0_ok (60, .istore_n 2, 1) (List.mem_of_getElem? (i := 33) rfl), rfl⟩
theorem pX10_first_61 : At cX10_first 61 (.iinc 3 1) 3 64 := ⟨tX10_first_0_ok (61, .iinc 3 1, 3) (List.mem_of_getElem? (i := 34) rfl), rfl⟩
theorem pX10_first_64 : Bt cX10_first 64 (.goto (-58)) (-58) 6 67 := ⟨tX10_first_0_ok (64, .goto (-58), 3) (List.mem_of_getElem? (i := 35) rfl), by decide, rfl⟩
theorem pX10_first_67 : At cX10_first 67 (.iload_n 1) 1 68 := ⟨tX10_first_0_ok (67, .iload_n 1, 1) (List.mem_of_getElem? (i := 36) rfl), rfl⟩
theorem pX10_first_68 : Bt cX10_first 68 (.ifCond .ge 11) 11 79 71 := ⟨tX10_first_0_ok (68, .ifCond .ge 11, 3) (List.mem_of_getElem? (i := 37) rfl), by decide, rfl⟩
theorem pX10_first_71 : At cX10_first 71 (.aload_n 0) 1 72 := ⟨tX10_first_0_ok (71, .aload_n 0, 1) (List.mem_of_getElem? (i := 38) rfl), rfl⟩
theorem pX10_first_72 : At cX10_first 72 (.iconst 2) 1 73 := ⟨tX10_first_0_ok (72, .iconst 2, 1) (List.mem_of_getElem? (i := 39) rfl), rfl⟩
theorem pX10_first_73 : At cX10_first 73 (.invokevirtual 79) 3 76 := ⟨tX10_first_0_ok (73, .invokevirtual 79, 3) (List.mem_of_getElem? (i := 40) rfl), rfl⟩
theorem pX10_first_76 : Bt cX10_first 76 (.goto 4) 4 80 79 := ⟨tX10_first_0_ok (76, .goto 4, 3) (List.mem_of_getElem? (i := 41) rfl), by decide, rfl⟩
theorem pX10_first_79 : At cX10_first 79 (.iload_n 1) 1 80 := ⟨tX10_first_0_ok (79, .iload_n 1, 1) (List.mem_of_getElem? (i := 42) rfl), rfl⟩
theorem pX10_first_80 : At cX10_first 80 (.ireturn) 1 81 := ⟨tX10_first_0_ok (80, .ireturn, 1) (List.mem_of_getElem? (i := 43) rfl), rfl⟩
def tX10_overBy_0 : List (Nat × Instr × Nat) := [(0, .aload_n 0, 1), (1, .iload_n 1, 1), (2, .iconst 2, 1), (3, .invokevirtual 61, 3), (6, .istore 4, 2), (8, .aload_n 0, 1), (9, .iload_n 1, 1), (10, .iconst 3, 1), (11, .invokevirtual 61, 3), (14, .istore 5, 2), (16, .aload_n 0, 1), (17, .iload_n 1, 1), (18, .iload_n 3, 1), (19, .invokevirtual 119, 3), (22, .pop, 1), (23, .iconst 0, 1), (24, .istore 6, 2), (26, .iload 6, 2), (28, .bipush 100, 2), (30, .if_icmp .gt 47, 3), (33, .aload_n 0, 1), (34, .iload_n 1, 1), (35, .iconst 2, 1), (36, .invokevirtual 61, 3), (39, .bipush 40, 2), (41, .iload_n 2, 1), (42, .imul, 1), (43, .if_icmp .eq 34, 3), (46, .aload_n 0, 1), (47, .iload_n 1, 1), (48, .invokevirtual 201, 3), (51, .aload_n 0, 1), (52, .iload_n 1, 1), (53, .iconst 2, 1), (54, .aload_n 0, 1), (55, .getfield 195, 3), (58, .invokevirtual 83, 3), (61, .aload_n 0, 1), (62, .iload_n 1, 1), (63, .iconst 3, 1), (64, .aload_n 0, 1), (65, .getfield 198, 3), (68, .invokevirtual 83, 3), (71, .iinc 6 1, 3), (74, .goto (-48), 3), (77, .aload_n 0, 1), (78, .iload_n 1, 1), (79, .iconst 2, 1), (80, .iload 4, 2), (82, .invokevirtual 83, 3), (85, .aload_n 0, 1), (86, .iload_n 1, 1), (87, .iconst 3, 1), (88, .iload 5, 2), (90, .invokevirtual 83, 3), (93, .iload 6, 2), (95, .bipush 100, 2), (97, .if_icmp .gt 8, 3), (100, .iload 6, 2), (102, .goto 4, 3), (105, .iconst (-1), 1), (106, .ireturn, 1)]
theorem tX10_overBy_0_ok : ∀ q ∈ tX10_overBy_0, decode cX10_overBy q.1 = .ok (q.2.1, q.2.2) := by decide +kernel
theorem pX10_overBy_0 : At cX10_overBy 0 (.aload_n 0) 1 1 := ⟨tX10_overBy_0_ok (0, .aload_n 0, 1) (List.mem_of_getElem? (i := 0) rfl), rfl⟩
theorem pX10_overBy_1 : At cX10_overBy 1 (.iload_n 1) 1 2 := ⟨tX10_overBy_0_ok (1, .iload_n 1, 1) (List.mem_of_getElem? (i := 1) rfl), rfl⟩
theorem pX10_overBy_2 : At cX10_overBy 2 (.iconst 2) 1 3 := ⟨tX10_overBy_0_ok (2, .iconst 2, 1) (List.mem_of_getElem? (i := 2) rfl), rfl⟩
theorem pX10_overBy_3 : At cX10_overBy 3 (.invokevirtual 61) 3 6 := ⟨tX10_overBy_0_ok (3, .invokevirtual 61, 3) (List.mem_of_getElem? (i := 3) rfl), rfl⟩
theorem pX10_overBy_6 : At cX10_overBy 6 (.istore 4) 2 8 := ⟨tX10_overBy_0_ok (6, .istore 4, 2) (List.mem_of_getElem? (i := 4) rfl), rfl⟩
theorem pX10_overBy_8 : At cX10_overBy 8 (.aload_n 0) 1 9 := ⟨tX10_overBy_0_ok (8, .aload_n 0, 1) (List.mem_of_getElem? (i := 5) rfl), rfl⟩
theorem pX10_overBy_9 : At cX10_overBy 9 (.iload_n 1) 1 10 := ⟨tX10_overBy_0_ok (9, .iload_n 1, 1) (List.mem_of_getElem? (i := 6) rfl), rfl⟩
theorem pX10_overBy_10 : At cX10_overBy 10 (.iconst 3) 1 11 := ⟨tX10_overBy_0_ok (10, .iconst 3, 1) (List.mem_of_getElem? (i := 7) rfl), rfl⟩
theorem pX10_overBy_11 : At cX10_overBy 11 (.invokevirtual 61) 3 14 := ⟨tX10_overBy_0_ok (11, .invokevirtual 61, 3) (List.mem_of_getElem? (i := 8) rfl), rfl⟩
theorem pX10_overBy_14 : At cX10_overBy 14 (.istore 5) 2 16 := ⟨tX10_overBy_0_ok (14, .istore 5, 2) (List.mem_of_getElem? (i := 9) rfl), rfl⟩
theorem pX10_overBy_16 : At cX10_overBy 16 (.aload_n 0) 1 17 := ⟨tX10_overBy_0_ok (16, .aload_n 0, 1) (List.mem_of_getElem? (i := 10) rfl), rfl⟩
theorem pX10_overBy_17 : At cX10_overBy 17 (.iload_n 1) 1 18 := ⟨tX10_overBy_0_ok (17, .iload_n 1, 1) (List.mem_of_getElem? (i := 11) rfl), rfl⟩
theorem pX10_overBy_18 : At cX10_overBy 18 (.iload_n 3) 1 19 := ⟨tX10_overBy_0_ok (18, .iload_n 3, 1) (List.mem_of_getElem? (i := 12) rfl), rfl⟩
theorem pX10_overBy_19 : At cX10_overBy 19 (.invokevirtual 119) 3 22 := ⟨tX10_overBy_0_ok (19, .invokevirtual 119, 3) (List.mem_of_getElem? (i := 13) rfl), rfl⟩
theorem pX10_overBy_22 : At cX10_overBy 22 (.pop) 1 23 := ⟨tX10_overBy_0_ok (22, .pop, 1) (List.mem_of_getElem? (i := 14) rfl), rfl⟩
theorem pX10_overBy_23 : At cX10_overBy 23 (.iconst 0) 1 24 := ⟨tX10_overBy_0_ok (23, .iconst 0, 1) (List.mem_of_getElem? (i := 15) rfl), rfl⟩
theorem pX10_overBy_24 : At cX10_overBy 24 (.istore 6) 2 26 := ⟨tX10_overBy_0_ok (24, .istore 6, 2) (List.mem_of_getElem? (i := 16) rfl), rfl⟩
theorem pX10_overBy_26 : At cX10_overBy 26 (.iload 6) 2 28 := ⟨tX10_overBy_0_ok (26, .iload 6, 2) (List.mem_of_getElem? (i := 17) rfl), rfl⟩
theorem pX10_overBy_28 : At cX10_overBy 28 (.bipush 100) 2 30 := ⟨tX10_overBy_0_ok (28, .bipush 100, 2) (List.mem_of_getElem? (i := 18) rfl), rfl⟩
theorem pX10_overBy_30 : Bt cX10_overBy 30 (.if_icmp .gt 47) 47 77 33 := ⟨tX10_overBy_0_ok (30, .if_icmp .gt 47, 3) (List.mem_of_getElem? (i := 19) rfl), by decide, rfl⟩
theorem pX10_overBy_33 : At cX10_overBy 33 (.aload_n 0) 1 34 := ⟨tX10_overBy_0_ok (33, .aload_n 0, 1) (List.mem_of_getElem? (i := 20) rfl), rfl⟩
theorem pX10_overBy_34 : At cX10_overBy 34 (.iload_n 1) 1 35 := ⟨tX10_overBy_0_ok (34, .iload_n 1, 1) (List.mem_of_getElem? (i := 21) rfl), rfl⟩
theorem pX10_overBy_35 : At cX10_overBy 35 (.iconst 2) 1 36 := ⟨tX10_overBy_0_ok (35, .iconst 2, 1) (List.mem_of_getElem? (i := 22) rfl), rfl⟩
theorem pX10_overBy_36 : At cX10_overBy 36 (.invokevirtual 61) 3 39 := ⟨tX10_overBy_0_ok (36, .invokevirtual 61, 3) (List.mem_of_getElem? (i := 23) rfl), rfl⟩
theorem pX10_overBy_39 : At cX10_overBy 39 (.bipush 40) 2 41 := ⟨tX10_overBy_0_ok (39, .bipush 40, 2) (List.mem_of_getElem? (i := 24) rfl), rfl⟩
theorem pX10_overBy_41 : At cX10_overBy 41 (.iload_n 2) 1 42 := ⟨tX10_overBy_0_ok (41, .iload_n 2, 1) (List.mem_of_getElem? (i := 25) rfl), rfl⟩
theorem pX10_overBy_42 : At cX10_overBy 42 (.imul) 1 43 := ⟨tX10_overBy_0_ok (42, .imul, 1) (List.mem_of_getElem? (i := 26) rfl), rfl⟩
theorem pX10_overBy_43 : Bt cX10_overBy 43 (.if_icmp .eq 34) 34 77 46 := ⟨tX10_overBy_0_ok (43, .if_icmp .eq 34, 3) (List.mem_of_getElem? (i := 27) rfl), by decide, rfl⟩
theorem pX10_overBy_46 : At cX10_overBy 46 (.aload_n 0) 1 47 := ⟨tX10_overBy_0_ok (46, .aload_n 0, 1) (List.mem_of_getElem? (i := 28) rfl), rfl⟩
theorem pX10_overBy_47 : At cX10_overBy 47 (.iload_n 1) 1 48 := ⟨tX10_overBy_0_ok (47, .iload_n 1, 1) (List.mem_of_getElem? (i := 29) rfl), rfl⟩
theorem pX10_overBy_48 : At cX10_overBy 48 (.invokevirtual 201) 3 51 := ⟨tX10_overBy_0_ok (48, .invokevirtual 201, 3) (List.mem_of_getElem? (i := 30) rfl), rfl⟩
theorem pX10_overBy_51 : At cX10_overBy 51 (.aload_n 0) 1 52 := ⟨tX10_overBy_0_ok (51, .aload_n 0, 1) (List.mem_of_getElem? (i := 31) rfl), rfl⟩
theorem pX10_overBy_52 : At cX10_overBy 52 (.iload_n 1) 1 53 := ⟨tX10_overBy_0_ok (52, .iload_n 1, 1) (List.mem_of_getElem? (i := 32) rfl), rfl⟩
theorem pX10_overBy_53 : At cX10_overBy 53 (.iconst 2) 1 54 := ⟨tX10_overBy_0_ok (53, .iconst 2, 1) (List.mem_of_getElem? (i := 33) rfl), rfl⟩
theorem pX10_overBy_54 : At cX10_overBy 54 (.aload_n 0) 1 55 := ⟨tX10_overBy_0_ok (54, .aload_n 0, 1) (List.mem_of_getElem? (i := 34) rfl), rfl⟩
theorem pX10_overBy_55 : At cX10_overBy 55 (.getfield 195) 3 58 := ⟨tX10_overBy_0_ok (55, .getfield 195, 3) (List.mem_of_getElem? (i := 35) rfl), rfl⟩
theorem pX10_overBy_58 : At cX10_overBy 58 (.invokevirtual 83) 3 61 := ⟨tX10_overBy_0_ok (58, .invokevirtual 83, 3) (List.mem_of_getElem? (i := 36) rfl), rfl⟩
theorem pX10_overBy_61 : At cX10_overBy 61 (.aload_n 0) 1 62 := ⟨tX10_overBy_0_ok (61, .aload_n 0, 1) (List.mem_of_getElem? (i := 37) rfl), rfl⟩
theorem pX10_overBy_62 : At cX10_overBy 62 (.iload_n 1) 1 63 := ⟨tX10_overBy_0_ok (62, .iload_n 1, 1) (List.mem_of_getElem? (i := 38) rfl), rfl⟩
theorem pX10_overBy_63 : At cX10_overBy 63 (.iconst 3) 1 64 := ⟨tX10_overBy_0_ok (63, .iconst 3, 1) (List.mem_of_getElem? (i := 39) rfl), rfl⟩
theorem pX10_overBy_64 : At cX10_overBy 64 (.aload_n 0) 1 65 := ⟨tX10_overBy_0_ok (64, .aload_n 0, 1) (List.mem_of_getElem? (i := 40) rfl), rfl⟩
theorem pX10_overBy_65 : At cX10_overBy 65 (.getfield 198) 3 68 := ⟨tX10_overBy_0_ok (65, .getfield 198, 3) (List.mem_of_getElem? (i := 41) rfl), rfl⟩
theorem pX10_overBy_68 : At cX10_overBy 68 (.invokevirtual 83) 3 71 := ⟨tX10_overBy_0_ok (68, .invokevirtual 83, 3) (List.mem_of_getElem? (i := 42) rfl), rfl⟩
theorem pX10_overBy_71 : At cX10_overBy 71 (.iinc 6 1) 3 74 := ⟨tX10_overBy_0_ok (71, .iinc 6 1, 3) (List.mem_of_getElem? (i := 43) rfl), rfl⟩
theorem pX10_overBy_74 : Bt cX10_overBy 74 (.goto (-48)) (-48) 26 77 := ⟨tX10_overBy_0_ok (74, .goto (-48), 3) (List.mem_of_getElem? (i := 44) rfl), by decide, rfl⟩
theorem pX10_overBy_77 : At cX10_overBy 77 (.aload_n 0) 1 78 := ⟨tX10_overBy_0_ok (77, .aload_n 0, 1) (List.mem_of_getElem? (i := 45) rfl), rfl⟩
theorem pX10_overBy_78 : At cX10_overBy 78 (.iload_n 1) 1 79 := ⟨tX10_overBy_0_ok (78, .iload_n 1, 1) (List.mem_of_getElem? (i := 46) rfl), rfl⟩
theorem pX10_overBy_79 : At cX10_overBy 79 (.iconst 2) 1 80 := ⟨tX10_overBy_0_ok (79, .iconst 2, 1) (List.mem_of_getElem? (i := 47) rfl), rfl⟩
theorem pX10_overBy_80 : At cX10_overBy 80 (.iload 4) 2 82 := ⟨tX10_overBy_0_ok (80, .iload 4, 2) (List.mem_of_getElem? (i := 48) rfl), rfl⟩
theorem pX10_overBy_82 : At cX10_overBy 82 (.invokevirtual 83) 3 85 := ⟨tX10_overBy_0_ok (82, .invokevirtual 83, 3) (List.mem_of_getElem? (i := 49) rfl), rfl⟩
theorem pX10_overBy_85 : At cX10_overBy 85 (.aload_n 0) 1 86 := ⟨tX10_overBy_0_ok (85, .aload_n 0, 1) (List.mem_of_getElem? (i := 50) rfl), rfl⟩
theorem pX10_overBy_86 : At cX10_overBy 86 (.iload_n 1) 1 87 := ⟨tX10_overBy_0_ok (86, .iload_n 1, 1) (List.mem_of_getElem? (i := 51) rfl), rfl⟩
theorem pX10_overBy_87 : At cX10_overBy 87 (.iconst 3) 1 88 := ⟨tX10_overBy_0_ok (87, .iconst 3, 1) (List.mem_of_getElem? (i := 52) rfl), rfl⟩
theorem pX10_overBy_88 : At cX10_overBy 88 (.iload 5) 2 90 := ⟨tX10_overBy_0_ok (88, .iload 5, 2) (List.mem_of_getElem? (i := 53) rfl), rfl⟩
theorem pX10_overBy_90 : At cX10_overBy 90 (.invokevirtual 83) 3 93 := ⟨tX10_overBy_0_ok (90, .invokevirtual 83, 3) (List.mem_of_getElem? (i := 54) rfl), rfl⟩
theorem pX10_overBy_93 : At cX10_overBy 93 (.iload 6) 2 95 := ⟨tX10_overBy_0_ok (93, .iload 6, 2) (List.mem_of_getElem? (i := 55) rfl), rfl⟩
theorem pX10_overBy_95 : At cX10_overBy 95 (.bipush 100) 2 97 := ⟨tX10_overBy_0_ok (95, .bipush 100, 2) (List.mem_of_getElem? (i := 56) rfl), rfl⟩
theorem pX10_overBy_97 : Bt cX10_overBy 97 (.if_icmp .gt 8) 8 105 100 := ⟨tX10_overBy_0_ok (97, .if_icmp .gt 8, 3) (List.mem_of_getElem? (i := 57) rfl), by decide, rfl⟩
theorem pX10_overBy_100 : At cX10_overBy 100 (.iload 6) 2 102 := ⟨tX10_overBy_0_ok (100, .iload 6, 2) (List.mem_of_getElem? (i := 58) rfl), rfl⟩
theorem pX10_overBy_102 : Bt cX10_overBy 102 (.goto 4) 4 106 105 := ⟨tX10_overBy_0_ok (102, .goto 4, 3) (List.mem_of_getElem? (i := 59) rfl), by decide, rfl⟩
theorem pX10_overBy_105 : At cX10_overBy 105 (.iconst (-1)) 1 106 := ⟨tX10_overBy_0_ok (105, .iconst (-1), 1) (List.mem_of_getElem? (i := 60) rfl), rfl⟩
theorem pX10_overBy_106 : At cX10_overBy 106 (.ireturn) 1 107 := ⟨tX10_overBy_0_ok (106, .ireturn, 1) (List.mem_of_getElem? (i := 61) rfl), rfl⟩
def tX10_over_0 : List (Nat × Instr × Nat) := [(0, .aload_n 0, 1), (1, .iload_n 1, 1), (2, .invokevirtual 87, 3), (5, .ifCond .eq 17, 3), (8, .iload_n 2, 1), (9, .invokestatic 126, 3), (12, .ifCond .eq 10, 3), (15, .iload_n 3, 1), (16, .invokestatic 116, 3), (19, .ifCond .ne 9, 3), (22, .aload_n 0, 1), (23, .iconst 1, 1), (24, .invokevirtual 79, 3), (27, .ireturn, 1), (28, .aload_n 0, 1), (29, .iload_n 1, 1), (30, .iload_n 2, 1), (31, .iload_n 3, 1), (32, .invokevirtual 240, 3), (35, .istore 4, 2), (37, .iload 4, 2), (39, .ifCond .ge 11, 3), (42, .aload_n 0, 1), (43, .iconst 2, 1), (44, .invokevirtual 79, 3), (47, .goto 5, 3), (50, .iload 4, 2), (52, .ireturn, 1)]
theorem tX10_over_0_ok : ∀ q ∈ tX10_over_0, decode cX10_over q.1 = .ok (q.2.1, q.2.2) := by decide +kernel
theorem pX10_over_0 : At cX10_over 0 (.aload_n 0) 1 1 := ⟨tX10_over_0_ok (0, .aload_n 0, 1) (List.mem_of_getElem? (i := 0) rfl), rfl⟩
theorem pX10_over_1 : At cX10_over 1 (.iload_n 1) 1 2 := ⟨tX10_over_0_ok (1, .iload_n 1, 1) (List.mem_of_getElem? (i := 1) rfl), rfl⟩
theorem pX10_over_2 : At cX10_over 2 (.invokevirtual 87) 3 5 := ⟨tX10_over_0_ok (2, .invokevirtual 87, 3) (List.mem_of_getElem? (i := 2) rfl), rfl⟩
theorem pX10_over_5 : Bt cX10_over 5 (.ifCond .eq 17) 17 22 8 := ⟨tX10_over_0_ok (5, .ifCond .eq 17, 3) (List.mem_of_getElem? (i := 3) rfl), by decide, rfl⟩
theorem pX10_over_8 : At cX10_over 8 (.iload_n 2) 1 9 := ⟨tX10_over_0_ok (8, .iload_n 2, 1) (List.mem_of_getElem? (i := 4) rfl), rfl⟩
theorem pX10_over_9 : At cX10_over 9 (.invokestatic 126) 3 12 := ⟨tX10_over_0_ok (9, .invokestatic 126, 3) (List.mem_of_getElem? (i := 5) rfl), rfl⟩
theorem pX10_over_12 : Bt cX10_over 12 (.ifCond .eq 10) 10 22 15 := ⟨tX10_over_0_ok (12, .ifCond .eq 10, 3) (List.mem_of_getElem? (i := 6) rfl), by decide, rfl⟩
theorem pX10_over_15 : At cX10_over 15 (.iload_n 3) 1 16 := ⟨tX10_over_0_ok (15, .iload_n 3, 1) (List.mem_of_getElem? (i := 7) rfl), rfl⟩
theorem pX10_over_16 : At cX10_over 16 (.invokestatic 116) 3 19 := ⟨tX10_over_0_ok (16, .invokestatic 116, 3) (List.mem_of_getElem? (i := 8) rfl), rfl⟩
theorem pX10_over_19 : Bt cX10_over 19 (.ifCond .ne 9) 9 28 22 := ⟨tX10_over_0_ok (19, .ifCond .ne 9, 3) (List.mem_of_getElem? (i := 9) rfl), by decide, rfl⟩
theorem pX10_over_22 : At cX10_over 22 (.aload_n 0) 1 23 := ⟨tX10_over_0_ok (22, .aload_n 0, 1) (List.mem_of_getElem? (i := 10) rfl), rfl⟩
theorem pX10_over_23 : At cX10_over 23 (.iconst 1) 1 24 := ⟨tX10_over_0_ok (23, .iconst 1, 1) (List.mem_of_getElem? (i := 11) rfl), rfl⟩
theorem pX10_over_24 : At cX10_over 24 (.invokevirtual 79) 3 27 := ⟨tX10_over_0_ok (24, .invokevirtual 79, 3) (List.mem_of_getElem? (i := 12) rfl), rfl⟩
theorem pX10_over_27 : At cX10_over 27 (.ireturn) 1 28 := ⟨tX10_over_0_ok (27, .ireturn, 1) (List.mem_of_getElem? (i := 13) rfl), rfl⟩
theorem pX10_over_28 : At cX10_over 28 (.aload_n 0) 1 29 := ⟨tX10_over_0_ok (28, .aload_n 0, 1) (List.mem_of_getElem? (i := 14) rfl), rfl⟩
theorem pX10_over_29 : At cX10_over 29 (.iload_n 1) 1 30 := ⟨tX10_over_0_ok (29, .iload_n 1, 1) (List.mem_of_getElem? (i := 15) rfl), rfl⟩
theorem pX10_over_30 : At cX10_over 30 (.iload_n 2) 1 31 := ⟨tX10_over_0_ok (30, .iload_n 2, 1) (List.mem_of_getElem? (i := 16) rfl), rfl⟩
theorem pX10_over_31 : At cX10_over 31 (.iload_n 3) 1 32 := ⟨tX10_over_0_ok (31, .iload_n 3, 1) (List.mem_of_getElem? (i := 17) rfl), rfl⟩
theorem pX10_over_32 : At cX10_over 32 (.invokevirtual 240) 3 35 := ⟨tX10_over_0_ok (32, .invokevirtual 240, 3) (List.mem_of_getElem? (i := 18) rfl), rfl⟩
theorem pX10_over_35 : At cX10_over 35 (.istore 4) 2 37 := ⟨tX10_over_0_ok (35, .istore 4, 2) (List.mem_of_getElem? (i := 19) rfl), rfl⟩
theorem pX10_over_37 : At cX10_over 37 (.iload 4) 2 39 := ⟨tX10_over_0_ok (37, .iload 4, 2) (List.mem_of_getElem? (i := 20) rfl), rfl⟩
theorem pX10_over_39 : Bt cX10_over 39 (.ifCond .ge 11) 11 50 42 := ⟨tX10_over_0_ok (39, .ifCond .ge 11, 3) (List.mem_of_getElem? (i := 21) rfl), by decide, rfl⟩
theorem pX10_over_42 : At cX10_over 42 (.aload_n 0) 1 43 := ⟨tX10_over_0_ok (42, .aload_n 0, 1) (List.mem_of_getElem? (i := 22) rfl), rfl⟩
theorem pX10_over_43 : At cX10_over 43 (.iconst 2) 1 44 := ⟨tX10_over_0_ok (43, .iconst 2, 1) (List.mem_of_getElem? (i := 23) rfl), rfl⟩
theorem pX10_over_44 : At cX10_over 44 (.invokevirtual 79) 3 47 := ⟨tX10_over_0_ok (44, .invokevirtual 79, 3) (List.mem_of_getElem? (i := 24) rfl), rfl⟩
theorem pX10_over_47 : Bt cX10_over 47 (.goto 5) 5 52 50 := ⟨tX10_over_0_ok (47, .goto 5, 3) (List.mem_of_getElem? (i := 25) rfl), by decide, rfl⟩
theorem pX10_over_50 : At cX10_over 50 (.iload 4) 2 52 := ⟨tX10_over_0_ok (50, .iload 4, 2) (List.mem_of_getElem? (i := 26) rfl), rfl⟩
theorem pX10_over_52 : At cX10_over 52 (.ireturn) 1 53 := ⟨tX10_over_0_ok (52, .ireturn, 1) (List.mem_of_getElem? (i := 27) rfl), rfl⟩
def tX10_pushOf_0 : List (Nat × Instr × Nat) := [(0, .iload_n 0, 1), (1, .iconst 2, 1), (2, .irem, 1), (3, .iconst 1, 1), (4, .if_icmp .ne 12, 3), (7, .iload_n 0, 1), (8, .iconst 1, 1), (9, .iadd, 1), (10, .ineg, 1), (11, .iconst 2, 1), (12, .idiv, 1), (13, .goto 6, 3), (16, .iload_n 0, 1), (17, .iconst 2, 1), (18, .idiv, 1), (19, .ireturn, 1)]
theorem tX10_pushOf_0_ok : ∀ q ∈ tX10_pushOf_0, decode cX10_pushOf q.1 = .ok (q.2.1, q.2.2) := by decide +kernel
theorem pX10_pushOf_0 : At cX10_pushOf 0 (.iload_n 0) 1 1 := ⟨tX10_pushOf_0_ok (0, .iload_n 0, 1) (List.mem_of_getElem? (i := 0) rfl), rfl⟩
theorem pX10_pushOf_1 : At cX10_pushOf 1 (.iconst 2) 1 2 := ⟨tX10_pushOf_0_ok (1, .iconst 2, 1) (List.mem_of_getElem? (i := 1) rfl), rfl⟩
theorem pX10_pushOf_2 : At cX10_pushOf 2 (.irem) 1 3 := ⟨tX10_pushOf_0_ok (2, .irem, 1) (List.mem_of_getElem? (i := 2) rfl), rfl⟩
theorem pX10_pushOf_3 : At cX10_pushOf 3 (.iconst 1) 1 4 := ⟨tX10_pushOf_0_ok (3, .iconst 1, 1) (List.mem_of_getElem? (i := 3) rfl), rfl⟩
theorem pX10_pushOf_4 : Bt cX10_pushOf 4 (.if_icmp .ne 12) 12 16 7 := ⟨tX10_pushOf_0_ok (4, .if_icmp .ne 12, 3) (List.mem_of_getElem? (i := 4) rfl), by decide, rfl⟩
theorem pX10_pushOf_7 : At cX10_pushOf 7 (.iload_n 0) 1 8 := ⟨tX10_pushOf_0_ok (7, .iload_n 0, 1) (List.mem_of_getElem? (i := 5) rfl), rfl⟩
theorem pX10_pushOf_8 : At cX10_pushOf 8 (.iconst 1) 1 9 := ⟨tX10_pushOf_0_ok (8, .iconst 1, 1) (List.mem_of_getElem? (i := 6) rfl), rfl⟩
theorem pX10_pushOf_9 : At cX10_pushOf 9 (.iadd) 1 10 := ⟨tX10_pushOf_0_ok (9, .iadd, 1) (List.mem_of_getElem? (i := 7) rfl), rfl⟩
theorem pX10_pushOf_10 : At cX10_pushOf 10 (.ineg) 1 11 := ⟨tX10_pushOf_0_ok (10, .ineg, 1) (List.mem_of_getElem? (i := 8) rfl), rfl⟩
theorem pX10_pushOf_11 : At cX10_pushOf 11 (.iconst 2) 1 12 := ⟨tX10_pushOf_0_ok (11, .iconst 2, 1) (List.mem_of_getElem? (i := 9) rfl), rfl⟩
theorem pX10_pushOf_12 : At cX10_pushOf 12 (.idiv) 1 13 := ⟨tX10_pushOf_0_ok (12, .idiv, 1) (List.mem_of_getElem? (i := 10) rfl), rfl⟩
theorem pX10_pushOf_13 : Bt cX10_pushOf 13 (.goto 6) 6 19 16 := ⟨tX10_pushOf_0_ok (13, .goto 6, 3) (List.mem_of_getElem? (i := 11) rfl), by decide, rfl⟩
theorem pX10_pushOf_16 : At cX10_pushOf 16 (.iload_n 0) 1 17 := ⟨tX10_pushOf_0_ok (16, .iload_n 0, 1) (List.mem_of_getElem? (i := 12) rfl), rfl⟩
theorem pX10_pushOf_17 : At cX10_pushOf 17 (.iconst 2) 1 18 := ⟨tX10_pushOf_0_ok (17, .iconst 2, 1) (List.mem_of_getElem? (i := 13) rfl), rfl⟩
theorem pX10_pushOf_18 : At cX10_pushOf 18 (.idiv) 1 19 := ⟨tX10_pushOf_0_ok (18, .idiv, 1) (List.mem_of_getElem? (i := 14) rfl), rfl⟩
theorem pX10_pushOf_19 : At cX10_pushOf 19 (.ireturn) 1 20 := ⟨tX10_pushOf_0_ok (19, .ireturn, 1) (List.mem_of_getElem? (i := 15) rfl), rfl⟩
def tX10_soonest_0 : List (Nat × Instr × Nat) := [(0, .aload_n 0, 1), (1, .iload_n 1, 1), (2, .invokevirtual 87, 3), (5, .ifCond .eq 20, 3), (8, .iload_n 2, 1), (9, .invokestatic 126, 3), (12, .ifCond .eq 13, 3), (15, .iload_n 3, 1), (16, .i2l, 1), (17, .lconst 0, 1), (18, .lconst 1, 1), (19, .invokestatic 53, 3), (22, .ifCond .ne 9, 3), (25, .aload_n 0, 1), (26, .iconst 1, 1), (27, .invokevirtual 79, 3), (30, .ireturn, 1), (31, .iconst (-1), 1), (32, .istore 4, 2), (34, .iconst 0, 1), (35, .istore 5, 2), (37, .iconst 0, 1), (38, .istore 6, 2), (40, .iload 6, 2), (42, .bipush 19, 2), (44, .if_icmp .ge 50, 3), (47, .aload_n 0, 1), (48, .iload_n 1, 1), (49, .iload_n 2, 1), (50, .iload 6, 2), (52, .invokestatic 243, 3), (55, .invokevirtual 240, 3), (58, .istore 7, 2), (60, .iload 7, 2), (62, .ifCond .lt 26, 3), (65, .iload 4, 2), (67, .ifCond .lt 10, 3), (70, .iload 7, 2), (72, .iload 4, 2), (74, .if_icmp .ge 14, 3), (77, .iload 7, 2), (79, .istore 4, 2), (81, .iload 6, 2), (83, .invokestatic 243, 3), (86, .istore 5, 2), (88, .iinc 6 1, 3), (91, .goto (-51), 3), (94, .iload 4, 2), (96, .ifCond .ge 11, 3), (99, .aload_n 0, 1), (100, .iconst 2, 1), (101, .invokevirtual 79, 3), (104, .goto 14, 3), (107, .iload_n 3, 1), (108, .ifCond .ne 8, 3), (111, .iload 5, 2), (113, .goto 5, 3), (116, .iload 4, 2), (118, .ireturn, 1)]
theorem tX10_soonest_0_ok : ∀ q ∈ tX10_soonest_0, decode cX10_soonest q.1 = .ok (q.2.1, q.2.2) := by decide +kernel
theorem pX10_soonest_0 : At cX10_soonest 0 (.aload_n 0) 1 1 := ⟨tX10_soonest_0_ok (0, .aload_n 0, 1) (List.mem_of_getElem? (i := 0) rfl), rfl⟩
theorem pX10_soonest_1 : At cX10_soonest 1 (.iload_n 1) 1 2 := ⟨tX10_soonest_0_ok (1, .iload_n 1, 1) (List.mem_of_getElem? (i := 1) rfl), rfl⟩
theorem pX10_soonest_2 : At cX10_soonest 2 (.invokevirtual 87) 3 5 := ⟨tX10_soonest_0_ok (2, .invokevirtual 87, 3) (List.mem_of_getElem? (i := 2) rfl), rfl⟩
theorem pX10_soonest_5 : Bt cX10_soonest 5 (.ifCond .eq 20) 20 25 8 := ⟨tX10_soonest_0_ok (5, .ifCond .eq 20, 3) (List.mem_of_getElem? (i := 3) rfl), by decide, rfl⟩
theorem pX10_soonest_8 : At cX10_soonest 8 (.iload_n 2) 1 9 := ⟨tX10_soonest_0_ok (8, .iload_n 2, 1) (List.mem_of_getElem? (i := 4) rfl), rfl⟩
theorem pX10_soonest_9 : At cX10_soonest 9 (.invokestatic 126) 3 12 := ⟨tX10_soonest_0_ok (9, .invokestatic 126, 3) (List.mem_of_getElem? (i := 5) rfl), rfl⟩
theorem pX10_soonest_12 : Bt cX10_soonest 12 (.ifCond .eq 13) 13 25 15 := ⟨tX10_soonest_0_ok (12, .ifCond .eq 13, 3) (List.mem_of_getElem? (i := 6) rfl), by decide, rfl⟩
theorem pX10_soonest_15 : At cX10_soonest 15 (.iload_n 3) 1 16 := ⟨tX10_soonest_0_ok (15, .iload_n 3, 1) (List.mem_of_getElem? (i := 7) rfl), rfl⟩
theorem pX10_soonest_16 : At cX10_soonest 16 (.i2l) 1 17 := ⟨tX10_soonest_0_ok (16, .i2l, 1) (List.mem_of_getElem? (i := 8) rfl), rfl⟩
theorem pX10_soonest_17 : At cX10_soonest 17 (.lconst 0) 1 18 := ⟨tX10_soonest_0_ok (17, .lconst 0, 1) (List.mem_of_getElem? (i := 9) rfl), rfl⟩
theorem pX10_soonest_18 : At cX10_soonest 18 (.lconst 1) 1 19 := ⟨tX10_soonest_0_ok (18, .lconst 1, 1) (List.mem_of_getElem? (i := 10) rfl), rfl⟩
theorem pX10_soonest_19 : At cX10_soonest 19 (.invokestatic 53) 3 22 := ⟨tX10_soonest_0_ok (19, .invokestatic 53, 3) (List.mem_of_getElem? (i := 11) rfl), rfl⟩
theorem pX10_soonest_22 : Bt cX10_soonest 22 (.ifCond .ne 9) 9 31 25 := ⟨tX10_soonest_0_ok (22, .ifCond .ne 9, 3) (List.mem_of_getElem? (i := 12) rfl), by decide, rfl⟩
theorem pX10_soonest_25 : At cX10_soonest 25 (.aload_n 0) 1 26 := ⟨tX10_soonest_0_ok (25, .aload_n 0, 1) (List.mem_of_getElem? (i := 13) rfl), rfl⟩
theorem pX10_soonest_26 : At cX10_soonest 26 (.iconst 1) 1 27 := ⟨tX10_soonest_0_ok (26, .iconst 1, 1) (List.mem_of_getElem? (i := 14) rfl), rfl⟩
theorem pX10_soonest_27 : At cX10_soonest 27 (.invokevirtual 79) 3 30 := ⟨tX10_soonest_0_ok (27, .invokevirtual 79, 3) (List.mem_of_getElem? (i := 15) rfl), rfl⟩
theorem pX10_soonest_30 : At cX10_soonest 30 (.ireturn) 1 31 := ⟨tX10_soonest_0_ok (30, .ireturn, 1) (List.mem_of_getElem? (i := 16) rfl), rfl⟩
theorem pX10_soonest_31 : At cX10_soonest 31 (.iconst (-1)) 1 32 := ⟨tX10_soonest_0_ok (31, .iconst (-1), 1) (List.mem_of_getElem? (i := 17) rfl), rfl⟩
theorem pX10_soonest_32 : At cX10_soonest 32 (.istore 4) 2 34 := ⟨tX10_soonest_0_ok (32, .istore 4, 2) (List.mem_of_getElem? (i := 18) rfl), rfl⟩
theorem pX10_soonest_34 : At cX10_soonest 34 (.iconst 0) 1 35 := ⟨tX10_soonest_0_ok (34, .iconst 0, 1) (List.mem_of_getElem? (i := 19) rfl), rfl⟩
theorem pX10_soonest_35 : At cX10_soonest 35 (.istore 5) 2 37 := ⟨tX10_soonest_0_ok (35, .istore 5, 2) (List.mem_of_getElem? (i := 20) rfl), rfl⟩
theorem pX10_soonest_37 : At cX10_soonest 37 (.iconst 0) 1 38 := ⟨tX10_soonest_0_ok (37, .iconst 0, 1) (List.mem_of_getElem? (i := 21) rfl), rfl⟩
theorem pX10_soonest_38 : At cX10_soonest 38 (.istore 6) 2 40 := ⟨tX10_soonest_0_ok (38, .istore 6, 2) (List.mem_of_getElem? (i := 22) rfl), rfl⟩
theorem pX10_soonest_40 : At cX10_soonest 40 (.iload 6) 2 42 := ⟨tX10_soonest_0_ok (40, .iload 6, 2) (List.mem_of_getElem? (i := 23) rfl), rfl⟩
theorem pX10_soonest_42 : At cX10_soonest 42 (.bipush 19) 2 44 := ⟨tX10_soonest_0_ok (42, .bipush 19, 2) (List.mem_of_getElem? (i := 24) rfl), rfl⟩
theorem pX10_soonest_44 : Bt cX10_soonest 44 (.if_icmp .ge 50) 50 94 47 := ⟨tX10_soonest_0_ok (44, .if_icmp .ge 50, 3) (List.mem_of_getElem? (i := 25) rfl), by decide, rfl⟩
theorem pX10_soonest_47 : At cX10_soonest 47 (.aload_n 0) 1 48 := ⟨tX10_soonest_0_ok (47, .aload_n 0, 1) (List.mem_of_getElem? (i := 26) rfl), rfl⟩
theorem pX10_soonest_48 : At cX10_soonest 48 (.iload_n 1) 1 49 := ⟨tX10_soonest_0_ok (48, .iload_n 1, 1) (List.mem_of_getElem? (i := 27) rfl), rfl⟩
theorem pX10_soonest_49 : At cX10_soonest 49 (.iload_n 2) 1 50 := ⟨tX10_soonest_0_ok (49, .iload_n 2, 1) (List.mem_of_getElem? (i := 28) rfl), rfl⟩
theorem pX10_soonest_50 : At cX10_soonest 50 (.iload 6) 2 52 := ⟨tX10_soonest_0_ok (50, .iload 6, 2) (List.mem_of_getElem? (i := 29) rfl), rfl⟩
theorem pX10_soonest_52 : At cX10_soonest 52 (.invokestatic 243) 3 55 := ⟨tX10_soonest_0_ok (52, .invokestatic 243, 3) (List.mem_of_getElem? (i := 30) rfl), rfl⟩
theorem pX10_soonest_55 : At cX10_soonest 55 (.invokevirtual 240) 3 58 := ⟨tX10_soonest_0_ok (55, .invokevirtual 240, 3) (List.mem_of_getElem? (i := 31) rfl), rfl⟩
theorem pX10_soonest_58 : At cX10_soonest 58 (.istore 7) 2 60 := ⟨tX10_soonest_0_ok (58, .istore 7, 2) (List.mem_of_getElem? (i := 32) rfl), rfl⟩
theorem pX10_soonest_60 : At cX10_soonest 60 (.iload 7) 2 62 := ⟨tX10_soonest_0_ok (60, .iload 7, 2) (List.mem_of_getElem? (i := 33) rfl), rfl⟩
theorem pX10_soonest_62 : Bt cX10_soonest 62 (.ifCond .lt 26) 26 88 65 := ⟨tX10_soonest_0_ok (62, .ifCond .lt 26, 3) (List.mem_of_getElem? (i := 34) rfl), by decide, rfl⟩
theorem pX10_soonest_65 : At cX10_soonest 65 (.iload 4) 2 67 := ⟨tX10_soonest_0_ok (65, .iload 4, 2) (List.mem_of_getElem? (i := 35) rfl), rfl⟩
theorem pX10_soonest_67 : Bt cX10_soonest 67 (.ifCond .lt 10) 10 77 70 := ⟨tX10_soonest_0_ok (67, .ifCond .lt 10, 3) (List.mem_of_getElem? (i := 36) rfl), by decide, rfl⟩
theorem pX10_soonest_70 : At cX10_soonest 70 (.iload 7) 2 72 := ⟨tX10_soonest_0_ok (70, .iload 7, 2) (List.mem_of_getElem? (i := 37) rfl), rfl⟩
theorem pX10_soonest_72 : At cX10_soonest 72 (.iload 4) 2 74 := ⟨tX10_soonest_0_ok (72, .iload 4, 2) (List.mem_of_getElem? (i := 38) rfl), rfl⟩
theorem pX10_soonest_74 : Bt cX10_soonest 74 (.if_icmp .ge 14) 14 88 77 := ⟨tX10_soonest_0_ok (74, .if_icmp .ge 14, 3) (List.mem_of_getElem? (i := 39) rfl), by decide, rfl⟩
theorem pX10_soonest_77 : At cX10_soonest 77 (.iload 7) 2 79 := ⟨tX10_soonest_0_ok (77, .iload 7, 2) (List.mem_of_getElem? (i := 40) rfl), rfl⟩
theorem pX10_soonest_79 : At cX10_soonest 79 (.istore 4) 2 81 := ⟨tX10_soonest_0_ok (79, .istore 4, 2) (List.mem_of_getElem? (i := 41) rfl), rfl⟩
theorem pX10_soonest_81 : At cX10_soonest 81 (.iload 6) 2 83 := ⟨tX10_soonest_0_ok (81, .iload 6, 2) (List.mem_of_getElem? (i := 42) rfl), rfl⟩
theorem pX10_soonest_83 : At cX10_soonest 83 (.invokestatic 243) 3 86 := ⟨tX10_soonest_0_ok (83, .invokestatic 243, 3) (List.mem_of_getElem? (i := 43) rfl), rfl⟩
theorem pX10_soonest_86 : At cX10_soonest 86 (.istore 5) 2 88 := ⟨tX10_soonest_0_ok (86, .istore 5, 2) (List.mem_of_getElem? (i := 44) rfl), rfl⟩
theorem pX10_soonest_88 : At cX10_soonest 88 (.iinc 6 1) 3 91 := ⟨tX10_soonest_0_ok (88, .iinc 6 1, 3) (List.mem_of_getElem? (i := 45) rfl), rfl⟩
theorem pX10_soonest_91 : Bt cX10_soonest 91 (.goto (-51)) (-51) 40 94 := ⟨tX10_soonest_0_ok (91, .goto (-51), 3) (List.mem_of_getElem? (i := 46) rfl), by decide, rfl⟩
theorem pX10_soonest_94 : At cX10_soonest 94 (.iload 4) 2 96 := ⟨tX10_soonest_0_ok (94, .iload 4, 2) (List.mem_of_getElem? (i := 47) rfl), rfl⟩
theorem pX10_soonest_96 : Bt cX10_soonest 96 (.ifCond .ge 11) 11 107 99 := ⟨tX10_soonest_0_ok (96, .ifCond .ge 11, 3) (List.mem_of_getElem? (i := 48) rfl), by decide, rfl⟩
theorem pX10_soonest_99 : At cX10_soonest 99 (.aload_n 0) 1 100 := ⟨tX10_soonest_0_ok (99, .aload_n 0, 1) (List.mem_of_getElem? (i := 49) rfl), rfl⟩
theorem pX10_soonest_100 : At cX10_soonest 100 (.iconst 2) 1 101 := ⟨tX10_soonest_0_ok (100, .iconst 2, 1) (List.mem_of_getElem? (i := 50) rfl), rfl⟩
theorem pX10_soonest_101 : At cX10_soonest 101 (.invokevirtual 79) 3 104 := ⟨tX10_soonest_0_ok (101, .invokevirtual 79, 3) (List.mem_of_getElem? (i := 51) rfl), rfl⟩
theorem pX10_soonest_104 : Bt cX10_soonest 104 (.goto 14) 14 118 107 := ⟨tX10_soonest_0_ok (104, .goto 14, 3) (List.mem_of_getElem? (i := 52) rfl), by decide, rfl⟩
theorem pX10_soonest_107 : At cX10_soonest 107 (.iload_n 3) 1 108 := ⟨tX10_soonest_0_ok (107, .iload_n 3, 1) (List.mem_of_getElem? (i := 53) rfl), rfl⟩
theorem pX10_soonest_108 : Bt cX10_soonest 108 (.ifCond .ne 8) 8 116 111 := ⟨tX10_soonest_0_ok (108, .ifCond .ne 8, 3) (List.mem_of_getElem? (i := 54) rfl), by decide, rfl⟩
theorem pX10_soonest_111 : At cX10_soonest 111 (.iload 5) 2 113 := ⟨tX10_soonest_0_ok (111, .iload 5, 2) (List.mem_of_getElem? (i := 55) rfl), rfl⟩
theorem pX10_soonest_113 : Bt cX10_soonest 113 (.goto 5) 5 118 116 := ⟨tX10_soonest_0_ok (113, .goto 5, 3) (List.mem_of_getElem? (i := 56) rfl), by decide, rfl⟩
theorem pX10_soonest_116 : At cX10_soonest 116 (.iload 4) 2 118 := ⟨tX10_soonest_0_ok (116, .iload 4, 2) (List.mem_of_getElem? (i := 57) rfl), rfl⟩
theorem pX10_soonest_118 : At cX10_soonest 118 (.ireturn) 1 119 := ⟨tX10_soonest_0_ok (118, .ireturn, 1) (List.mem_of_getElem? (i := 58) rfl), rfl⟩
def tX10_least_0 : List (Nat × Instr × Nat) := [(0, .aload_n 0, 1), (1, .iload_n 1, 1), (2, .invokevirtual 87, 3), (5, .ifCond .eq 10, 3), (8, .iload_n 2, 1), (9, .invokestatic 126, 3), (12, .ifCond .ne 9, 3), (15, .aload_n 0, 1), (16, .iconst 1, 1), (17, .invokevirtual 79, 3), (20, .ireturn, 1), (21, .iconst 0, 1), (22, .istore_n 3, 1), (23, .iload_n 3, 1), (24, .bipush 19, 2), (26, .if_icmp .ge 27, 3), (29, .aload_n 0, 1), (30, .iload_n 1, 1), (31, .iload_n 2, 1), (32, .iload_n 3, 1), (33, .invokestatic 243, 3), (36, .invokevirtual 240, 3), (39, .ifCond .lt 8, 3), (42, .iload_n 3, 1), (43, .invokestatic 243, 3), (46, .ireturn, 1), (47, .iinc 3 1, 3), (50, .goto (-27), 3), (53, .aload_n 0, 1), (54, .iconst 2, 1), (55, .invokevirtual 79, 3), (58, .ireturn, 1)]
theorem tX10_least_0_ok : ∀ q ∈ tX10_least_0, decode cX10_least q.1 = .ok (q.2.1, q.2.2) := by decide +kernel
theorem pX10_least_0 : At cX10_least 0 (.aload_n 0) 1 1 := ⟨tX10_least_0_ok (0, .aload_n 0, 1) (List.mem_of_getElem? (i := 0) rfl), rfl⟩
theorem pX10_least_1 : At cX10_least 1 (.iload_n 1) 1 2 := ⟨tX10_least_0_ok (1, .iload_n 1, 1) (List.mem_of_getElem? (i := 1) rfl), rfl⟩
theorem pX10_least_2 : At cX10_least 2 (.invokevirtual 87) 3 5 := ⟨tX10_least_0_ok (2, .invokevirtual 87, 3) (List.mem_of_getElem? (i := 2) rfl), rfl⟩
theorem pX10_least_5 : Bt cX10_least 5 (.ifCond .eq 10) 10 15 8 := ⟨tX10_least_0_ok (5, .ifCond .eq 10, 3) (List.mem_of_getElem? (i := 3) rfl), by decide, rfl⟩
theorem pX10_least_8 : At cX10_least 8 (.iload_n 2) 1 9 := ⟨tX10_least_0_ok (8, .iload_n 2, 1) (List.mem_of_getElem? (i := 4) rfl), rfl⟩
theorem pX10_least_9 : At cX10_least 9 (.invokestatic 126) 3 12 := ⟨tX10_least_0_ok (9, .invokestatic 126, 3) (List.mem_of_getElem? (i := 5) rfl), rfl⟩
theorem pX10_least_12 : Bt cX10_least 12 (.ifCond .ne 9) 9 21 15 := ⟨tX10_least_0_ok (12, .ifCond .ne 9, 3) (List.mem_of_getElem? (i := 6) rfl), by decide, rfl⟩
theorem pX10_least_15 : At cX10_least 15 (.aload_n 0) 1 16 := ⟨tX10_least_0_ok (15, .aload_n 0, 1) (List.mem_of_getElem? (i := 7) rfl), rfl⟩
theorem pX10_least_16 : At cX10_least 16 (.iconst 1) 1 17 := ⟨tX10_least_0_ok (16, .iconst 1, 1) (List.mem_of_getElem? (i := 8) rfl), rfl⟩
theorem pX10_least_17 : At cX10_least 17 (.invokevirtual 79) 3 20 := ⟨tX10_least_0_ok (17, .invokevirtual 79, 3) (List.mem_of_getElem? (i := 9) rfl), rfl⟩
theorem pX10_least_20 : At cX10_least 20 (.ireturn) 1 21 := ⟨tX10_least_0_ok (20, .ireturn, 1) (List.mem_of_getElem? (i := 10) rfl), rfl⟩
theorem pX10_least_21 : At cX10_least 21 (.iconst 0) 1 22 := ⟨tX10_least_0_ok (21, .iconst 0, 1) (List.mem_of_getElem? (i := 11) rfl), rfl⟩
theorem pX10_least_22 : At cX10_least 22 (.istore_n 3) 1 23 := ⟨tX10_least_0_ok (22, .istore_n 3, 1) (List.mem_of_getElem? (i := 12) rfl), rfl⟩
theorem pX10_least_23 : At cX10_least 23 (.iload_n 3) 1 24 := ⟨tX10_least_0_ok (23, .iload_n 3, 1) (List.mem_of_getElem? (i := 13) rfl), rfl⟩
theorem pX10_least_24 : At cX10_least 24 (.bipush 19) 2 26 := ⟨tX10_least_0_ok (24, .bipush 19, 2) (List.mem_of_getElem? (i := 14) rfl), rfl⟩
theorem pX10_least_26 : Bt cX10_least 26 (.if_icmp .ge 27) 27 53 29 := ⟨tX10_least_0_ok (26, .if_icmp .ge 27, 3) (List.mem_of_getElem? (i := 15) rfl), by decide, rfl⟩
theorem pX10_least_29 : At cX10_least 29 (.aload_n 0) 1 30 := ⟨tX10_least_0_ok (29, .aload_n 0, 1) (List.mem_of_getElem? (i := 16) rfl), rfl⟩
theorem pX10_least_30 : At cX10_least 30 (.iload_n 1) 1 31 := ⟨tX10_least_0_ok (30, .iload_n 1, 1) (List.mem_of_getElem? (i := 17) rfl), rfl⟩
theorem pX10_least_31 : At cX10_least 31 (.iload_n 2) 1 32 := ⟨tX10_least_0_ok (31, .iload_n 2, 1) (List.mem_of_getElem? (i := 18) rfl), rfl⟩
theorem pX10_least_32 : At cX10_least 32 (.iload_n 3) 1 33 := ⟨tX10_least_0_ok (32, .iload_n 3, 1) (List.mem_of_getElem? (i := 19) rfl), rfl⟩
theorem pX10_least_33 : At cX10_least 33 (.invokestatic 243) 3 36 := ⟨tX10_least_0_ok (33, .invokestatic 243, 3) (List.mem_of_getElem? (i := 20) rfl), rfl⟩
theorem pX10_least_36 : At cX10_least 36 (.invokevirtual 240) 3 39 := ⟨tX10_least_0_ok (36, .invokevirtual 240, 3) (List.mem_of_getElem? (i := 21) rfl), rfl⟩
theorem pX10_least_39 : Bt cX10_least 39 (.ifCond .lt 8) 8 47 42 := ⟨tX10_least_0_ok (39, .ifCond .lt 8, 3) (List.mem_of_getElem? (i := 22) rfl), by decide, rfl⟩
theorem pX10_least_42 : At cX10_least 42 (.iload_n 3) 1 43 := ⟨tX10_least_0_ok (42, .iload_n 3, 1) (List.mem_of_getElem? (i := 23) rfl), rfl⟩
theorem pX10_least_43 : At cX10_least 43 (.invokestatic 243) 3 46 := ⟨tX10_least_0_ok (43, .invokestatic 243, 3) (List.mem_of_getElem? (i := 24) rfl), rfl⟩
theorem pX10_least_46 : At cX10_least 46 (.ireturn) 1 47 := ⟨tX10_least_0_ok (46, .ireturn, 1) (List.mem_of_getElem? (i := 25) rfl), rfl⟩
theorem pX10_least_47 : At cX10_least 47 (.iinc 3 1) 3 50 := ⟨tX10_least_0_ok (47, .iinc 3 1, 3) (List.mem_of_getElem? (i := 26) rfl), rfl⟩
theorem pX10_least_50 : Bt cX10_least 50 (.goto (-27)) (-27) 23 53 := ⟨tX10_least_0_ok (50, .goto (-27), 3) (List.mem_of_getElem? (i := 27) rfl), by decide, rfl⟩
theorem pX10_least_53 : At cX10_least 53 (.aload_n 0) 1 54 := ⟨tX10_least_0_ok (53, .aload_n 0, 1) (List.mem_of_getElem? (i := 28) rfl), rfl⟩
theorem pX10_least_54 : At cX10_least 54 (.iconst 2) 1 55 := ⟨tX10_least_0_ok (54, .iconst 2, 1) (List.mem_of_getElem? (i := 29) rfl), rfl⟩
theorem pX10_least_55 : At cX10_least 55 (.invokevirtual 79) 3 58 := ⟨tX10_least_0_ok (55, .invokevirtual 79, 3) (List.mem_of_getElem? (i := 30) rfl), rfl⟩
theorem pX10_least_58 : At cX10_least 58 (.ireturn) 1 59 := ⟨tX10_least_0_ok (58, .ireturn, 1) (List.mem_of_getElem? (i := 31) rfl), rfl⟩
def tX10_pairs_0 : List (Nat × Instr × Nat) := [(0, .iload_n 1, 1), (1, .aload_n 0, 1), (2, .getfield 9, 3), (5, .bipush 6, 2), (7, .iaload, 1), (8, .if_icmp .ne 70, 3), (11, .iload_n 3, 1), (12, .aload_n 0, 1), (13, .getfield 246, 3), (16, .if_icmp .gt 20, 3), (19, .iload_n 3, 1), (20, .aload_n 0, 1), (21, .getfield 246, 3), (24, .if_icmp .ne 53, 3), (27, .iload 4, 2), (29, .aload_n 0, 1), (30, .getfield 249, 3), (33, .if_icmp .ge 44, 3), (36, .aload_n 0, 1), (37, .iload_n 3, 1), (38, .putfield 246, 3), (41, .aload_n 0, 1), (42, .iload 4, 2), (44, .putfield 249, 3), (47, .iconst 0, 1), (48, .istore 5, 2), (50, .iload 5, 2), (52, .bipush 8, 2), (54, .if_icmp .ge 23, 3), (57, .aload_n 0, 1), (58, .getfield 34, 3), (61, .iload 5, 2), (63, .aload_n 0, 1), (64, .getfield 31, 3), (67, .iload 5, 2), (69, .iaload, 1), (70, .iastore, 1), (71, .iinc 5 1, 3), (74, .goto (-24), 3), (77, .return_, 1), (78, .aload_n 0, 1), (79, .getfield 31, 3), (82, .iload_n 1, 1), (83, .iconst (-1), 1), (84, .iastore, 1), (85, .iconst 0, 1), (86, .istore 5, 2), (88, .iload 5, 2), (90, .aload_n 0, 1), (91, .getfield 9, 3), (94, .bipush 6, 2), (96, .iaload, 1), (97, .if_icmp .ge 81, 3), (100, .aload_n 0, 1), (101, .iload_n 1, 1), (102, .iconst 2, 1), (103, .invokevirtual 61, 3), (106, .ifCond .ne 72, 3), (109, .aload_n 0, 1), (110, .iload 5, 2), (112, .iconst 2, 1), (113, .invokevirtual 61, 3), (116, .bipush 40, 2), (118, .if_icmp .ne 54, 3), (121, .iload_n 2, 1), (122, .iload 5, 2), (124, .ishr, 1), (125, .iconst 1, 1), (126, .iand, 1), (127, .ifCond .ne 45, 3), (130, .aload_n 0, 1), (131, .getfield 31, 3), (134, .iload_n 1, 1), (135, .iload 5, 2), (137, .iastore, 1), (138, .aload_n 0, 1), (139, .iload_n 1, 1), (140, .iconst 1, 1), (141, .iadd, 1), (142, .iload_n 2, 1), (143, .iconst 1, 1), (144, .iload 5, 2), (146, .ishl, 1), (147, .ior, 1), (148, .iload_n 3, 1), (149, .iconst 1, 1), (150, .iadd, 1), (151, .iload 4, 2), (153, .aload_n 0, 1), (154, .iload_n 1, 1), (155, .invokevirtual 91, 3), (158, .aload_n 0, 1), (159, .iload 5, 2), (161, .invokevirtual 91, 3), (164, .isub, 1), (165, .invokestatic 252, 3), (168, .iadd, 1), (169, .invokevirtual 255, 3), (172, .iinc 5 1, 3), (175, .goto (-87), 3)]
theorem tX10_pairs_0_ok : ∀ q ∈ tX10_pairs_0, decode cX10_pairs q.1 = .ok (q.2.1, q.2.2) := by decide +kernel
def tX10_pairs_1 : List (Nat × Instr × Nat) := [(178, .aload_n 0, 1), (179, .getfield 31, 3), (182, .iload_n 1, 1), (183, .iconst (-1), 1), (184, .iastore, 1), (185, .aload_n 0, 1), (186, .iload_n 1, 1), (187, .iconst 1, 1), (188, .iadd, 1), (189, .iload_n 2, 1), (190, .iload_n 3, 1), (191, .iload 4, 2), (193, .invokevirtual 255, 3), (196, .return_, 1)]
theorem tX10_pairs_1_ok : ∀ q ∈ tX10_pairs_1, decode cX10_pairs q.1 = .ok (q.2.1, q.2.2) := by decide +kernel
theorem pX10_pairs_0 : At cX10_pairs 0 (.iload_n 1) 1 1 := ⟨tX10_pairs_0_ok (0, .iload_n 1, 1) (List.mem_of_getElem? (i := 0) rfl), rfl⟩
theorem pX10_pairs_1 : At cX10_pairs 1 (.aload_n 0) 1 2 := ⟨tX10_pairs_0_ok (1, .aload_n 0, 1) (List.mem_of_getElem? (i := 1) rfl), rfl⟩
theorem pX10_pairs_2 : At cX10_pairs 2 (.getfield 9) 3 5 := ⟨tX10_pairs_0_ok (2, .getfield 9, 3) (List.mem_of_getElem? (i := 2) rfl), rfl⟩
theorem pX10_pairs_5 : At cX10_pairs 5 (.bipush 6) 2 7 := ⟨tX10_pairs_0_ok (5, .bipush 6, 2) (List.mem_of_getElem? (i := 3) rfl), rfl⟩
theorem pX10_pairs_7 : At cX10_pairs 7 (.iaload) 1 8 := ⟨tX10_pairs_0_ok (7, .iaload, 1) (List.mem_of_getElem? (i := 4) rfl), rfl⟩
theorem pX10_pairs_8 : Bt cX10_pairs 8 (.if_icmp .ne 70) 70 78 11 := ⟨tX10_pairs_0_ok (8, .if_icmp .ne 70, 3) (List.mem_of_getElem? (i := 5) rfl), by decide, rfl⟩
theorem pX10_pairs_11 : At cX10_pairs 11 (.iload_n 3) 1 12 := ⟨tX10_pairs_0_ok (11, .iload_n 3, 1) (List.mem_of_getElem? (i := 6) rfl), rfl⟩
theorem pX10_pairs_12 : At cX10_pairs 12 (.aload_n 0) 1 13 := ⟨tX10_pairs_0_ok (12, .aload_n 0, 1) (List.mem_of_getElem? (i := 7) rfl), rfl⟩
theorem pX10_pairs_13 : At cX10_pairs 13 (.getfield 246) 3 16 := ⟨tX10_pairs_0_ok (13, .getfield 246, 3) (List.mem_of_getElem? (i := 8) rfl), rfl⟩
theorem pX10_pairs_16 : Bt cX10_pairs 16 (.if_icmp .gt 20) 20 36 19 := ⟨tX10_pairs_0_ok (16, .if_icmp .gt 20, 3) (List.mem_of_getElem? (i := 9) rfl), by decide, rfl⟩
theorem pX10_pairs_19 : At cX10_pairs 19 (.iload_n 3) 1 20 := ⟨tX10_pairs_0_ok (19, .iload_n 3, 1) (List.mem_of_getElem? (i := 10) rfl), rfl⟩
theorem pX10_pairs_20 : At cX10_pairs 20 (.aload_n 0) 1 21 := ⟨tX10_pairs_0_ok (20, .aload_n 0, 1) (List.mem_of_getElem? (i := 11) rfl), rfl⟩
theorem pX10_pairs_21 : At cX10_pairs 21 (.getfield 246) 3 24 := ⟨tX10_pairs_0_ok (21, .getfield 246, 3) (List.mem_of_getElem? (i := 12) rfl), rfl⟩
theorem pX10_pairs_24 : Bt cX10_pairs 24 (.if_icmp .ne 53) 53 77 27 := ⟨tX10_pairs_0_ok (24, .if_icmp .ne 53, 3) (List.mem_of_getElem? (i := 13) rfl), by decide, rfl⟩
theorem pX10_pairs_27 : At cX10_pairs 27 (.iload 4) 2 29 := ⟨tX10_pairs_0_ok (27, .iload 4, 2) (List.mem_of_getElem? (i := 14) rfl), rfl⟩
theorem pX10_pairs_29 : At cX10_pairs 29 (.aload_n 0) 1 30 := ⟨tX10_pairs_0_ok (29, .aload_n 0, 1) (List.mem_of_getElem? (i := 15) rfl), rfl⟩
theorem pX10_pairs_30 : At cX10_pairs 30 (.getfield 249) 3 33 := ⟨tX10_pairs_0_ok (30, .getfield 249, 3) (List.mem_of_getElem? (i := 16) rfl), rfl⟩
theorem pX10_pairs_33 : Bt cX10_pairs 33 (.if_icmp .ge 44) 44 77 36 := ⟨tX10_pairs_0_ok (33, .if_icmp .ge 44, 3) (List.mem_of_getElem? (i := 17) rfl), by decide, rfl⟩
theorem pX10_pairs_36 : At cX10_pairs 36 (.aload_n 0) 1 37 := ⟨tX10_pairs_0_ok (36, .aload_n 0, 1) (List.mem_of_getElem? (i := 18) rfl), rfl⟩
theorem pX10_pairs_37 : At cX10_pairs 37 (.iload_n 3) 1 38 := ⟨tX10_pairs_0_ok (37, .iload_n 3, 1) (List.mem_of_getElem? (i := 19) rfl), rfl⟩
theorem pX10_pairs_38 : At cX10_pairs 38 (.putfield 246) 3 41 := ⟨tX10_pairs_0_ok (38, .putfield 246, 3) (List.mem_of_getElem? (i := 20) rfl), rfl⟩
theorem pX10_pairs_41 : At cX10_pairs 41 (.aload_n 0) 1 42 := ⟨tX10_pairs_0_ok (41, .aload_n 0, 1) (List.mem_of_getElem? (i := 21) rfl), rfl⟩
theorem pX10_pairs_42 : At cX10_pairs 42 (.iload 4) 2 44 := ⟨tX10_pairs_0_ok (42, .iload 4, 2) (List.mem_of_getElem? (i := 22) rfl), rfl⟩
theorem pX10_pairs_44 : At cX10_pairs 44 (.putfield 249) 3 47 := ⟨tX10_pairs_0_ok (44, .putfield 249, 3) (List.mem_of_getElem? (i := 23) rfl), rfl⟩
theorem pX10_pairs_47 : At cX10_pairs 47 (.iconst 0) 1 48 := ⟨tX10_pairs_0_ok (47, .iconst 0, 1) (List.mem_of_getElem? (i := 24) rfl), rfl⟩
theorem pX10_pairs_48 : At cX10_pairs 48 (.istore 5) 2 50 := ⟨tX10_pairs_0_ok (48, .istore 5, 2) (List.mem_of_getElem? (i := 25) rfl), rfl⟩
theorem pX10_pairs_50 : At cX10_pairs 50 (.iload 5) 2 52 := ⟨tX10_pairs_0_ok (50, .iload 5, 2) (List.mem_of_getElem? (i := 26) rfl), rfl⟩
theorem pX10_pairs_52 : At cX10_pairs 52 (.bipush 8) 2 54 := ⟨tX10_pairs_0_ok (52, .bipush 8, 2) (List.mem_of_getElem? (i := 27) rfl), rfl⟩
theorem pX10_pairs_54 : Bt cX10_pairs 54 (.if_icmp .ge 23) 23 77 57 := ⟨tX10_pairs_0_ok (54, .if_icmp .ge 23, 3) (List.mem_of_getElem? (i := 28) rfl), by decide, rfl⟩
theorem pX10_pairs_57 : At cX10_pairs 57 (.aload_n 0) 1 58 := ⟨tX10_pairs_0_ok (57, .aload_n 0, 1) (List.mem_of_getElem? (i := 29) rfl), rfl⟩
theorem pX10_pairs_58 : At cX10_pairs 58 (.getfield 34) 3 61 := ⟨tX10_pairs_0_ok (58, .getfield 34, 3) (List.mem_of_getElem? (i := 30) rfl), rfl⟩
theorem pX10_pairs_61 : At cX10_pairs 61 (.iload 5) 2 63 := ⟨tX10_pairs_0_ok (61, .iload 5, 2) (List.mem_of_getElem? (i := 31) rfl), rfl⟩
theorem pX10_pairs_63 : At cX10_pairs 63 (.aload_n 0) 1 64 := ⟨tX10_pairs_0_ok (63, .aload_n 0, 1) (List.mem_of_getElem? (i := 32) rfl), rfl⟩
theorem pX10_pairs_64 : At cX10_pairs 64 (.getfield 31) 3 67 := ⟨tX10_pairs_0_ok (64, .getfield 31, 3) (List.mem_of_getElem? (i := 33) rfl), rfl⟩
theorem pX10_pairs_67 : At cX10_pairs 67 (.iload 5) 2 69 := ⟨tX10_pairs_0_ok (67, .iload 5, 2) (List.mem_of_getElem? (i := 34) rfl), rfl⟩
theorem pX10_pairs_69 : At cX10_pairs 69 (.iaload) 1 70 := ⟨tX10_pairs_0_ok (69, .iaload, 1) (List.mem_of_getElem? (i := 35) rfl), rfl⟩
theorem pX10_pairs_70 : At cX10_pairs 70 (.iastore) 1 71 := ⟨tX10_pairs_0_ok (70, .iastore, 1) (List.mem_of_getElem? (i := 36) rfl), rfl⟩
theorem pX10_pairs_71 : At cX10_pairs 71 (.iinc 5 1) 3 74 := ⟨tX10_pairs_0_ok (71, .iinc 5 1, 3) (List.mem_of_getElem? (i := 37) rfl), rfl⟩
theorem pX10_pairs_74 : Bt cX10_pairs 74 (.goto (-24)) (-24) 50 77 := ⟨tX10_pairs_0_ok (74, .goto (-24), 3) (List.mem_of_getElem? (i := 38) rfl), by decide, rfl⟩
theorem pX10_pairs_77 : At cX10_pairs 77 (.return_) 1 78 := ⟨tX10_pairs_0_ok (77, .return_, 1) (List.mem_of_getElem? (i := 39) rfl), rfl⟩
theorem pX10_pairs_78 : At cX10_pairs 78 (.aload_n 0) 1 79 := ⟨tX10_pairs_0_ok (78, .aload_n 0, 1) (List.mem_of_getElem? (i := 40) rfl), rfl⟩
theorem pX10_pairs_79 : At cX10_pairs 79 (.getfield 31) 3 82 := ⟨tX10_pairs_0_ok (79, .getfield 31, 3) (List.mem_of_getElem? (i := 41) rfl), rfl⟩
theorem pX10_pairs_82 : At cX10_pairs 82 (.iload_n 1) 1 83 := ⟨tX10_pairs_0_ok (82, .iload_n 1, 1) (List.mem_of_getElem? (i := 42) rfl), rfl⟩
theorem pX10_pairs_83 : At cX10_pairs 83 (.iconst (-1)) 1 84 := ⟨tX10_pairs_0_ok (83, .iconst (-1), 1) (List.mem_of_getElem? (i := 43) rfl), rfl⟩
theorem pX10_pairs_84 : At cX10_pairs 84 (.iastore) 1 85 := ⟨tX10_pairs_0_ok (84, .iastore, 1) (List.mem_of_getElem? (i := 44) rfl), rfl⟩
theorem pX10_pairs_85 : At cX10_pairs 85 (.iconst 0) 1 86 := ⟨tX10_pairs_0_ok (85, .iconst 0, 1) (List.mem_of_getElem? (i := 45) rfl), rfl⟩
theorem pX10_pairs_86 : At cX10_pairs 86 (.istore 5) 2 88 := ⟨tX10_pairs_0_ok (86, .istore 5, 2) (List.mem_of_getElem? (i := 46) rfl), rfl⟩
theorem pX10_pairs_88 : At cX10_pairs 88 (.iload 5) 2 90 := ⟨tX10_pairs_0_ok (88, .iload 5, 2) (List.mem_of_getElem? (i := 47) rfl), rfl⟩
theorem pX10_pairs_90 : At cX10_pairs 90 (.aload_n 0) 1 91 := ⟨tX10_pairs_0_ok (90, .aload_n 0, 1) (List.mem_of_getElem? (i := 48) rfl), rfl⟩
theorem pX10_pairs_91 : At cX10_pairs 91 (.getfield 9) 3 94 := ⟨tX10_pairs_0_ok (91, .getfield 9, 3) (List.mem_of_getElem? (i := 49) rfl), rfl⟩
theorem pX10_pairs_94 : At cX10_pairs 94 (.bipush 6) 2 96 := ⟨tX10_pairs_0_ok (94, .bipush 6, 2) (List.mem_of_getElem? (i := 50) rfl), rfl⟩
theorem pX10_pairs_96 : At cX10_pairs 96 (.iaload) 1 97 := ⟨tX10_pairs_0_ok (96, .iaload, 1) (List.mem_of_getElem? (i := 51) rfl), rfl⟩
theorem pX10_pairs_97 : Bt cX10_pairs 97 (.if_icmp .ge 81) 81 178 100 := ⟨tX10_pairs_0_ok (97, .if_icmp .ge 81, 3) (List.mem_of_getElem? (i := 52) rfl), by decide, rfl⟩
theorem pX10_pairs_100 : At cX10_pairs 100 (.aload_n 0) 1 101 := ⟨tX10_pairs_0_ok (100, .aload_n 0, 1) (List.mem_of_getElem? (i := 53) rfl), rfl⟩
theorem pX10_pairs_101 : At cX10_pairs 101 (.iload_n 1) 1 102 := ⟨tX10_pairs_0_ok (101, .iload_n 1, 1) (List.mem_of_getElem? (i := 54) rfl), rfl⟩
theorem pX10_pairs_102 : At cX10_pairs 102 (.iconst 2) 1 103 := ⟨tX10_pairs_0_ok (102, .iconst 2, 1) (List.mem_of_getElem? (i := 55) rfl), rfl⟩
theorem pX10_pairs_103 : At cX10_pairs 103 (.invokevirtual 61) 3 106 := ⟨tX10_pairs_0_ok (103, .invokevirtual 61, 3) (List.mem_of_getElem? (i := 56) rfl), rfl⟩
theorem pX10_pairs_106 : Bt cX10_pairs 106 (.ifCond .ne 72) 72 178 109 := ⟨tX10_pairs_0_ok (106, .ifCond .ne 72, 3) (List.mem_of_getElem? (i := 57) rfl), by decide, rfl⟩
theorem pX10_pairs_109 : At cX10_pairs 109 (.aload_n 0) 1 110 := ⟨tX10_pairs_0_ok (109, .aload_n 0, 1) (List.mem_of_getElem? (i := 58) rfl), rfl⟩
theorem pX10_pairs_110 : At cX10_pairs 110 (.iload 5) 2 112 := ⟨tX10_pairs_0_ok (110, .iload 5, 2) (List.mem_of_getElem? (i := 59) rfl), rfl⟩
theorem pX10_pairs_112 : At cX10_pairs 112 (.iconst 2) 1 113 := ⟨tX10_pairs_0_ok (112, .iconst 2, 1) (List.mem_of_getElem? (i := 60) rfl), rfl⟩
theorem pX10_pairs_113 : At cX10_pairs 113 (.invokevirtual 61) 3 116 := ⟨tX10_pairs_0_ok (113, .invokevirtual 61, 3) (List.mem_of_getElem? (i := 61) rfl), rfl⟩
theorem pX10_pairs_116 : At cX10_pairs 116 (.bipush 40) 2 118 := ⟨tX10_pairs_0_ok (116, .bipush 40, 2) (List.mem_of_getElem? (i := 62) rfl), rfl⟩
theorem pX10_pairs_118 : Bt cX10_pairs 118 (.if_icmp .ne 54) 54 172 121 := ⟨tX10_pairs_0_ok (118, .if_icmp .ne 54, 3) (List.mem_of_getElem? (i := 63) rfl), by decide, rfl⟩
theorem pX10_pairs_121 : At cX10_pairs 121 (.iload_n 2) 1 122 := ⟨tX10_pairs_0_ok (121, .iload_n 2, 1) (List.mem_of_getElem? (i := 64) rfl), rfl⟩
theorem pX10_pairs_122 : At cX10_pairs 122 (.iload 5) 2 124 := ⟨tX10_pairs_0_ok (122, .iload 5, 2) (List.mem_of_getElem? (i := 65) rfl), rfl⟩
theorem pX10_pairs_124 : At cX10_pairs 124 (.ishr) 1 125 := ⟨tX10_pairs_0_ok (124, .ishr, 1) (List.mem_of_getElem? (i := 66) rfl), rfl⟩
theorem pX10_pairs_125 : At cX10_pairs 125 (.iconst 1) 1 126 := ⟨tX10_pairs_0_ok (125, .iconst 1, 1) (List.mem_of_getElem? (i := 67) rfl), rfl⟩
theorem pX10_pairs_126 : At cX10_pairs 126 (.iand) 1 127 := ⟨tX10_pairs_0_ok (126, .iand, 1) (List.mem_of_getElem? (i := 68) rfl), rfl⟩
theorem pX10_pairs_127 : Bt cX10_pairs 127 (.ifCond .ne 45) 45 172 130 := ⟨tX10_pairs_0_ok (127, .ifCond .ne 45, 3) (List.mem_of_getElem? (i := 69) rfl), by decide, rfl⟩
theorem pX10_pairs_130 : At cX10_pairs 130 (.aload_n 0) 1 131 := ⟨tX10_pairs_0_ok (130, .aload_n 0, 1) (List.mem_of_getElem? (i := 70) rfl), rfl⟩
theorem pX10_pairs_131 : At cX10_pairs 131 (.getfield 31) 3 134 := ⟨tX10_pairs_0_ok (131, .getfield 31, 3) (List.mem_of_getElem? (i := 71) rfl), rfl⟩
theorem pX10_pairs_134 : At cX10_pairs 134 (.iload_n 1) 1 135 := ⟨tX10_pairs_0_ok (134, .iload_n 1, 1) (List.mem_of_getElem? (i := 72) rfl), rfl⟩
theorem pX10_pairs_135 : At cX10_pairs 135 (.iload 5) 2 137 := ⟨tX10_pairs_0_ok (135, .iload 5, 2) (List.mem_of_getElem? (i := 73) rfl), rfl⟩
theorem pX10_pairs_137 : At cX10_pairs 137 (.iastore) 1 138 := ⟨tX10_pairs_0_ok (137, .iastore, 1) (List.mem_of_getElem? (i := 74) rfl), rfl⟩
theorem pX10_pairs_138 : At cX10_pairs 138 (.aload_n 0) 1 139 := ⟨tX10_pairs_0_ok (138, .aload_n 0, 1) (List.mem_of_getElem? (i := 75) rfl), rfl⟩
theorem pX10_pairs_139 : At cX10_pairs 139 (.iload_n 1) 1 140 := ⟨tX10_pairs_0_ok (139, .iload_n 1, 1) (List.mem_of_getElem? (i := 76) rfl), rfl⟩
theorem pX10_pairs_140 : At cX10_pairs 140 (.iconst 1) 1 141 := ⟨tX10_pairs_0_ok (140, .iconst 1, 1) (List.mem_of_getElem? (i := 77) rfl), rfl⟩
theorem pX10_pairs_141 : At cX10_pairs 141 (.iadd) 1 142 := ⟨tX10_pairs_0_ok (141, .iadd, 1) (List.mem_of_getElem? (i := 78) rfl), rfl⟩
theorem pX10_pairs_142 : At cX10_pairs 142 (.iload_n 2) 1 143 := ⟨tX10_pairs_0_ok (142, .iload_n 2, 1) (List.mem_of_getElem? (i := 79) rfl), rfl⟩
theorem pX10_pairs_143 : At cX10_pairs 143 (.iconst 1) 1 144 := ⟨tX10_pairs_0_ok (143, .iconst 1, 1) (List.mem_of_getElem? (i := 80) rfl), rfl⟩
theorem pX10_pairs_144 : At cX10_pairs 144 (.iload 5) 2 146 := ⟨tX10_pairs_0_ok (144, .iload 5, 2) (List.mem_of_getElem? (i := 81) rfl), rfl⟩
theorem pX10_pairs_146 : At cX10_pairs 146 (.ishl) 1 147 := ⟨tX10_pairs_0_ok (146, .ishl, 1) (List.mem_of_getElem? (i := 82) rfl), rfl⟩
theorem pX10_pairs_147 : At cX10_pairs 147 (.ior) 1 148 := ⟨tX10_pairs_0_ok (147, .ior, 1) (List.mem_of_getElem? (i := 83) rfl), rfl⟩
theorem pX10_pairs_148 : At cX10_pairs 148 (.iload_n 3) 1 149 := ⟨tX10_pairs_0_ok (148, .iload_n 3, 1) (List.mem_of_getElem? (i := 84) rfl), rfl⟩
theorem pX10_pairs_149 : At cX10_pairs 149 (.iconst 1) 1 150 := ⟨tX10_pairs_0_ok (149, .iconst 1, 1) (List.mem_of_getElem? (i := 85) rfl), rfl⟩
theorem pX10_pairs_150 : At cX10_pairs 150 (.iadd) 1 151 := ⟨tX10_pairs_0_ok (150, .iadd, 1) (List.mem_of_getElem? (i := 86) rfl), rfl⟩
theorem pX10_pairs_151 : At cX10_pairs 151 (.iload 4) 2 153 := ⟨tX10_pairs_0_ok (151, .iload 4, 2) (List.mem_of_getElem? (i := 87) rfl), rfl⟩
theorem pX10_pairs_153 : At cX10_pairs 153 (.aload_n 0) 1 154 := ⟨tX10_pairs_0_ok (153, .aload_n 0, 1) (List.mem_of_getElem? (i := 88) rfl), rfl⟩
theorem pX10_pairs_154 : At cX10_pairs 154 (.iload_n 1) 1 155 := ⟨tX10_pairs_0_ok (154, .iload_n 1, 1) (List.mem_of_getElem? (i := 89) rfl), rfl⟩
theorem pX10_pairs_155 : At cX10_pairs 155 (.invokevirtual 91) 3 158 := ⟨tX10_pairs_0_ok (155, .invokevirtual 91, 3) (List.mem_of_getElem? (i := 90) rfl), rfl⟩
theorem pX10_pairs_158 : At cX10_pairs 158 (.aload_n 0) 1 159 := ⟨tX10_pairs_0_ok (158, .aload_n 0, 1) (List.mem_of_getElem? (i := 91) rfl), rfl⟩
theorem pX10_pairs_159 : At cX10_pairs 159 (.iload 5) 2 161 := ⟨tX10_pairs_0_ok (159, .iload 5, 2) (List.mem_of_getElem? (i := 92) rfl), rfl⟩
theorem pX10_pairs_161 : At cX10_pairs 161 (.invokevirtual 91) 3 164 := ⟨tX10_pairs_0_ok (161, .invokevirtual 91, 3) (List.mem_of_getElem? (i := 93) rfl), rfl⟩
theorem pX10_pairs_164 : At cX10_pairs 164 (.isub) 1 165 := ⟨tX10_pairs_0_ok (164, .isub, 1) (List.mem_of_getElem? (i := 94) rfl), rfl⟩
theorem pX10_pairs_165 : At cX10_pairs 165 (.invokestatic 252) 3 168 := ⟨tX10_pairs_0_ok (165, .invokestatic 252, 3) (List.mem_of_getElem? (i := 95) rfl), rfl⟩
theorem pX10_pairs_168 : At cX10_pairs 168 (.iadd) 1 169 := ⟨tX10_pairs_0_ok (168, .iadd, 1) (List.mem_of_getElem? (i := 96) rfl), rfl⟩
theorem pX10_pairs_169 : At cX10_pairs 169 (.invokevirtual 255) 3 172 := ⟨tX10_pairs_0_ok (169, .invokevirtual 255, 3) (List.mem_of_getElem? (i := 97) rfl), rfl⟩
theorem pX10_pairs_172 : At cX10_pairs 172 (.iinc 5 1) 3 175 := ⟨tX10_pairs_0_ok (172, .iinc 5 1, 3) (List.mem_of_getElem? (i := 98) rfl), rfl⟩
theorem pX10_pairs_175 : Bt cX10_pairs 175 (.goto (-87)) (-87) 88 178 := ⟨tX10_pairs_0_ok (175, .goto (-87), 3) (List.mem_of_getElem? (i := 99) rfl), by decide, rfl⟩
theorem pX10_pairs_178 : At cX10_pairs 178 (.aload_n 0) 1 179 := ⟨tX10_pairs_1_ok (178, .aload_n 0, 1) (List.mem_of_getElem? (i := 0) rfl), rfl⟩
theorem pX10_pairs_179 : At cX10_pairs 179 (.getfield 31) 3 182 := ⟨tX10_pairs_1_ok (179, .getfield 31, 3) (List.mem_of_getElem? (i := 1) rfl), rfl⟩
theorem pX10_pairs_182 : At cX10_pairs 182 (.iload_n 1) 1 183 := ⟨tX10_pairs_1_ok (182, .iload_n 1, 1) (List.mem_of_getElem? (i := 2) rfl), rfl⟩
theorem pX10_pairs_183 : At cX10_pairs 183 (.iconst (-1)) 1 184 := ⟨tX10_pairs_1_ok (183, .iconst (-1), 1) (List.mem_of_getElem? (i := 3) rfl), rfl⟩
theorem pX10_pairs_184 : At cX10_pairs 184 (.iastore) 1 185 := ⟨tX10_pairs_1_ok (184, .iastore, 1) (List.mem_of_getElem? (i := 4) rfl), rfl⟩
theorem pX10_pairs_185 : At cX10_pairs 185 (.aload_n 0) 1 186 := ⟨tX10_pairs_1_ok (185, .aload_n 0, 1) (List.mem_of_getElem? (i := 5) rfl), rfl⟩
theorem pX10_pairs_186 : At cX10_pairs 186 (.iload_n 1) 1 187 := ⟨tX10_pairs_1_ok (186, .iload_n 1, 1) (List.mem_of_getElem? (i := 6) rfl), rfl⟩
theorem pX10_pairs_187 : At cX10_pairs 187 (.iconst 1) 1 188 := ⟨tX10_pairs_1_ok (187, .iconst 1, 1) (List.mem_of_getElem? (i := 7) rfl), rfl⟩
theorem pX10_pairs_188 : At cX10_pairs 188 (.iadd) 1 189 := ⟨tX10_pairs_1_ok (188, .iadd, 1) (List.mem_of_getElem? (i := 8) rfl), rfl⟩
theorem pX10_pairs_189 : At cX10_pairs 189 (.iload_n 2) 1 190 := ⟨tX10_pairs_1_ok (189, .iload_n 2, 1) (List.mem_of_getElem? (i := 9) rfl), rfl⟩
theorem pX10_pairs_190 : At cX10_pairs 190 (.iload_n 3) 1 191 := ⟨tX10_pairs_1_ok (190, .iload_n 3, 1) (List.mem_of_getElem? (i := 10) rfl), rfl⟩
theorem pX10_pairs_191 : At cX10_pairs 191 (.iload 4) 2 193 := ⟨tX10_pairs_1_ok (191, .iload 4, 2) (List.mem_of_getElem? (i := 11) rfl), rfl⟩
theorem pX10_pairs_193 : At cX10_pairs 193 (.invokevirtual 255) 3 196 := ⟨tX10_pairs_1_ok (193, .invokevirtual 255, 3) (List.mem_of_getElem? (i := 12) rfl), rfl⟩
theorem pX10_pairs_196 : At cX10_pairs 196 (.return_) 1 197 := ⟨tX10_pairs_1_ok (196, .return_, 1) (List.mem_of_getElem? (i := 13) rfl), rfl⟩
def tX10_mateOf_0 : List (Nat × Instr × Nat) := [(0, .iconst 0, 1), (1, .istore_n 2, 1), (2, .iload_n 2, 1), (3, .aload_n 0, 1), (4, .getfield 9, 3), (7, .bipush 6, 2), (9, .iaload, 1), (10, .if_icmp .ge 21, 3), (13, .aload_n 0, 1), (14, .getfield 34, 3), (17, .iload_n 2, 1), (18, .iaload, 1), (19, .iload_n 1, 1), (20, .if_icmp .ne 5, 3), (23, .iload_n 2, 1), (24, .ireturn, 1), (25, .iinc 2 1, 3), (28, .goto (-26), 3), (31, .aload_n 0, 1), (32, .getfield 34, 3), (35, .iload_n 1, 1), (36, .iaload, 1), (37, .ireturn, 1)]
theorem tX10_mateOf_0_ok : ∀ q ∈ tX10_mateOf_0, decode cX10_mateOf q.1 = .ok (q.2.1, q.2.2) := by decide +kernel
theorem pX10_mateOf_0 : At cX10_mateOf 0 (.iconst 0) 1 1 := ⟨tX10_mateOf_0_ok (0, .iconst 0, 1) (List.mem_of_getElem? (i := 0) rfl), rfl⟩
theorem pX10_mateOf_1 : At cX10_mateOf 1 (.istore_n 2) 1 2 := ⟨tX10_mateOf_0_ok (1, .istore_n 2, 1) (List.mem_of_getElem? (i := 1) rfl), rfl⟩
theorem pX10_mateOf_2 : At cX10_mateOf 2 (.iload_n 2) 1 3 := ⟨tX10_mateOf_0_ok (2, .iload_n 2, 1) (List.mem_of_getElem? (i := 2) rfl), rfl⟩
theorem pX10_mateOf_3 : At cX10_mateOf 3 (.aload_n 0) 1 4 := ⟨tX10_mateOf_0_ok (3, .aload_n 0, 1) (List.mem_of_getElem? (i := 3) rfl), rfl⟩
theorem pX10_mateOf_4 : At cX10_mateOf 4 (.getfield 9) 3 7 := ⟨tX10_mateOf_0_ok (4, .getfield 9, 3) (List.mem_of_getElem? (i := 4) rfl), rfl⟩
theorem pX10_mateOf_7 : At cX10_mateOf 7 (.bipush 6) 2 9 := ⟨tX10_mateOf_0_ok (7, .bipush 6, 2) (List.mem_of_getElem? (i := 5) rfl), rfl⟩
theorem pX10_mateOf_9 : At cX10_mateOf 9 (.iaload) 1 10 := ⟨tX10_mateOf_0_ok (9, .iaload, 1) (List.mem_of_getElem? (i := 6) rfl), rfl⟩
theorem pX10_mateOf_10 : Bt cX10_mateOf 10 (.if_icmp .ge 21) 21 31 13 := ⟨tX10_mateOf_0_ok (10, .if_icmp .ge 21, 3) (List.mem_of_getElem? (i := 7) rfl), by decide, rfl⟩
theorem pX10_mateOf_13 : At cX10_mateOf 13 (.aload_n 0) 1 14 := ⟨tX10_mateOf_0_ok (13, .aload_n 0, 1) (List.mem_of_getElem? (i := 8) rfl), rfl⟩
theorem pX10_mateOf_14 : At cX10_mateOf 14 (.getfield 34) 3 17 := ⟨tX10_mateOf_0_ok (14, .getfield 34, 3) (List.mem_of_getElem? (i := 9) rfl), rfl⟩
theorem pX10_mateOf_17 : At cX10_mateOf 17 (.iload_n 2) 1 18 := ⟨tX10_mateOf_0_ok (17, .iload_n 2, 1) (List.mem_of_getElem? (i := 10) rfl), rfl⟩
theorem pX10_mateOf_18 : At cX10_mateOf 18 (.iaload) 1 19 := ⟨tX10_mateOf_0_ok (18, .iaload, 1) (List.mem_of_getElem? (i := 11) rfl), rfl⟩
theorem pX10_mateOf_19 : At cX10_mateOf 19 (.iload_n 1) 1 20 := ⟨tX10_mateOf_0_ok (19, .iload_n 1, 1) (List.mem_of_getElem? (i := 12) rfl), rfl⟩
theorem pX10_mateOf_20 : Bt cX10_mateOf 20 (.if_icmp .ne 5) 5 25 23 := ⟨tX10_mateOf_0_ok (20, .if_icmp .ne 5, 3) (List.mem_of_getElem? (i := 13) rfl), by decide, rfl⟩
theorem pX10_mateOf_23 : At cX10_mateOf 23 (.iload_n 2) 1 24 := ⟨tX10_mateOf_0_ok (23, .iload_n 2, 1) (List.mem_of_getElem? (i := 14) rfl), rfl⟩
theorem pX10_mateOf_24 : At cX10_mateOf 24 (.ireturn) 1 25 := ⟨tX10_mateOf_0_ok (24, .ireturn, 1) (List.mem_of_getElem? (i := 15) rfl), rfl⟩
theorem pX10_mateOf_25 : At cX10_mateOf 25 (.iinc 2 1) 3 28 := ⟨tX10_mateOf_0_ok (25, .iinc 2 1, 3) (List.mem_of_getElem? (i := 16) rfl), rfl⟩
theorem pX10_mateOf_28 : Bt cX10_mateOf 28 (.goto (-26)) (-26) 2 31 := ⟨tX10_mateOf_0_ok (28, .goto (-26), 3) (List.mem_of_getElem? (i := 17) rfl), by decide, rfl⟩
theorem pX10_mateOf_31 : At cX10_mateOf 31 (.aload_n 0) 1 32 := ⟨tX10_mateOf_0_ok (31, .aload_n 0, 1) (List.mem_of_getElem? (i := 18) rfl), rfl⟩
theorem pX10_mateOf_32 : At cX10_mateOf 32 (.getfield 34) 3 35 := ⟨tX10_mateOf_0_ok (32, .getfield 34, 3) (List.mem_of_getElem? (i := 19) rfl), rfl⟩
theorem pX10_mateOf_35 : At cX10_mateOf 35 (.iload_n 1) 1 36 := ⟨tX10_mateOf_0_ok (35, .iload_n 1, 1) (List.mem_of_getElem? (i := 20) rfl), rfl⟩
theorem pX10_mateOf_36 : At cX10_mateOf 36 (.iaload) 1 37 := ⟨tX10_mateOf_0_ok (36, .iaload, 1) (List.mem_of_getElem? (i := 21) rfl), rfl⟩
theorem pX10_mateOf_37 : At cX10_mateOf 37 (.ireturn) 1 38 := ⟨tX10_mateOf_0_ok (37, .ireturn, 1) (List.mem_of_getElem? (i := 22) rfl), rfl⟩
def tX10_lifts_0 : List (Nat × Instr × Nat) := [(0, .iload_n 1, 1), (1, .i2l, 1), (2, .ldc2_w 259, 3), (5, .aload_n 0, 1), (6, .getfield 9, 3), (9, .bipush 6, 2), (11, .iaload, 1), (12, .iconst 1, 1), (13, .isub, 1), (14, .i2l, 1), (15, .invokestatic 53, 3), (18, .ifCond .ne 9, 3), (21, .aload_n 0, 1), (22, .iconst 1, 1), (23, .invokevirtual 79, 3), (26, .ireturn, 1), (27, .aload_n 0, 1), (28, .iconst (-1), 1), (29, .putfield 246, 3), (32, .aload_n 0, 1), (33, .iconst 0, 1), (34, .putfield 249, 3), (37, .aload_n 0, 1), (38, .iconst 0, 1), (39, .iconst 0, 1), (40, .iconst 0, 1), (41, .iconst 0, 1), (42, .invokevirtual 255, 3), (45, .iload_n 1, 1), (46, .bipush (-2), 2), (48, .if_icmp .ne 10, 3), (51, .aload_n 0, 1), (52, .getfield 246, 3), (55, .goto 20, 3), (58, .iload_n 1, 1), (59, .iconst (-1), 1), (60, .if_icmp .ne 10, 3), (63, .aload_n 0, 1), (64, .getfield 249, 3), (67, .goto 8, 3), (70, .aload_n 0, 1), (71, .iload_n 1, 1), (72, .invokevirtual 261, 3), (75, .ireturn, 1)]
theorem tX10_lifts_0_ok : ∀ q ∈ tX10_lifts_0, decode cX10_lifts q.1 = .ok (q.2.1, q.2.2) := by decide +kernel
theorem pX10_lifts_0 : At cX10_lifts 0 (.iload_n 1) 1 1 := ⟨tX10_lifts_0_ok (0, .iload_n 1, 1) (List.mem_of_getElem? (i := 0) rfl), rfl⟩
theorem pX10_lifts_1 : At cX10_lifts 1 (.i2l) 1 2 := ⟨tX10_lifts_0_ok (1, .i2l, 1) (List.mem_of_getElem? (i := 1) rfl), rfl⟩
theorem pX10_lifts_2 : At cX10_lifts 2 (.ldc2_w 259) 3 5 := ⟨tX10_lifts_0_ok (2, .ldc2_w 259, 3) (List.mem_of_getElem? (i := 2) rfl), rfl⟩
theorem pX10_lifts_5 : At cX10_lifts 5 (.aload_n 0) 1 6 := ⟨tX10_lifts_0_ok (5, .aload_n 0, 1) (List.mem_of_getElem? (i := 3) rfl), rfl⟩
theorem pX10_lifts_6 : At cX10_lifts 6 (.getfield 9) 3 9 := ⟨tX10_lifts_0_ok (6, .getfield 9, 3) (List.mem_of_getElem? (i := 4) rfl), rfl⟩
theorem pX10_lifts_9 : At cX10_lifts 9 (.bipush 6) 2 11 := ⟨tX10_lifts_0_ok (9, .bipush 6, 2) (List.mem_of_getElem? (i := 5) rfl), rfl⟩
theorem pX10_lifts_11 : At cX10_lifts 11 (.iaload) 1 12 := ⟨tX10_lifts_0_ok (11, .iaload, 1) (List.mem_of_getElem? (i := 6) rfl), rfl⟩
theorem pX10_lifts_12 : At cX10_lifts 12 (.iconst 1) 1 13 := ⟨tX10_lifts_0_ok (12, .iconst 1, 1) (List.mem_of_getElem? (i := 7) rfl), rfl⟩
theorem pX10_lifts_13 : At cX10_lifts 13 (.isub) 1 14 := ⟨tX10_lifts_0_ok (13, .isub, 1) (List.mem_of_getElem? (i := 8) rfl), rfl⟩
theorem pX10_lifts_14 : At cX10_lifts 14 (.i2l) 1 15 := ⟨tX10_lifts_0_ok (14, .i2l, 1) (List.mem_of_getElem? (i := 9) rfl), rfl⟩
theorem pX10_lifts_15 : At cX10_lifts 15 (.invokestatic 53) 3 18 := ⟨tX10_lifts_0_ok (15, .invokestatic 53, 3) (List.mem_of_getElem? (i := 10) rfl), rfl⟩
theorem pX10_lifts_18 : Bt cX10_lifts 18 (.ifCond .ne 9) 9 27 21 := ⟨tX10_lifts_0_ok (18, .ifCond .ne 9, 3) (List.mem_of_getElem? (i := 11) rfl), by decide, rfl⟩
theorem pX10_lifts_21 : At cX10_lifts 21 (.aload_n 0) 1 22 := ⟨tX10_lifts_0_ok (21, .aload_n 0, 1) (List.mem_of_getElem? (i := 12) rfl), rfl⟩
theorem pX10_lifts_22 : At cX10_lifts 22 (.iconst 1) 1 23 := ⟨tX10_lifts_0_ok (22, .iconst 1, 1) (List.mem_of_getElem? (i := 13) rfl), rfl⟩
theorem pX10_lifts_23 : At cX10_lifts 23 (.invokevirtual 79) 3 26 := ⟨tX10_lifts_0_ok (23, .invokevirtual 79, 3) (List.mem_of_getElem? (i := 14) rfl), rfl⟩
theorem pX10_lifts_26 : At cX10_lifts 26 (.ireturn) 1 27 := ⟨tX10_lifts_0_ok (26, .ireturn, 1) (List.mem_of_getElem? (i := 15) rfl), rfl⟩
theorem pX10_lifts_27 : At cX10_lifts 27 (.aload_n 0) 1 28 := ⟨tX10_lifts_0_ok (27, .aload_n 0, 1) (List.mem_of_getElem? (i := 16) rfl), rfl⟩
theorem pX10_lifts_28 : At cX10_lifts 28 (.iconst (-1)) 1 29 := ⟨tX10_lifts_0_ok (28, .iconst (-1), 1) (List.mem_of_getElem? (i := 17) rfl), rfl⟩
theorem pX10_lifts_29 : At cX10_lifts 29 (.putfield 246) 3 32 := ⟨tX10_lifts_0_ok (29, .putfield 246, 3) (List.mem_of_getElem? (i := 18) rfl), rfl⟩
theorem pX10_lifts_32 : At cX10_lifts 32 (.aload_n 0) 1 33 := ⟨tX10_lifts_0_ok (32, .aload_n 0, 1) (List.mem_of_getElem? (i := 19) rfl), rfl⟩
theorem pX10_lifts_33 : At cX10_lifts 33 (.iconst 0) 1 34 := ⟨tX10_lifts_0_ok (33, .iconst 0, 1) (List.mem_of_getElem? (i := 20) rfl), rfl⟩
theorem pX10_lifts_34 : At cX10_lifts 34 (.putfield 249) 3 37 := ⟨tX10_lifts_0_ok (34, .putfield 249, 3) (List.mem_of_getElem? (i := 21) rfl), rfl⟩
theorem pX10_lifts_37 : At cX10_lifts 37 (.aload_n 0) 1 38 := ⟨tX10_lifts_0_ok (37, .aload_n 0, 1) (List.mem_of_getElem? (i := 22) rfl), rfl⟩
theorem pX10_lifts_38 : At cX10_lifts 38 (.iconst 0) 1 39 := ⟨tX10_lifts_0_ok (38, .iconst 0, 1) (List.mem_of_getElem? (i := 23) rfl), rfl⟩
theorem pX10_lifts_39 : At cX10_lifts 39 (.iconst 0) 1 40 := ⟨tX10_lifts_0_ok (39, .iconst 0, 1) (List.mem_of_getElem? (i := 24) rfl), rfl⟩
theorem pX10_lifts_40 : At cX10_lifts 40 (.iconst 0) 1 41 := ⟨tX10_lifts_0_ok (40, .iconst 0, 1) (List.mem_of_getElem? (i := 25) rfl), rfl⟩
theorem pX10_lifts_41 : At cX10_lifts 41 (.iconst 0) 1 42 := ⟨tX10_lifts_0_ok (41, .iconst 0, 1) (List.mem_of_getElem? (i := 26) rfl), rfl⟩
theorem pX10_lifts_42 : At cX10_lifts 42 (.invokevirtual 255) 3 45 := ⟨tX10_lifts_0_ok (42, .invokevirtual 255, 3) (List.mem_of_getElem? (i := 27) rfl), rfl⟩
theorem pX10_lifts_45 : At cX10_lifts 45 (.iload_n 1) 1 46 := ⟨tX10_lifts_0_ok (45, .iload_n 1, 1) (List.mem_of_getElem? (i := 28) rfl), rfl⟩
theorem pX10_lifts_46 : At cX10_lifts 46 (.bipush (-2)) 2 48 := ⟨tX10_lifts_0_ok (46, .bipush (-2), 2) (List.mem_of_getElem? (i := 29) rfl), rfl⟩
theorem pX10_lifts_48 : Bt cX10_lifts 48 (.if_icmp .ne 10) 10 58 51 := ⟨tX10_lifts_0_ok (48, .if_icmp .ne 10, 3) (List.mem_of_getElem? (i := 30) rfl), by decide, rfl⟩
theorem pX10_lifts_51 : At cX10_lifts 51 (.aload_n 0) 1 52 := ⟨tX10_lifts_0_ok (51, .aload_n 0, 1) (List.mem_of_getElem? (i := 31) rfl), rfl⟩
theorem pX10_lifts_52 : At cX10_lifts 52 (.getfield 246) 3 55 := ⟨tX10_lifts_0_ok (52, .getfield 246, 3) (List.mem_of_getElem? (i := 32) rfl), rfl⟩
theorem pX10_lifts_55 : Bt cX10_lifts 55 (.goto 20) 20 75 58 := ⟨tX10_lifts_0_ok (55, .goto 20, 3) (List.mem_of_getElem? (i := 33) rfl), by decide, rfl⟩
theorem pX10_lifts_58 : At cX10_lifts 58 (.iload_n 1) 1 59 := ⟨tX10_lifts_0_ok (58, .iload_n 1, 1) (List.mem_of_getElem? (i := 34) rfl), rfl⟩
theorem pX10_lifts_59 : At cX10_lifts 59 (.iconst (-1)) 1 60 := ⟨tX10_lifts_0_ok (59, .iconst (-1), 1) (List.mem_of_getElem? (i := 35) rfl), rfl⟩
theorem pX10_lifts_60 : Bt cX10_lifts 60 (.if_icmp .ne 10) 10 70 63 := ⟨tX10_lifts_0_ok (60, .if_icmp .ne 10, 3) (List.mem_of_getElem? (i := 36) rfl), by decide, rfl⟩
theorem pX10_lifts_63 : At cX10_lifts 63 (.aload_n 0) 1 64 := ⟨tX10_lifts_0_ok (63, .aload_n 0, 1) (List.mem_of_getElem? (i := 37) rfl), rfl⟩
theorem pX10_lifts_64 : At cX10_lifts 64 (.getfield 249) 3 67 := ⟨tX10_lifts_0_ok (64, .getfield 249, 3) (List.mem_of_getElem? (i := 38) rfl), rfl⟩
theorem pX10_lifts_67 : Bt cX10_lifts 67 (.goto 8) 8 75 70 := ⟨tX10_lifts_0_ok (67, .goto 8, 3) (List.mem_of_getElem? (i := 39) rfl), by decide, rfl⟩
theorem pX10_lifts_70 : At cX10_lifts 70 (.aload_n 0) 1 71 := ⟨tX10_lifts_0_ok (70, .aload_n 0, 1) (List.mem_of_getElem? (i := 40) rfl), rfl⟩
theorem pX10_lifts_71 : At cX10_lifts 71 (.iload_n 1) 1 72 := ⟨tX10_lifts_0_ok (71, .iload_n 1, 1) (List.mem_of_getElem? (i := 41) rfl), rfl⟩
theorem pX10_lifts_72 : At cX10_lifts 72 (.invokevirtual 261) 3 75 := ⟨tX10_lifts_0_ok (72, .invokevirtual 261, 3) (List.mem_of_getElem? (i := 42) rfl), rfl⟩
theorem pX10_lifts_75 : At cX10_lifts 75 (.ireturn) 1 76 := ⟨tX10_lifts_0_ok (75, .ireturn, 1) (List.mem_of_getElem? (i := 43) rfl), rfl⟩
def tX10_isSheet_0 : List (Nat × Instr × Nat) := [(0, .iload_n 0, 1), (1, .i2l, 1), (2, .lconst 0, 1), (3, .ldc2_w 264, 3), (6, .invokestatic 53, 3), (9, .ireturn, 1)]
theorem tX10_isSheet_0_ok : ∀ q ∈ tX10_isSheet_0, decode cX10_isSheet q.1 = .ok (q.2.1, q.2.2) := by decide +kernel
theorem pX10_isSheet_0 : At cX10_isSheet 0 (.iload_n 0) 1 1 := ⟨tX10_isSheet_0_ok (0, .iload_n 0, 1) (List.mem_of_getElem? (i := 0) rfl), rfl⟩
theorem pX10_isSheet_1 : At cX10_isSheet 1 (.i2l) 1 2 := ⟨tX10_isSheet_0_ok (1, .i2l, 1) (List.mem_of_getElem? (i := 1) rfl), rfl⟩
theorem pX10_isSheet_2 : At cX10_isSheet 2 (.lconst 0) 1 3 := ⟨tX10_isSheet_0_ok (2, .lconst 0, 1) (List.mem_of_getElem? (i := 2) rfl), rfl⟩
theorem pX10_isSheet_3 : At cX10_isSheet 3 (.ldc2_w 264) 3 6 := ⟨tX10_isSheet_0_ok (3, .ldc2_w 264, 3) (List.mem_of_getElem? (i := 3) rfl), rfl⟩
theorem pX10_isSheet_6 : At cX10_isSheet 6 (.invokestatic 53) 3 9 := ⟨tX10_isSheet_0_ok (6, .invokestatic 53, 3) (List.mem_of_getElem? (i := 4) rfl), rfl⟩
theorem pX10_isSheet_9 : At cX10_isSheet 9 (.ireturn) 1 10 := ⟨tX10_isSheet_0_ok (9, .ireturn, 1) (List.mem_of_getElem? (i := 5) rfl), rfl⟩
def tX10_goesSo_0 : List (Nat × Instr × Nat) := [(0, .aload_n 0, 1), (1, .iload_n 1, 1), (2, .iconst 2, 1), (3, .invokevirtual 61, 3), (6, .istore_n 3, 1), (7, .aload_n 0, 1), (8, .iload_n 1, 1), (9, .iconst 3, 1), (10, .invokevirtual 61, 3), (13, .istore 4, 2), (15, .iconst 1, 1), (16, .istore 5, 2), (18, .iconst 0, 1), (19, .istore 6, 2), (21, .iload 6, 2), (23, .aload_n 0, 1), (24, .getfield 40, 3), (27, .iload_n 2, 1), (28, .iaload, 1), (29, .if_icmp .ge 65, 3), (32, .iload 5, 2), (34, .ifCond .eq 60, 3), (37, .aload_n 0, 1), (38, .iload_n 1, 1), (39, .invokevirtual 201, 3), (42, .aload_n 0, 1), (43, .iload_n 1, 1), (44, .iconst 2, 1), (45, .aload_n 0, 1), (46, .getfield 195, 3), (49, .invokevirtual 83, 3), (52, .aload_n 0, 1), (53, .iload_n 1, 1), (54, .iconst 3, 1), (55, .aload_n 0, 1), (56, .getfield 198, 3), (59, .invokevirtual 83, 3), (62, .aload_n 0, 1), (63, .getfield 43, 3), (66, .bipush 40, 2), (68, .iload_n 2, 1), (69, .imul, 1), (70, .iload 6, 2), (72, .iadd, 1), (73, .iaload, 1), (74, .aload_n 0, 1), (75, .getfield 195, 3), (78, .if_icmp .ne 7, 3), (81, .iconst 1, 1), (82, .goto 4, 3), (85, .iconst 0, 1), (86, .istore 5, 2), (88, .iinc 6 1, 3), (91, .goto (-70), 3), (94, .aload_n 0, 1), (95, .iload_n 1, 1), (96, .iconst 2, 1), (97, .iload_n 3, 1), (98, .invokevirtual 83, 3), (101, .aload_n 0, 1), (102, .iload_n 1, 1), (103, .iconst 3, 1), (104, .iload 4, 2), (106, .invokevirtual 83, 3), (109, .iload 5, 2), (111, .ireturn, 1)]
theorem tX10_goesSo_0_ok : ∀ q ∈ tX10_goesSo_0, decode cX10_goesSo q.1 = .ok (q.2.1, q.2.2) := by decide +kernel
theorem pX10_goesSo_0 : At cX10_goesSo 0 (.aload_n 0) 1 1 := ⟨tX10_goesSo_0_ok (0, .aload_n 0, 1) (List.mem_of_getElem? (i := 0) rfl), rfl⟩
theorem pX10_goesSo_1 : At cX10_goesSo 1 (.iload_n 1) 1 2 := ⟨tX10_goesSo_0_ok (1, .iload_n 1, 1) (List.mem_of_getElem? (i := 1) rfl), rfl⟩
theorem pX10_goesSo_2 : At cX10_goesSo 2 (.iconst 2) 1 3 := ⟨tX10_goesSo_0_ok (2, .iconst 2, 1) (List.mem_of_getElem? (i := 2) rfl), rfl⟩
theorem pX10_goesSo_3 : At cX10_goesSo 3 (.invokevirtual 61) 3 6 := ⟨tX10_goesSo_0_ok (3, .invokevirtual 61, 3) (List.mem_of_getElem? (i := 3) rfl), rfl⟩
theorem pX10_goesSo_6 : At cX10_goesSo 6 (.istore_n 3) 1 7 := ⟨tX10_goesSo_0_ok (6, .istore_n 3, 1) (List.mem_of_getElem? (i := 4) rfl), rfl⟩
theorem pX10_goesSo_7 : At cX10_goesSo 7 (.aload_n 0) 1 8 := ⟨tX10_goesSo_0_ok (7, .aload_n 0, 1) (List.mem_of_getElem? (i := 5) rfl), rfl⟩
theorem pX10_goesSo_8 : At cX10_goesSo 8 (.iload_n 1) 1 9 := ⟨tX10_goesSo_0_ok (8, .iload_n 1, 1) (List.mem_of_getElem? (i := 6) rfl), rfl⟩
theorem pX10_goesSo_9 : At cX10_goesSo 9 (.iconst 3) 1 10 := ⟨tX10_goesSo_0_ok (9, .iconst 3, 1) (List.mem_of_getElem? (i := 7) rfl), rfl⟩
theorem pX10_goesSo_10 : At cX10_goesSo 10 (.invokevirtual 61) 3 13 := ⟨tX10_goesSo_0_ok (10, .invokevirtual 61, 3) (List.mem_of_getElem? (i := 8) rfl), rfl⟩
theorem pX10_goesSo_13 : At cX10_goesSo 13 (.istore 4) 2 15 := ⟨tX10_goesSo_0_ok (13, .istore 4, 2) (List.mem_of_getElem? (i := 9) rfl), rfl⟩
theorem pX10_goesSo_15 : At cX10_goesSo 15 (.iconst 1) 1 16 := ⟨tX10_goesSo_0_ok (15, .iconst 1, 1) (List.mem_of_getElem? (i := 10) rfl), rfl⟩
theorem pX10_goesSo_16 : At cX10_goesSo 16 (.istore 5) 2 18 := ⟨tX10_goesSo_0_ok (16, .istore 5, 2) (List.mem_of_getElem? (i := 11) rfl), rfl⟩
theorem pX10_goesSo_18 : At cX10_goesSo 18 (.iconst 0) 1 19 := ⟨tX10_goesSo_0_ok (18, .iconst 0, 1) (List.mem_of_getElem? (i := 12) rfl), rfl⟩
theorem pX10_goesSo_19 : At cX10_goesSo 19 (.istore 6) 2 21 := ⟨tX10_goesSo_0_ok (19, .istore 6, 2) (List.mem_of_getElem? (i := 13) rfl), rfl⟩
theorem pX10_goesSo_21 : At cX10_goesSo 21 (.iload 6) 2 23 := ⟨tX10_goesSo_0_ok (21, .iload 6, 2) (List.mem_of_getElem? (i := 14) rfl), rfl⟩
theorem pX10_goesSo_23 : At cX10_goesSo 23 (.aload_n 0) 1 24 := ⟨tX10_goesSo_0_ok (23, .aload_n 0, 1) (List.mem_of_getElem? (i := 15) rfl), rfl⟩
theorem pX10_goesSo_24 : At cX10_goesSo 24 (.getfield 40) 3 27 := ⟨tX10_goesSo_0_ok (24, .getfield 40, 3) (List.mem_of_getElem? (i := 16) rfl), rfl⟩
theorem pX10_goesSo_27 : At cX10_goesSo 27 (.iload_n 2) 1 28 := ⟨tX10_goesSo_0_ok (27, .iload_n 2, 1) (List.mem_of_getElem? (i := 17) rfl), rfl⟩
theorem pX10_goesSo_28 : At cX10_goesSo 28 (.iaload) 1 29 := ⟨tX10_goesSo_0_ok (28, .iaload, 1) (List.mem_of_getElem? (i := 18) rfl), rfl⟩
theorem pX10_goesSo_29 : Bt cX10_goesSo 29 (.if_icmp .ge 65) 65 94 32 := ⟨tX10_goesSo_0_ok (29, .if_icmp .ge 65, 3) (List.mem_of_getElem? (i := 19) rfl), by decide, rfl⟩
theorem pX10_goesSo_32 : At cX10_goesSo 32 (.iload 5) 2 34 := ⟨tX10_goesSo_0_ok (32, .iload 5, 2) (List.mem_of_getElem? (i := 20) rfl), rfl⟩
theorem pX10_goesSo_34 : Bt cX10_goesSo 34 (.ifCond .eq 60) 60 94 37 := ⟨tX10_goesSo_0_ok (34, .ifCond .eq 60, 3) (List.mem_of_getElem? (i := 21) rfl), by decide, rfl⟩
theorem pX10_goesSo_37 : At cX10_goesSo 37 (.aload_n 0) 1 38 := ⟨tX10_goesSo_0_ok (37, .aload_n 0, 1) (List.mem_of_getElem? (i := 22) rfl), rfl⟩
theorem pX10_goesSo_38 : At cX10_goesSo 38 (.iload_n 1) 1 39 := ⟨tX10_goesSo_0_ok (38, .iload_n 1, 1) (List.mem_of_getElem? (i := 23) rfl), rfl⟩
theorem pX10_goesSo_39 : At cX10_goesSo 39 (.invokevirtual 201) 3 42 := ⟨tX10_goesSo_0_ok (39, .invokevirtual 201, 3) (List.mem_of_getElem? (i := 24) rfl), rfl⟩
theorem pX10_goesSo_42 : At cX10_goesSo 42 (.aload_n 0) 1 43 := ⟨tX10_goesSo_0_ok (42, .aload_n 0, 1) (List.mem_of_getElem? (i := 25) rfl), rfl⟩
theorem pX10_goesSo_43 : At cX10_goesSo 43 (.iload_n 1) 1 44 := ⟨tX10_goesSo_0_ok (43, .iload_n 1, 1) (List.mem_of_getElem? (i := 26) rfl), rfl⟩
theorem pX10_goesSo_44 : At cX10_goesSo 44 (.iconst 2) 1 45 := ⟨tX10_goesSo_0_ok (44, .iconst 2, 1) (List.mem_of_getElem? (i := 27) rfl), rfl⟩
theorem pX10_goesSo_45 : At cX10_goesSo 45 (.aload_n 0) 1 46 := ⟨tX10_goesSo_0_ok (45, .aload_n 0, 1) (List.mem_of_getElem? (i := 28) rfl), rfl⟩
theorem pX10_goesSo_46 : At cX10_goesSo 46 (.getfield 195) 3 49 := ⟨tX10_goesSo_0_ok (46, .getfield 195, 3) (List.mem_of_getElem? (i := 29) rfl), rfl⟩
theorem pX10_goesSo_49 : At cX10_goesSo 49 (.invokevirtual 83) 3 52 := ⟨tX10_goesSo_0_ok (49, .invokevirtual 83, 3) (List.mem_of_getElem? (i := 30) rfl), rfl⟩
theorem pX10_goesSo_52 : At cX10_goesSo 52 (.aload_n 0) 1 53 := ⟨tX10_goesSo_0_ok (52, .aload_n 0, 1) (List.mem_of_getElem? (i := 31) rfl), rfl⟩
theorem pX10_goesSo_53 : At cX10_goesSo 53 (.iload_n 1) 1 54 := ⟨tX10_goesSo_0_ok (53, .iload_n 1, 1) (List.mem_of_getElem? (i := 32) rfl), rfl⟩
theorem pX10_goesSo_54 : At cX10_goesSo 54 (.iconst 3) 1 55 := ⟨tX10_goesSo_0_ok (54, .iconst 3, 1) (List.mem_of_getElem? (i := 33) rfl), rfl⟩
theorem pX10_goesSo_55 : At cX10_goesSo 55 (.aload_n 0) 1 56 := ⟨tX10_goesSo_0_ok (55, .aload_n 0, 1) (List.mem_of_getElem? (i := 34) rfl), rfl⟩
theorem pX10_goesSo_56 : At cX10_goesSo 56 (.getfield 198) 3 59 := ⟨tX10_goesSo_0_ok (56, .getfield 198, 3) (List.mem_of_getElem? (i := 35) rfl), rfl⟩
theorem pX10_goesSo_59 : At cX10_goesSo 59 (.invokevirtual 83) 3 62 := ⟨tX10_goesSo_0_ok (59, .invokevirtual 83, 3) (List.mem_of_getElem? (i := 36) rfl), rfl⟩
theorem pX10_goesSo_62 : At cX10_goesSo 62 (.aload_n 0) 1 63 := ⟨tX10_goesSo_0_ok (62, .aload_n 0, 1) (List.mem_of_getElem? (i := 37) rfl), rfl⟩
theorem pX10_goesSo_63 : At cX10_goesSo 63 (.getfield 43) 3 66 := ⟨tX10_goesSo_0_ok (63, .getfield 43, 3) (List.mem_of_getElem? (i := 38) rfl), rfl⟩
theorem pX10_goesSo_66 : At cX10_goesSo 66 (.bipush 40) 2 68 := ⟨tX10_goesSo_0_ok (66, .bipush 40, 2) (List.mem_of_getElem? (i := 39) rfl), rfl⟩
theorem pX10_goesSo_68 : At cX10_goesSo 68 (.iload_n 2) 1 69 := ⟨tX10_goesSo_0_ok (68, .iload_n 2, 1) (List.mem_of_getElem? (i := 40) rfl), rfl⟩
theorem pX10_goesSo_69 : At cX10_goesSo 69 (.imul) 1 70 := ⟨tX10_goesSo_0_ok (69, .imul, 1) (List.mem_of_getElem? (i := 41) rfl), rfl⟩
theorem pX10_goesSo_70 : At cX10_goesSo 70 (.iload 6) 2 72 := ⟨tX10_goesSo_0_ok (70, .iload 6, 2) (List.mem_of_getElem? (i := 42) rfl), rfl⟩
theorem pX10_goesSo_72 : At cX10_goesSo 72 (.iadd) 1 73 := ⟨tX10_goesSo_0_ok (72, .iadd, 1) (List.mem_of_getElem? (i := 43) rfl), rfl⟩
theorem pX10_goesSo_73 : At cX10_goesSo 73 (.iaload) 1 74 := ⟨tX10_goesSo_0_ok (73, .iaload, 1) (List.mem_of_getElem? (i := 44) rfl), rfl⟩
theorem pX10_goesSo_74 : At cX10_goesSo 74 (.aload_n 0) 1 75 := ⟨tX10_goesSo_0_ok (74, .aload_n 0, 1) (List.mem_of_getElem? (i := 45) rfl), rfl⟩
theorem pX10_goesSo_75 : At cX10_goesSo 75 (.getfield 195) 3 78 := ⟨tX10_goesSo_0_ok (75, .getfield 195, 3) (List.mem_of_getElem? (i := 46) rfl), rfl⟩
theorem pX10_goesSo_78 : Bt cX10_goesSo 78 (.if_icmp .ne 7) 7 85 81 := ⟨tX10_goesSo_0_ok (78, .if_icmp .ne 7, 3) (List.mem_of_getElem? (i := 47) rfl), by decide, rfl⟩
theorem pX10_goesSo_81 : At cX10_goesSo 81 (.iconst 1) 1 82 := ⟨tX10_goesSo_0_ok (81, .iconst 1, 1) (List.mem_of_getElem? (i := 48) rfl), rfl⟩
theorem pX10_goesSo_82 : Bt cX10_goesSo 82 (.goto 4) 4 86 85 := ⟨tX10_goesSo_0_ok (82, .goto 4, 3) (List.mem_of_getElem? (i := 49) rfl), by decide, rfl⟩
theorem pX10_goesSo_85 : At cX10_goesSo 85 (.iconst 0) 1 86 := ⟨tX10_goesSo_0_ok (85, .iconst 0, 1) (List.mem_of_getElem? (i := 50) rfl), rfl⟩
theorem pX10_goesSo_86 : At cX10_goesSo 86 (.istore 5) 2 88 := ⟨tX10_goesSo_0_ok (86, .istore 5, 2) (List.mem_of_getElem? (i := 51) rfl), rfl⟩
theorem pX10_goesSo_88 : At cX10_goesSo 88 (.iinc 6 1) 3 91 := ⟨tX10_goesSo_0_ok (88, .iinc 6 1, 3) (List.mem_of_getElem? (i := 52) rfl), rfl⟩
theorem pX10_goesSo_91 : Bt cX10_goesSo 91 (.goto (-70)) (-70) 21 94 := ⟨tX10_goesSo_0_ok (91, .goto (-70), 3) (List.mem_of_getElem? (i := 53) rfl), by decide, rfl⟩
theorem pX10_goesSo_94 : At cX10_goesSo 94 (.aload_n 0) 1 95 := ⟨tX10_goesSo_0_ok (94, .aload_n 0, 1) (List.mem_of_getElem? (i := 54) rfl), rfl⟩
theorem pX10_goesSo_95 : At cX10_goesSo 95 (.iload_n 1) 1 96 := ⟨tX10_goesSo_0_ok (95, .iload_n 1, 1) (List.mem_of_getElem? (i := 55) rfl), rfl⟩
theorem pX10_goesSo_96 : At cX10_goesSo 96 (.iconst 2) 1 97 := ⟨tX10_goesSo_0_ok (96, .iconst 2, 1) (List.mem_of_getElem? (i := 56) rfl), rfl⟩
theorem pX10_goesSo_97 : At cX10_goesSo 97 (.iload_n 3) 1 98 := ⟨tX10_goesSo_0_ok (97, .iload_n 3, 1) (List.mem_of_getElem? (i := 57) rfl), rfl⟩
theorem pX10_goesSo_98 : At cX10_goesSo 98 (.invokevirtual 83) 3 101 := ⟨tX10_goesSo_0_ok (98, .invokevirtual 83, 3) (List.mem_of_getElem? (i := 58) rfl), rfl⟩
theorem pX10_goesSo_101 : At cX10_goesSo 101 (.aload_n 0) 1 102 := ⟨tX10_goesSo_0_ok (101, .aload_n 0, 1) (List.mem_of_getElem? (i := 59) rfl), rfl⟩
theorem pX10_goesSo_102 : At cX10_goesSo 102 (.iload_n 1) 1 103 := ⟨tX10_goesSo_0_ok (102, .iload_n 1, 1) (List.mem_of_getElem? (i := 60) rfl), rfl⟩
theorem pX10_goesSo_103 : At cX10_goesSo 103 (.iconst 3) 1 104 := ⟨tX10_goesSo_0_ok (103, .iconst 3, 1) (List.mem_of_getElem? (i := 61) rfl), rfl⟩
theorem pX10_goesSo_104 : At cX10_goesSo 104 (.iload 4) 2 106 := ⟨tX10_goesSo_0_ok (104, .iload 4, 2) (List.mem_of_getElem? (i := 62) rfl), rfl⟩
theorem pX10_goesSo_106 : At cX10_goesSo 106 (.invokevirtual 83) 3 109 := ⟨tX10_goesSo_0_ok (106, .invokevirtual 83, 3) (List.mem_of_getElem? (i := 63) rfl), rfl⟩
theorem pX10_goesSo_109 : At cX10_goesSo 109 (.iload 5) 2 111 := ⟨tX10_goesSo_0_ok (109, .iload 5, 2) (List.mem_of_getElem? (i := 64) rfl), rfl⟩
theorem pX10_goesSo_111 : At cX10_goesSo 111 (.ireturn) 1 112 := ⟨tX10_goesSo_0_ok (111, .ireturn, 1) (List.mem_of_getElem? (i := 65) rfl), rfl⟩
def tX10_rolled_0 : List (Nat × Instr × Nat) := [(0, .aload_n 0, 1), (1, .iload_n 1, 1), (2, .invokevirtual 87, 3), (5, .ifCond .eq 20, 3), (8, .iload_n 2, 1), (9, .invokestatic 266, 3), (12, .ifCond .eq 13, 3), (15, .iload_n 3, 1), (16, .i2l, 1), (17, .lconst 0, 1), (18, .lconst 1, 1), (19, .invokestatic 53, 3), (22, .ifCond .ne 9, 3), (25, .aload_n 0, 1), (26, .iconst 1, 1), (27, .invokevirtual 79, 3), (30, .ireturn, 1), (31, .aload_n 0, 1), (32, .getfield 37, 3), (35, .iload_n 2, 1), (36, .iaload, 1), (37, .ifCond .ne 9, 3), (40, .aload_n 0, 1), (41, .iconst 2, 1), (42, .invokevirtual 79, 3), (45, .ireturn, 1), (46, .aload_n 0, 1), (47, .iload_n 1, 1), (48, .iconst 3, 1), (49, .invokevirtual 61, 3), (52, .istore 4, 2), (54, .iconst 0, 1), (55, .istore 5, 2), (57, .iconst 0, 1), (58, .istore 6, 2), (60, .bipush 9, 2), (62, .istore 7, 2), (64, .iload 7, 2), (66, .bipush (-9), 2), (68, .if_icmp .lt 33, 3), (71, .aload_n 0, 1), (72, .iload_n 1, 1), (73, .iconst 3, 1), (74, .iload 7, 2), (76, .invokevirtual 83, 3), (79, .aload_n 0, 1), (80, .iload_n 1, 1), (81, .iload_n 2, 1), (82, .invokevirtual 269, 3), (85, .ifCond .eq 10, 3), (88, .iload 7, 2), (90, .istore 5, 2), (92, .iinc 6 1, 3), (95, .iinc 7 (-1), 3), (98, .goto (-34), 3), (101, .aload_n 0, 1), (102, .iload_n 1, 1), (103, .iconst 3, 1), (104, .iload 4, 2), (106, .invokevirtual 83, 3), (109, .iload 6, 2), (111, .ifCond .ne 11, 3), (114, .aload_n 0, 1), (115, .iconst 2, 1), (116, .invokevirtual 79, 3), (119, .goto 14, 3), (122, .iload_n 3, 1), (123, .ifCond .ne 8, 3), (126, .iload 5, 2), (128, .goto 5, 3), (131, .iload 6, 2), (133, .ireturn, 1)]
theorem tX10_rolled_0_ok : ∀ q ∈ tX10_rolled_0, decode cX10_rolled q.1 = .ok (q.2.1, q.2.2) := by decide +kernel
theorem pX10_rolled_0 : At cX10_rolled 0 (.aload_n 0) 1 1 := ⟨tX10_rolled_0_ok (0, .aload_n 0, 1) (List.mem_of_getElem? (i := 0) rfl), rfl⟩
theorem pX10_rolled_1 : At cX10_rolled 1 (.iload_n 1) 1 2 := ⟨tX10_rolled_0_ok (1, .iload_n 1, 1) (List.mem_of_getElem? (i := 1) rfl), rfl⟩
theorem pX10_rolled_2 : At cX10_rolled 2 (.invokevirtual 87) 3 5 := ⟨tX10_rolled_0_ok (2, .invokevirtual 87, 3) (List.mem_of_getElem? (i := 2) rfl), rfl⟩
theorem pX10_rolled_5 : Bt cX10_rolled 5 (.ifCond .eq 20) 20 25 8 := ⟨tX10_rolled_0_ok (5, .ifCond .eq 20, 3) (List.mem_of_getElem? (i := 3) rfl), by decide, rfl⟩
theorem pX10_rolled_8 : At cX10_rolled 8 (.iload_n 2) 1 9 := ⟨tX10_rolled_0_ok (8, .iload_n 2, 1) (List.mem_of_getElem? (i := 4) rfl), rfl⟩
theorem pX10_rolled_9 : At cX10_rolled 9 (.invokestatic 266) 3 12 := ⟨tX10_rolled_0_ok (9, .invokestatic 266, 3) (List.mem_of_getElem? (i := 5) rfl), rfl⟩
theorem pX10_rolled_12 : Bt cX10_rolled 12 (.ifCond .eq 13) 13 25 15 := ⟨tX10_rolled_0_ok (12, .ifCond .eq 13, 3) (List.mem_of_getElem? (i := 6) rfl), by decide, rfl⟩
theorem pX10_rolled_15 : At cX10_rolled 15 (.iload_n 3) 1 16 := ⟨tX10_rolled_0_ok (15, .iload_n 3, 1) (List.mem_of_getElem? (i := 7) rfl), rfl⟩
theorem pX10_rolled_16 : At cX10_rolled 16 (.i2l) 1 17 := ⟨tX10_rolled_0_ok (16, .i2l, 1) (List.mem_of_getElem? (i := 8) rfl), rfl⟩
theorem pX10_rolled_17 : At cX10_rolled 17 (.lconst 0) 1 18 := ⟨tX10_rolled_0_ok (17, .lconst 0, 1) (List.mem_of_getElem? (i := 9) rfl), rfl⟩
theorem pX10_rolled_18 : At cX10_rolled 18 (.lconst 1) 1 19 := ⟨tX10_rolled_0_ok (18, .lconst 1, 1) (List.mem_of_getElem? (i := 10) rfl), rfl⟩
theorem pX10_rolled_19 : At cX10_rolled 19 (.invokestatic 53) 3 22 := ⟨tX10_rolled_0_ok (19, .invokestatic 53, 3) (List.mem_of_getElem? (i := 11) rfl), rfl⟩
theorem pX10_rolled_22 : Bt cX10_rolled 22 (.ifCond .ne 9) 9 31 25 := ⟨tX10_rolled_0_ok (22, .ifCond .ne 9, 3) (List.mem_of_getElem? (i := 12) rfl), by decide, rfl⟩
theorem pX10_rolled_25 : At cX10_rolled 25 (.aload_n 0) 1 26 := ⟨tX10_rolled_0_ok (25, .aload_n 0, 1) (List.mem_of_getElem? (i := 13) rfl), rfl⟩
theorem pX10_rolled_26 : At cX10_rolled 26 (.iconst 1) 1 27 := ⟨tX10_rolled_0_ok (26, .iconst 1, 1) (List.mem_of_getElem? (i := 14) rfl), rfl⟩
theorem pX10_rolled_27 : At cX10_rolled 27 (.invokevirtual 79) 3 30 := ⟨tX10_rolled_0_ok (27, .invokevirtual 79, 3) (List.mem_of_getElem? (i := 15) rfl), rfl⟩
theorem pX10_rolled_30 : At cX10_rolled 30 (.ireturn) 1 31 := ⟨tX10_rolled_0_ok (30, .ireturn, 1) (List.mem_of_getElem? (i := 16) rfl), rfl⟩
theorem pX10_rolled_31 : At cX10_rolled 31 (.aload_n 0) 1 32 := ⟨tX10_rolled_0_ok (31, .aload_n 0, 1) (List.mem_of_getElem? (i := 17) rfl), rfl⟩
theorem pX10_rolled_32 : At cX10_rolled 32 (.getfield 37) 3 35 := ⟨tX10_rolled_0_ok (32, .getfield 37, 3) (List.mem_of_getElem? (i := 18) rfl), rfl⟩
theorem pX10_rolled_35 : At cX10_rolled 35 (.iload_n 2) 1 36 := ⟨tX10_rolled_0_ok (35, .iload_n 2, 1) (List.mem_of_getElem? (i := 19) rfl), rfl⟩
theorem pX10_rolled_36 : At cX10_rolled 36 (.iaload) 1 37 := ⟨tX10_rolled_0_ok (36, .iaload, 1) (List.mem_of_getElem? (i := 20) rfl), rfl⟩
theorem pX10_rolled_37 : Bt cX10_rolled 37 (.ifCond .ne 9) 9 46 40 := ⟨tX10_rolled_0_ok (37, .ifCond .ne 9, 3) (List.mem_of_getElem? (i := 21) rfl), by decide, rfl⟩
theorem pX10_rolled_40 : At cX10_rolled 40 (.aload_n 0) 1 41 := ⟨tX10_rolled_0_ok (40, .aload_n 0, 1) (List.mem_of_getElem? (i := 22) rfl), rfl⟩
theorem pX10_rolled_41 : At cX10_rolled 41 (.iconst 2) 1 42 := ⟨tX10_rolled_0_ok (41, .iconst 2, 1) (List.mem_of_getElem? (i := 23) rfl), rfl⟩
theorem pX10_rolled_42 : At cX10_rolled 42 (.invokevirtual 79) 3 45 := ⟨tX10_rolled_0_ok (42, .invokevirtual 79, 3) (List.mem_of_getElem? (i := 24) rfl), rfl⟩
theorem pX10_rolled_45 : At cX10_rolled 45 (.ireturn) 1 46 := ⟨tX10_rolled_0_ok (45, .ireturn, 1) (List.mem_of_getElem? (i := 25) rfl), rfl⟩
theorem pX10_rolled_46 : At cX10_rolled 46 (.aload_n 0) 1 47 := ⟨tX10_rolled_0_ok (46, .aload_n 0, 1) (List.mem_of_getElem? (i := 26) rfl), rfl⟩
theorem pX10_rolled_47 : At cX10_rolled 47 (.iload_n 1) 1 48 := ⟨tX10_rolled_0_ok (47, .iload_n 1, 1) (List.mem_of_getElem? (i := 27) rfl), rfl⟩
theorem pX10_rolled_48 : At cX10_rolled 48 (.iconst 3) 1 49 := ⟨tX10_rolled_0_ok (48, .iconst 3, 1) (List.mem_of_getElem? (i := 28) rfl), rfl⟩
theorem pX10_rolled_49 : At cX10_rolled 49 (.invokevirtual 61) 3 52 := ⟨tX10_rolled_0_ok (49, .invokevirtual 61, 3) (List.mem_of_getElem? (i := 29) rfl), rfl⟩
theorem pX10_rolled_52 : At cX10_rolled 52 (.istore 4) 2 54 := ⟨tX10_rolled_0_ok (52, .istore 4, 2) (List.mem_of_getElem? (i := 30) rfl), rfl⟩
theorem pX10_rolled_54 : At cX10_rolled 54 (.iconst 0) 1 55 := ⟨tX10_rolled_0_ok (54, .iconst 0, 1) (List.mem_of_getElem? (i := 31) rfl), rfl⟩
theorem pX10_rolled_55 : At cX10_rolled 55 (.istore 5) 2 57 := ⟨tX10_rolled_0_ok (55, .istore 5, 2) (List.mem_of_getElem? (i := 32) rfl), rfl⟩
theorem pX10_rolled_57 : At cX10_rolled 57 (.iconst 0) 1 58 := ⟨tX10_rolled_0_ok (57, .iconst 0, 1) (List.mem_of_getElem? (i := 33) rfl), rfl⟩
theorem pX10_rolled_58 : At cX10_rolled 58 (.istore 6) 2 60 := ⟨tX10_rolled_0_ok (58, .istore 6, 2) (List.mem_of_getElem? (i := 34) rfl), rfl⟩
theorem pX10_rolled_60 : At cX10_rolled 60 (.bipush 9) 2 62 := ⟨tX10_rolled_0_ok (60, .bipush 9, 2) (List.mem_of_getElem? (i := 35) rfl), rfl⟩
theorem pX10_rolled_62 : At cX10_rolled 62 (.istore 7) 2 64 := ⟨tX10_rolled_0_ok (62, .istore 7, 2) (List.mem_of_getElem? (i := 36) rfl), rfl⟩
theorem pX10_rolled_64 : At cX10_rolled 64 (.iload 7) 2 66 := ⟨tX10_rolled_0_ok (64, .iload 7, 2) (List.mem_of_getElem? (i := 37) rfl), rfl⟩
theorem pX10_rolled_66 : At cX10_rolled 66 (.bipush (-9)) 2 68 := ⟨tX10_rolled_0_ok (66, .bipush (-9), 2) (List.mem_of_getElem? (i := 38) rfl), rfl⟩
theorem pX10_rolled_68 : Bt cX10_rolled 68 (.if_icmp .lt 33) 33 101 71 := ⟨tX10_rolled_0_ok (68, .if_icmp .lt 33, 3) (List.mem_of_getElem? (i := 39) rfl), by decide, rfl⟩
theorem pX10_rolled_71 : At cX10_rolled 71 (.aload_n 0) 1 72 := ⟨tX10_rolled_0_ok (71, .aload_n 0, 1) (List.mem_of_getElem? (i := 40) rfl), rfl⟩
theorem pX10_rolled_72 : At cX10_rolled 72 (.iload_n 1) 1 73 := ⟨tX10_rolled_0_ok (72, .iload_n 1, 1) (List.mem_of_getElem? (i := 41) rfl), rfl⟩
theorem pX10_rolled_73 : At cX10_rolled 73 (.iconst 3) 1 74 := ⟨tX10_rolled_0_ok (73, .iconst 3, 1) (List.mem_of_getElem? (i := 42) rfl), rfl⟩
theorem pX10_rolled_74 : At cX10_rolled 74 (.iload 7) 2 76 := ⟨tX10_rolled_0_ok (74, .iload 7, 2) (List.mem_of_getElem? (i := 43) rfl), rfl⟩
theorem pX10_rolled_76 : At cX10_rolled 76 (.invokevirtual 83) 3 79 := ⟨tX10_rolled_0_ok (76, .invokevirtual 83, 3) (List.mem_of_getElem? (i := 44) rfl), rfl⟩
theorem pX10_rolled_79 : At cX10_rolled 79 (.aload_n 0) 1 80 := ⟨tX10_rolled_0_ok (79, .aload_n 0, 1) (List.mem_of_getElem? (i := 45) rfl), rfl⟩
theorem pX10_rolled_80 : At cX10_rolled 80 (.iload_n 1) 1 81 := ⟨tX10_rolled_0_ok (80, .iload_n 1, 1) (List.mem_of_getElem? (i := 46) rfl), rfl⟩
theorem pX10_rolled_81 : At cX10_rolled 81 (.iload_n 2) 1 82 := ⟨tX10_rolled_0_ok (81, .iload_n 2, 1) (List.mem_of_getElem? (i := 47) rfl), rfl⟩
theorem pX10_rolled_82 : At cX10_rolled 82 (.invokevirtual 269) 3 85 := ⟨tX10_rolled_0_ok (82, .invokevirtual 269, 3) (List.mem_of_getElem? (i := 48) rfl), rfl⟩
theorem pX10_rolled_85 : Bt cX10_rolled 85 (.ifCond .eq 10) 10 95 88 := ⟨tX10_rolled_0_ok (85, .ifCond .eq 10, 3) (List.mem_of_getElem? (i := 49) rfl), by decide, rfl⟩
theorem pX10_rolled_88 : At cX10_rolled 88 (.iload 7) 2 90 := ⟨tX10_rolled_0_ok (88, .iload 7, 2) (List.mem_of_getElem? (i := 50) rfl), rfl⟩
theorem pX10_rolled_90 : At cX10_rolled 90 (.istore 5) 2 92 := ⟨tX10_rolled_0_ok (90, .istore 5, 2) (List.mem_of_getElem? (i := 51) rfl), rfl⟩
theorem pX10_rolled_92 : At cX10_rolled 92 (.iinc 6 1) 3 95 := ⟨tX10_rolled_0_ok (92, .iinc 6 1, 3) (List.mem_of_getElem? (i := 52) rfl), rfl⟩
theorem pX10_rolled_95 : At cX10_rolled 95 (.iinc 7 (-1)) 3 98 := ⟨tX10_rolled_0_ok (95, .iinc 7 (-1), 3) (List.mem_of_getElem? (i := 53) rfl), rfl⟩
theorem pX10_rolled_98 : Bt cX10_rolled 98 (.goto (-34)) (-34) 64 101 := ⟨tX10_rolled_0_ok (98, .goto (-34), 3) (List.mem_of_getElem? (i := 54) rfl), by decide, rfl⟩
theorem pX10_rolled_101 : At cX10_rolled 101 (.aload_n 0) 1 102 := ⟨tX10_rolled_0_ok (101, .aload_n 0, 1) (List.mem_of_getElem? (i := 55) rfl), rfl⟩
theorem pX10_rolled_102 : At cX10_rolled 102 (.iload_n 1) 1 103 := ⟨tX10_rolled_0_ok (102, .iload_n 1, 1) (List.mem_of_getElem? (i := 56) rfl), rfl⟩
theorem pX10_rolled_103 : At cX10_rolled 103 (.iconst 3) 1 104 := ⟨tX10_rolled_0_ok (103, .iconst 3, 1) (List.mem_of_getElem? (i := 57) rfl), rfl⟩
theorem pX10_rolled_104 : At cX10_rolled 104 (.iload 4) 2 106 := ⟨tX10_rolled_0_ok (104, .iload 4, 2) (List.mem_of_getElem? (i := 58) rfl), rfl⟩
theorem pX10_rolled_106 : At cX10_rolled 106 (.invokevirtual 83) 3 109 := ⟨tX10_rolled_0_ok (106, .invokevirtual 83, 3) (List.mem_of_getElem? (i := 59) rfl), rfl⟩
theorem pX10_rolled_109 : At cX10_rolled 109 (.iload 6) 2 111 := ⟨tX10_rolled_0_ok (109, .iload 6, 2) (List.mem_of_getElem? (i := 60) rfl), rfl⟩
theorem pX10_rolled_111 : Bt cX10_rolled 111 (.ifCond .ne 11) 11 122 114 := ⟨tX10_rolled_0_ok (111, .ifCond .ne 11, 3) (List.mem_of_getElem? (i := 61) rfl), by decide, rfl⟩
theorem pX10_rolled_114 : At cX10_rolled 114 (.aload_n 0) 1 115 := ⟨tX10_rolled_0_ok (114, .aload_n 0, 1) (List.mem_of_getElem? (i := 62) rfl), rfl⟩
theorem pX10_rolled_115 : At cX10_rolled 115 (.iconst 2) 1 116 := ⟨tX10_rolled_0_ok (115, .iconst 2, 1) (List.mem_of_getElem? (i := 63) rfl), rfl⟩
theorem pX10_rolled_116 : At cX10_rolled 116 (.invokevirtual 79) 3 119 := ⟨tX10_rolled_0_ok (116, .invokevirtual 79, 3) (List.mem_of_getElem? (i := 64) rfl), rfl⟩
theorem pX10_rolled_119 : Bt cX10_rolled 119 (.goto 14) 14 133 122 := ⟨tX10_rolled_0_ok (119, .goto 14, 3) (List.mem_of_getElem? (i := 65) rfl), by decide, rfl⟩
theorem pX10_rolled_122 : At cX10_rolled 122 (.iload_n 3) 1 123 := ⟨tX10_rolled_0_ok (122, .iload_n 3, 1) (List.mem_of_getElem? (i := 66) rfl), rfl⟩
theorem pX10_rolled_123 : Bt cX10_rolled 123 (.ifCond .ne 8) 8 131 126 := ⟨tX10_rolled_0_ok (123, .ifCond .ne 8, 3) (List.mem_of_getElem? (i := 67) rfl), by decide, rfl⟩
theorem pX10_rolled_126 : At cX10_rolled 126 (.iload 5) 2 128 := ⟨tX10_rolled_0_ok (126, .iload 5, 2) (List.mem_of_getElem? (i := 68) rfl), rfl⟩
theorem pX10_rolled_128 : Bt cX10_rolled 128 (.goto 5) 5 133 131 := ⟨tX10_rolled_0_ok (128, .goto 5, 3) (List.mem_of_getElem? (i := 69) rfl), by decide, rfl⟩
theorem pX10_rolled_131 : At cX10_rolled 131 (.iload 6) 2 133 := ⟨tX10_rolled_0_ok (131, .iload 6, 2) (List.mem_of_getElem? (i := 70) rfl), rfl⟩
theorem pX10_rolled_133 : At cX10_rolled 133 (.ireturn) 1 134 := ⟨tX10_rolled_0_ok (133, .ireturn, 1) (List.mem_of_getElem? (i := 71) rfl), rfl⟩
def tX10_whose_0 : List (Nat × Instr × Nat) := [(0, .aload_n 0, 1), (1, .iload_n 1, 1), (2, .invokevirtual 87, 3), (5, .ifCond .eq 10, 3), (8, .iload_n 2, 1), (9, .invokestatic 266, 3), (12, .ifCond .ne 9, 3), (15, .aload_n 0, 1), (16, .iconst 1, 1), (17, .invokevirtual 79, 3), (20, .ireturn, 1), (21, .aload_n 0, 1), (22, .getfield 37, 3), (25, .iload_n 2, 1), (26, .iaload, 1), (27, .ifCond .ne 9, 3), (30, .aload_n 0, 1), (31, .iconst 2, 1), (32, .invokevirtual 79, 3), (35, .ireturn, 1), (36, .aload_n 0, 1), (37, .iload_n 1, 1), (38, .iconst 0, 1), (39, .invokevirtual 61, 3), (42, .istore_n 3, 1), (43, .iconst (-1), 1), (44, .istore 4, 2), (46, .bipush 6, 2), (48, .istore 5, 2), (50, .iload 5, 2), (52, .ifCond .lt 35, 3), (55, .aload_n 0, 1), (56, .iload_n 1, 1), (57, .iconst 0, 1), (58, .iload 5, 2), (60, .invokevirtual 83, 3), (63, .aload_n 0, 1), (64, .iload_n 1, 1), (65, .iload_n 2, 1), (66, .invokevirtual 269, 3), (69, .ifCond .eq 8, 3), (72, .iload 5, 2), (74, .goto 5, 3), (77, .iload 4, 2), (79, .istore 4, 2), (81, .iinc 5 (-1), 3), (84, .goto (-34), 3), (87, .aload_n 0, 1), (88, .iload_n 1, 1), (89, .iconst 0, 1), (90, .iload_n 3, 1), (91, .invokevirtual 83, 3), (94, .iload 4, 2), (96, .ifCond .ge 11, 3), (99, .aload_n 0, 1), (100, .iconst 2, 1), (101, .invokevirtual 79, 3), (104, .goto 5, 3), (107, .iload 4, 2), (109, .ireturn, 1)]
theorem tX10_whose_0_ok : ∀ q ∈ tX10_whose_0, decode cX10_whose q.1 = .ok (q.2.1, q.2.2) := by decide +kernel
theorem pX10_whose_0 : At cX10_whose 0 (.aload_n 0) 1 1 := ⟨tX10_whose_0_ok (0, .aload_n 0, 1) (List.mem_of_getElem? (i := 0) rfl), rfl⟩
theorem pX10_whose_1 : At cX10_whose 1 (.iload_n 1) 1 2 := ⟨tX10_whose_0_ok (1, .iload_n 1, 1) (List.mem_of_getElem? (i := 1) rfl), rfl⟩
theorem pX10_whose_2 : At cX10_whose 2 (.invokevirtual 87) 3 5 := ⟨tX10_whose_0_ok (2, .invokevirtual 87, 3) (List.mem_of_getElem? (i := 2) rfl), rfl⟩
theorem pX10_whose_5 : Bt cX10_whose 5 (.ifCond .eq 10) 10 15 8 := ⟨tX10_whose_0_ok (5, .ifCond .eq 10, 3) (List.mem_of_getElem? (i := 3) rfl), by decide, rfl⟩
theorem pX10_whose_8 : At cX10_whose 8 (.iload_n 2) 1 9 := ⟨tX10_whose_0_ok (8, .iload_n 2, 1) (List.mem_of_getElem? (i := 4) rfl), rfl⟩
theorem pX10_whose_9 : At cX10_whose 9 (.invokestatic 266) 3 12 := ⟨tX10_whose_0_ok (9, .invokestatic 266, 3) (List.mem_of_getElem? (i := 5) rfl), rfl⟩
theorem pX10_whose_12 : Bt cX10_whose 12 (.ifCond .ne 9) 9 21 15 := ⟨tX10_whose_0_ok (12, .ifCond .ne 9, 3) (List.mem_of_getElem? (i := 6) rfl), by decide, rfl⟩
theorem pX10_whose_15 : At cX10_whose 15 (.aload_n 0) 1 16 := ⟨tX10_whose_0_ok (15, .aload_n 0, 1) (List.mem_of_getElem? (i := 7) rfl), rfl⟩
theorem pX10_whose_16 : At cX10_whose 16 (.iconst 1) 1 17 := ⟨tX10_whose_0_ok (16, .iconst 1, 1) (List.mem_of_getElem? (i := 8) rfl), rfl⟩
theorem pX10_whose_17 : At cX10_whose 17 (.invokevirtual 79) 3 20 := ⟨tX10_whose_0_ok (17, .invokevirtual 79, 3) (List.mem_of_getElem? (i := 9) rfl), rfl⟩
theorem pX10_whose_20 : At cX10_whose 20 (.ireturn) 1 21 := ⟨tX10_whose_0_ok (20, .ireturn, 1) (List.mem_of_getElem? (i := 10) rfl), rfl⟩
theorem pX10_whose_21 : At cX10_whose 21 (.aload_n 0) 1 22 := ⟨tX10_whose_0_ok (21, .aload_n 0, 1) (List.mem_of_getElem? (i := 11) rfl), rfl⟩
theorem pX10_whose_22 : At cX10_whose 22 (.getfield 37) 3 25 := ⟨tX10_whose_0_ok (22, .getfield 37, 3) (List.mem_of_getElem? (i := 12) rfl), rfl⟩
theorem pX10_whose_25 : At cX10_whose 25 (.iload_n 2) 1 26 := ⟨tX10_whose_0_ok (25, .iload_n 2, 1) (List.mem_of_getElem? (i := 13) rfl), rfl⟩
theorem pX10_whose_26 : At cX10_whose 26 (.iaload) 1 27 := ⟨tX10_whose_0_ok (26, .iaload, 1) (List.mem_of_getElem? (i := 14) rfl), rfl⟩
theorem pX10_whose_27 : Bt cX10_whose 27 (.ifCond .ne 9) 9 36 30 := ⟨tX10_whose_0_ok (27, .ifCond .ne 9, 3) (List.mem_of_getElem? (i := 15) rfl), by decide, rfl⟩
theorem pX10_whose_30 : At cX10_whose 30 (.aload_n 0) 1 31 := ⟨tX10_whose_0_ok (30, .aload_n 0, 1) (List.mem_of_getElem? (i := 16) rfl), rfl⟩
theorem pX10_whose_31 : At cX10_whose 31 (.iconst 2) 1 32 := ⟨tX10_whose_0_ok (31, .iconst 2, 1) (List.mem_of_getElem? (i := 17) rfl), rfl⟩
theorem pX10_whose_32 : At cX10_whose 32 (.invokevirtual 79) 3 35 := ⟨tX10_whose_0_ok (32, .invokevirtual 79, 3) (List.mem_of_getElem? (i := 18) rfl), rfl⟩
theorem pX10_whose_35 : At cX10_whose 35 (.ireturn) 1 36 := ⟨tX10_whose_0_ok (35, .ireturn, 1) (List.mem_of_getElem? (i := 19) rfl), rfl⟩
theorem pX10_whose_36 : At cX10_whose 36 (.aload_n 0) 1 37 := ⟨tX10_whose_0_ok (36, .aload_n 0, 1) (List.mem_of_getElem? (i := 20) rfl), rfl⟩
theorem pX10_whose_37 : At cX10_whose 37 (.iload_n 1) 1 38 := ⟨tX10_whose_0_ok (37, .iload_n 1, 1) (List.mem_of_getElem? (i := 21) rfl), rfl⟩
theorem pX10_whose_38 : At cX10_whose 38 (.iconst 0) 1 39 := ⟨tX10_whose_0_ok (38, .iconst 0, 1) (List.mem_of_getElem? (i := 22) rfl), rfl⟩
theorem pX10_whose_39 : At cX10_whose 39 (.invokevirtual 61) 3 42 := ⟨tX10_whose_0_ok (39, .invokevirtual 61, 3) (List.mem_of_getElem? (i := 23) rfl), rfl⟩
theorem pX10_whose_42 : At cX10_whose 42 (.istore_n 3) 1 43 := ⟨tX10_whose_0_ok (42, .istore_n 3, 1) (List.mem_of_getElem? (i := 24) rfl), rfl⟩
theorem pX10_whose_43 : At cX10_whose 43 (.iconst (-1)) 1 44 := ⟨tX10_whose_0_ok (43, .iconst (-1), 1) (List.mem_of_getElem? (i := 25) rfl), rfl⟩
theorem pX10_whose_44 : At cX10_whose 44 (.istore 4) 2 46 := ⟨tX10_whose_0_ok (44, .istore 4, 2) (List.mem_of_getElem? (i := 26) rfl), rfl⟩
theorem pX10_whose_46 : At cX10_whose 46 (.bipush 6) 2 48 := ⟨tX10_whose_0_ok (46, .bipush 6, 2) (List.mem_of_getElem? (i := 27) rfl), rfl⟩
theorem pX10_whose_48 : At cX10_whose 48 (.istore 5) 2 50 := ⟨tX10_whose_0_ok (48, .istore 5, 2) (List.mem_of_getElem? (i := 28) rfl), rfl⟩
theorem pX10_whose_50 : At cX10_whose 50 (.iload 5) 2 52 := ⟨tX10_whose_0_ok (50, .iload 5, 2) (List.mem_of_getElem? (i := 29) rfl), rfl⟩
theorem pX10_whose_52 : Bt cX10_whose 52 (.ifCond .lt 35) 35 87 55 := ⟨tX10_whose_0_ok (52, .ifCond .lt 35, 3) (List.mem_of_getElem? (i := 30) rfl), by decide, rfl⟩
theorem pX10_whose_55 : At cX10_whose 55 (.aload_n 0) 1 56 := ⟨tX10_whose_0_ok (55, .aload_n 0, 1) (List.mem_of_getElem? (i := 31) rfl), rfl⟩
theorem pX10_whose_56 : At cX10_whose 56 (.iload_n 1) 1 57 := ⟨tX10_whose_0_ok (56, .iload_n 1, 1) (List.mem_of_getElem? (i := 32) rfl), rfl⟩
theorem pX10_whose_57 : At cX10_whose 57 (.iconst 0) 1 58 := ⟨tX10_whose_0_ok (57, .iconst 0, 1) (List.mem_of_getElem? (i := 33) rfl), rfl⟩
theorem pX10_whose_58 : At cX10_whose 58 (.iload 5) 2 60 := ⟨tX10_whose_0_ok (58, .iload 5, 2) (List.mem_of_getElem? (i := 34) rfl), rfl⟩
theorem pX10_whose_60 : At cX10_whose 60 (.invokevirtual 83) 3 63 := ⟨tX10_whose_0_ok (60, .invokevirtual 83, 3) (List.mem_of_getElem? (i := 35) rfl), rfl⟩
theorem pX10_whose_63 : At cX10_whose 63 (.aload_n 0) 1 64 := ⟨tX10_whose_0_ok (63, .aload_n 0, 1) (List.mem_of_getElem? (i := 36) rfl), rfl⟩
theorem pX10_whose_64 : At cX10_whose 64 (.iload_n 1) 1 65 := ⟨tX10_whose_0_ok (64, .iload_n 1, 1) (List.mem_of_getElem? (i := 37) rfl), rfl⟩
theorem pX10_whose_65 : At cX10_whose 65 (.iload_n 2) 1 66 := ⟨tX10_whose_0_ok (65, .iload_n 2, 1) (List.mem_of_getElem? (i := 38) rfl), rfl⟩
theorem pX10_whose_66 : At cX10_whose 66 (.invokevirtual 269) 3 69 := ⟨tX10_whose_0_ok (66, .invokevirtual 269, 3) (List.mem_of_getElem? (i := 39) rfl), rfl⟩
theorem pX10_whose_69 : Bt cX10_whose 69 (.ifCond .eq 8) 8 77 72 := ⟨tX10_whose_0_ok (69, .ifCond .eq 8, 3) (List.mem_of_getElem? (i := 40) rfl), by decide, rfl⟩
theorem pX10_whose_72 : At cX10_whose 72 (.iload 5) 2 74 := ⟨tX10_whose_0_ok (72, .iload 5, 2) (List.mem_of_getElem? (i := 41) rfl), rfl⟩
theorem pX10_whose_74 : Bt cX10_whose 74 (.goto 5) 5 79 77 := ⟨tX10_whose_0_ok (74, .goto 5, 3) (List.mem_of_getElem? (i := 42) rfl), by decide, rfl⟩
theorem pX10_whose_77 : At cX10_whose 77 (.iload 4) 2 79 := ⟨tX10_whose_0_ok (77, .iload 4, 2) (List.mem_of_getElem? (i := 43) rfl), rfl⟩
theorem pX10_whose_79 : At cX10_whose 79 (.istore 4) 2 81 := ⟨tX10_whose_0_ok (79, .istore 4, 2) (List.mem_of_getElem? (i := 44) rfl), rfl⟩
theorem pX10_whose_81 : At cX10_whose 81 (.iinc 5 (-1)) 3 84 := ⟨tX10_whose_0_ok (81, .iinc 5 (-1), 3) (List.mem_of_getElem? (i := 45) rfl), rfl⟩
theorem pX10_whose_84 : Bt cX10_whose 84 (.goto (-34)) (-34) 50 87 := ⟨tX10_whose_0_ok (84, .goto (-34), 3) (List.mem_of_getElem? (i := 46) rfl), by decide, rfl⟩
theorem pX10_whose_87 : At cX10_whose 87 (.aload_n 0) 1 88 := ⟨tX10_whose_0_ok (87, .aload_n 0, 1) (List.mem_of_getElem? (i := 47) rfl), rfl⟩
theorem pX10_whose_88 : At cX10_whose 88 (.iload_n 1) 1 89 := ⟨tX10_whose_0_ok (88, .iload_n 1, 1) (List.mem_of_getElem? (i := 48) rfl), rfl⟩
theorem pX10_whose_89 : At cX10_whose 89 (.iconst 0) 1 90 := ⟨tX10_whose_0_ok (89, .iconst 0, 1) (List.mem_of_getElem? (i := 49) rfl), rfl⟩
theorem pX10_whose_90 : At cX10_whose 90 (.iload_n 3) 1 91 := ⟨tX10_whose_0_ok (90, .iload_n 3, 1) (List.mem_of_getElem? (i := 50) rfl), rfl⟩
theorem pX10_whose_91 : At cX10_whose 91 (.invokevirtual 83) 3 94 := ⟨tX10_whose_0_ok (91, .invokevirtual 83, 3) (List.mem_of_getElem? (i := 51) rfl), rfl⟩
theorem pX10_whose_94 : At cX10_whose 94 (.iload 4) 2 96 := ⟨tX10_whose_0_ok (94, .iload 4, 2) (List.mem_of_getElem? (i := 52) rfl), rfl⟩
theorem pX10_whose_96 : Bt cX10_whose 96 (.ifCond .ge 11) 11 107 99 := ⟨tX10_whose_0_ok (96, .ifCond .ge 11, 3) (List.mem_of_getElem? (i := 53) rfl), by decide, rfl⟩
theorem pX10_whose_99 : At cX10_whose 99 (.aload_n 0) 1 100 := ⟨tX10_whose_0_ok (99, .aload_n 0, 1) (List.mem_of_getElem? (i := 54) rfl), rfl⟩
theorem pX10_whose_100 : At cX10_whose 100 (.iconst 2) 1 101 := ⟨tX10_whose_0_ok (100, .iconst 2, 1) (List.mem_of_getElem? (i := 55) rfl), rfl⟩
theorem pX10_whose_101 : At cX10_whose 101 (.invokevirtual 79) 3 104 := ⟨tX10_whose_0_ok (101, .invokevirtual 79, 3) (List.mem_of_getElem? (i := 56) rfl), rfl⟩
theorem pX10_whose_104 : Bt cX10_whose 104 (.goto 5) 5 109 107 := ⟨tX10_whose_0_ok (104, .goto 5, 3) (List.mem_of_getElem? (i := 57) rfl), by decide, rfl⟩
theorem pX10_whose_107 : At cX10_whose 107 (.iload 4) 2 109 := ⟨tX10_whose_0_ok (107, .iload 4, 2) (List.mem_of_getElem? (i := 58) rfl), rfl⟩
theorem pX10_whose_109 : At cX10_whose 109 (.ireturn) 1 110 := ⟨tX10_whose_0_ok (109, .ireturn, 1) (List.mem_of_getElem? (i := 59) rfl), rfl⟩
def tX10_manyOver_0 : List (Nat × Instr × Nat) := [(0, .iload 4, 2), (2, .ifCond .ne 22, 3), (5, .aload_n 0, 1), (6, .iload_n 1, 1), (7, .iconst 2, 1), (8, .invokevirtual 61, 3), (11, .bipush 40, 2), (13, .iload_n 2, 1), (14, .imul, 1), (15, .if_icmp .ne 7, 3), (18, .iconst 1, 1), (19, .goto 4, 3), (22, .iconst 0, 1), (23, .ireturn, 1), (24, .aload_n 0, 1), (25, .iload_n 1, 1), (26, .iconst 2, 1), (27, .invokevirtual 61, 3), (30, .istore 5, 2), (32, .aload_n 0, 1), (33, .iload_n 1, 1), (34, .iconst 3, 1), (35, .invokevirtual 61, 3), (38, .istore 6, 2), (40, .iconst 0, 1), (41, .istore 7, 2), (43, .iload_n 3, 1), (44, .ifCond .le 7, 3), (47, .iconst (-1), 1), (48, .goto 4, 3), (51, .iconst 0, 1), (52, .istore 8, 2), (54, .iload 8, 2), (56, .iload_n 3, 1), (57, .ifCond .le 7, 3), (60, .iconst 1, 1), (61, .goto 4, 3), (64, .iconst 0, 1), (65, .if_icmp .gt 86, 3), (68, .aload_n 0, 1), (69, .iload_n 1, 1), (70, .iconst 3, 1), (71, .iload 6, 2), (73, .iload 8, 2), (75, .iadd, 1), (76, .bipush (-9), 2), (78, .bipush 9, 2), (80, .invokestatic 112, 3), (83, .invokevirtual 83, 3), (86, .aload_n 0, 1), (87, .iload_n 1, 1), (88, .invokevirtual 201, 3), (91, .aload_n 0, 1), (92, .iload_n 1, 1), (93, .iconst 2, 1), (94, .aload_n 0, 1), (95, .getfield 195, 3), (98, .invokevirtual 83, 3), (101, .aload_n 0, 1), (102, .iload_n 1, 1), (103, .iconst 3, 1), (104, .aload_n 0, 1), (105, .getfield 198, 3), (108, .invokevirtual 83, 3), (111, .iload 7, 2), (113, .aload_n 0, 1), (114, .iload_n 1, 1), (115, .iload_n 2, 1), (116, .iload_n 3, 1), (117, .iconst 1, 1), (118, .isub, 1), (119, .iload 4, 2), (121, .iconst 1, 1), (122, .isub, 1), (123, .invokevirtual 272, 3), (126, .iadd, 1), (127, .istore 7, 2), (129, .aload_n 0, 1), (130, .iload_n 1, 1), (131, .iconst 2, 1), (132, .iload 5, 2), (134, .invokevirtual 83, 3), (137, .aload_n 0, 1), (138, .iload_n 1, 1), (139, .iconst 3, 1), (140, .iload 6, 2), (142, .invokevirtual 83, 3), (145, .iinc 8 1, 3), (148, .goto (-94), 3), (151, .iload 7, 2), (153, .ireturn, 1)]
theorem tX10_manyOver_0_ok : ∀ q ∈ tX10_manyOver_0, decode cX10_manyOver q.1 = .ok (q.2.1, q.2.2) := by decide +kernel
theorem pX10_manyOver_0 : At cX10_manyOver 0 (.iload 4) 2 2 := ⟨tX10_manyOver_0_ok (0, .iload 4, 2) (List.mem_of_getElem? (i := 0) rfl), rfl⟩
theorem pX10_manyOver_2 : Bt cX10_manyOver 2 (.ifCond .ne 22) 22 24 5 := ⟨tX10_manyOver_0_ok (2, .ifCond .ne 22, 3) (List.mem_of_getElem? (i := 1) rfl), by decide, rfl⟩
theorem pX10_manyOver_5 : At cX10_manyOver 5 (.aload_n 0) 1 6 := ⟨tX10_manyOver_0_ok (5, .aload_n 0, 1) (List.mem_of_getElem? (i := 2) rfl), rfl⟩
theorem pX10_manyOver_6 : At cX10_manyOver 6 (.iload_n 1) 1 7 := ⟨tX10_manyOver_0_ok (6, .iload_n 1, 1) (List.mem_of_getElem? (i := 3) rfl), rfl⟩
theorem pX10_manyOver_7 : At cX10_manyOver 7 (.iconst 2) 1 8 := ⟨tX10_manyOver_0_ok (7, .iconst 2, 1) (List.mem_of_getElem? (i := 4) rfl), rfl⟩
theorem pX10_manyOver_8 : At cX10_manyOver 8 (.invokevirtual 61) 3 11 := ⟨tX10_manyOver_0_ok (8, .invokevirtual 61, 3) (List.mem_of_getElem? (i := 5) rfl), rfl⟩
theorem pX10_manyOver_11 : At cX10_manyOver 11 (.bipush 40) 2 13 := ⟨tX10_manyOver_0_ok (11, .bipush 40, 2) (List.mem_of_getElem? (i := 6) rfl), rfl⟩
theorem pX10_manyOver_13 : At cX10_manyOver 13 (.iload_n 2) 1 14 := ⟨tX10_manyOver_0_ok (13, .iload_n 2, 1) (List.mem_of_getElem? (i := 7) rfl), rfl⟩
theorem pX10_manyOver_14 : At cX10_manyOver 14 (.imul) 1 15 := ⟨tX10_manyOver_0_ok (14, .imul, 1) (List.mem_of_getElem? (i := 8) rfl), rfl⟩
theorem pX10_manyOver_15 : Bt cX10_manyOver 15 (.if_icmp .ne 7) 7 22 18 := ⟨tX10_manyOver_0_ok (15, .if_icmp .ne 7, 3) (List.mem_of_getElem? (i := 9) rfl), by decide, rfl⟩
theorem pX10_manyOver_18 : At cX10_manyOver 18 (.iconst 1) 1 19 := ⟨tX10_manyOver_0_ok (18, .iconst 1, 1) (List.mem_of_getElem? (i := 10) rfl), rfl⟩
theorem pX10_manyOver_19 : Bt cX10_manyOver 19 (.goto 4) 4 23 22 := ⟨tX10_manyOver_0_ok (19, .goto 4, 3) (List.mem_of_getElem? (i := 11) rfl), by decide, rfl⟩
theorem pX10_manyOver_22 : At cX10_manyOver 22 (.iconst 0) 1 23 := ⟨tX10_manyOver_0_ok (22, .iconst 0, 1) (List.mem_of_getElem? (i := 12) rfl), rfl⟩
theorem pX10_manyOver_23 : At cX10_manyOver 23 (.ireturn) 1 24 := ⟨tX10_manyOver_0_ok (23, .ireturn, 1) (List.mem_of_getElem? (i := 13) rfl), rfl⟩
theorem pX10_manyOver_24 : At cX10_manyOver 24 (.aload_n 0) 1 25 := ⟨tX10_manyOver_0_ok (24, .aload_n 0, 1) (List.mem_of_getElem? (i := 14) rfl), rfl⟩
theorem pX10_manyOver_25 : At cX10_manyOver 25 (.iload_n 1) 1 26 := ⟨tX10_manyOver_0_ok (25, .iload_n 1, 1) (List.mem_of_getElem? (i := 15) rfl), rfl⟩
theorem pX10_manyOver_26 : At cX10_manyOver 26 (.iconst 2) 1 27 := ⟨tX10_manyOver_0_ok (26, .iconst 2, 1) (List.mem_of_getElem? (i := 16) rfl), rfl⟩
theorem pX10_manyOver_27 : At cX10_manyOver 27 (.invokevirtual 61) 3 30 := ⟨tX10_manyOver_0_ok (27, .invokevirtual 61, 3) (List.mem_of_getElem? (i := 17) rfl), rfl⟩
theorem pX10_manyOver_30 : At cX10_manyOver 30 (.istore 5) 2 32 := ⟨tX10_manyOver_0_ok (30, .istore 5, 2) (List.mem_of_getElem? (i := 18) rfl), rfl⟩
theorem pX10_manyOver_32 : At cX10_manyOver 32 (.aload_n 0) 1 33 := ⟨tX10_manyOver_0_ok (32, .aload_n 0, 1) (List.mem_of_getElem? (i := 19) rfl), rfl⟩
theorem pX10_manyOver_33 : At cX10_manyOver 33 (.iload_n 1) 1 34 := ⟨tX10_manyOver_0_ok (33, .iload_n 1, 1) (List.mem_of_getElem? (i := 20) rfl), rfl⟩
theorem pX10_manyOver_34 : At cX10_manyOver 34 (.iconst 3) 1 35 := ⟨tX10_manyOver_0_ok (34, .iconst 3, 1) (List.mem_of_getElem? (i := 21) rfl), rfl⟩
theorem pX10_manyOver_35 : At cX10_manyOver 35 (.invokevirtual 61) 3 38 := ⟨tX10_manyOver_0_ok (35, .invokevirtual 61, 3) (List.mem_of_getElem? (i := 22) rfl), rfl⟩
theorem pX10_manyOver_38 : At cX10_manyOver 38 (.istore 6) 2 40 := ⟨tX10_manyOver_0_ok (38, .istore 6, 2) (List.mem_of_getElem? (i := 23) rfl), rfl⟩
theorem pX10_manyOver_40 : At cX10_manyOver 40 (.iconst 0) 1 41 := ⟨tX10_manyOver_0_ok (40, .iconst 0, 1) (List.mem_of_getElem? (i := 24) rfl), rfl⟩
theorem pX10_manyOver_41 : At cX10_manyOver 41 (.istore 7) 2 43 := ⟨tX10_manyOver_0_ok (41, .istore 7, 2) (List.mem_of_getElem? (i := 25) rfl), rfl⟩
theorem pX10_manyOver_43 : At cX10_manyOver 43 (.iload_n 3) 1 44 := ⟨tX10_manyOver_0_ok (43, .iload_n 3, 1) (List.mem_of_getElem? (i := 26) rfl), rfl⟩
theorem pX10_manyOver_44 : Bt cX10_manyOver 44 (.ifCond .le 7) 7 51 47 := ⟨tX10_manyOver_0_ok (44, .ifCond .le 7, 3) (List.mem_of_getElem? (i := 27) rfl), by decide, rfl⟩
theorem pX10_manyOver_47 : At cX10_manyOver 47 (.iconst (-1)) 1 48 := ⟨tX10_manyOver_0_ok (47, .iconst (-1), 1) (List.mem_of_getElem? (i := 28) rfl), rfl⟩
theorem pX10_manyOver_48 : Bt cX10_manyOver 48 (.goto 4) 4 52 51 := ⟨tX10_manyOver_0_ok (48, .goto 4, 3) (List.mem_of_getElem? (i := 29) rfl), by decide, rfl⟩
theorem pX10_manyOver_51 : At cX10_manyOver 51 (.iconst 0) 1 52 := ⟨tX10_manyOver_0_ok (51, .iconst 0, 1) (List.mem_of_getElem? (i := 30) rfl), rfl⟩
theorem pX10_manyOver_52 : At cX10_manyOver 52 (.istore 8) 2 54 := ⟨tX10_manyOver_0_ok (52, .istore 8, 2) (List.mem_of_getElem? (i := 31) rfl), rfl⟩
theorem pX10_manyOver_54 : At cX10_manyOver 54 (.iload 8) 2 56 := ⟨tX10_manyOver_0_ok (54, .iload 8, 2) (List.mem_of_getElem? (i := 32) rfl), rfl⟩
theorem pX10_manyOver_56 : At cX10_manyOver 56 (.iload_n 3) 1 57 := ⟨tX10_manyOver_0_ok (56, .iload_n 3, 1) (List.mem_of_getElem? (i := 33) rfl), rfl⟩
theorem pX10_manyOver_57 : Bt cX10_manyOver 57 (.ifCond .le 7) 7 64 60 := ⟨tX10_manyOver_0_ok (57, .ifCond .le 7, 3) (List.mem_of_getElem? (i := 34) rfl), by decide, rfl⟩
theorem pX10_manyOver_60 : At cX10_manyOver 60 (.iconst 1) 1 61 := ⟨tX10_manyOver_0_ok (60, .iconst 1, 1) (List.mem_of_getElem? (i := 35) rfl), rfl⟩
theorem pX10_manyOver_61 : Bt cX10_manyOver 61 (.goto 4) 4 65 64 := ⟨tX10_manyOver_0_ok (61, .goto 4, 3) (List.mem_of_getElem? (i := 36) rfl), by decide, rfl⟩
theorem pX10_manyOver_64 : At cX10_manyOver 64 (.iconst 0) 1 65 := ⟨tX10_manyOver_0_ok (64, .iconst 0, 1) (List.mem_of_getElem? (i := 37) rfl), rfl⟩
theorem pX10_manyOver_65 : Bt cX10_manyOver 65 (.if_icmp .gt 86) 86 151 68 := ⟨tX10_manyOver_0_ok (65, .if_icmp .gt 86, 3) (List.mem_of_getElem? (i := 38) rfl), by decide, rfl⟩
theorem pX10_manyOver_68 : At cX10_manyOver 68 (.aload_n 0) 1 69 := ⟨tX10_manyOver_0_ok (68, .aload_n 0, 1) (List.mem_of_getElem? (i := 39) rfl), rfl⟩
theorem pX10_manyOver_69 : At cX10_manyOver 69 (.iload_n 1) 1 70 := ⟨tX10_manyOver_0_ok (69, .iload_n 1, 1) (List.mem_of_getElem? (i := 40) rfl), rfl⟩
theorem pX10_manyOver_70 : At cX10_manyOver 70 (.iconst 3) 1 71 := ⟨tX10_manyOver_0_ok (70, .iconst 3, 1) (List.mem_of_getElem? (i := 41) rfl), rfl⟩
theorem pX10_manyOver_71 : At cX10_manyOver 71 (.iload 6) 2 73 := ⟨tX10_manyOver_0_ok (71, .iload 6, 2) (List.mem_of_getElem? (i := 42) rfl), rfl⟩
theorem pX10_manyOver_73 : At cX10_manyOver 73 (.iload 8) 2 75 := ⟨tX10_manyOver_0_ok (73, .iload 8, 2) (List.mem_of_getElem? (i := 43) rfl), rfl⟩
theorem pX10_manyOver_75 : At cX10_manyOver 75 (.iadd) 1 76 := ⟨tX10_manyOver_0_ok (75, .iadd, 1) (List.mem_of_getElem? (i := 44) rfl), rfl⟩
theorem pX10_manyOver_76 : At cX10_manyOver 76 (.bipush (-9)) 2 78 := ⟨tX10_manyOver_0_ok (76, .bipush (-9), 2) (List.mem_of_getElem? (i := 45) rfl), rfl⟩
theorem pX10_manyOver_78 : At cX10_manyOver 78 (.bipush 9) 2 80 := ⟨tX10_manyOver_0_ok (78, .bipush 9, 2) (List.mem_of_getElem? (i := 46) rfl), rfl⟩
theorem pX10_manyOver_80 : At cX10_manyOver 80 (.invokestatic 112) 3 83 := ⟨tX10_manyOver_0_ok (80, .invokestatic 112, 3) (List.mem_of_getElem? (i := 47) rfl), rfl⟩
theorem pX10_manyOver_83 : At cX10_manyOver 83 (.invokevirtual 83) 3 86 := ⟨tX10_manyOver_0_ok (83, .invokevirtual 83, 3) (List.mem_of_getElem? (i := 48) rfl), rfl⟩
theorem pX10_manyOver_86 : At cX10_manyOver 86 (.aload_n 0) 1 87 := ⟨tX10_manyOver_0_ok (86, .aload_n 0, 1) (List.mem_of_getElem? (i := 49) rfl), rfl⟩
theorem pX10_manyOver_87 : At cX10_manyOver 87 (.iload_n 1) 1 88 := ⟨tX10_manyOver_0_ok (87, .iload_n 1, 1) (List.mem_of_getElem? (i := 50) rfl), rfl⟩
theorem pX10_manyOver_88 : At cX10_manyOver 88 (.invokevirtual 201) 3 91 := ⟨tX10_manyOver_0_ok (88, .invokevirtual 201, 3) (List.mem_of_getElem? (i := 51) rfl), rfl⟩
theorem pX10_manyOver_91 : At cX10_manyOver 91 (.aload_n 0) 1 92 := ⟨tX10_manyOver_0_ok (91, .aload_n 0, 1) (List.mem_of_getElem? (i := 52) rfl), rfl⟩
theorem pX10_manyOver_92 : At cX10_manyOver 92 (.iload_n 1) 1 93 := ⟨tX10_manyOver_0_ok (92, .iload_n 1, 1) (List.mem_of_getElem? (i := 53) rfl), rfl⟩
theorem pX10_manyOver_93 : At cX10_manyOver 93 (.iconst 2) 1 94 := ⟨tX10_manyOver_0_ok (93, .iconst 2, 1) (List.mem_of_getElem? (i := 54) rfl), rfl⟩
theorem pX10_manyOver_94 : At cX10_manyOver 94 (.aload_n 0) 1 95 := ⟨tX10_manyOver_0_ok (94, .aload_n 0, 1) (List.mem_of_getElem? (i := 55) rfl), rfl⟩
theorem pX10_manyOver_95 : At cX10_manyOver 95 (.getfield 195) 3 98 := ⟨tX10_manyOver_0_ok (95, .getfield 195, 3) (List.mem_of_getElem? (i := 56) rfl), rfl⟩
theorem pX10_manyOver_98 : At cX10_manyOver 98 (.invokevirtual 83) 3 101 := ⟨tX10_manyOver_0_ok (98, .invokevirtual 83, 3) (List.mem_of_getElem? (i := 57) rfl), rfl⟩
theorem pX10_manyOver_101 : At cX10_manyOver 101 (.aload_n 0) 1 102 := ⟨tX10_manyOver_0_ok (101, .aload_n 0, 1) (List.mem_of_getElem? (i := 58) rfl), rfl⟩
theorem pX10_manyOver_102 : At cX10_manyOver 102 (.iload_n 1) 1 103 := ⟨tX10_manyOver_0_ok (102, .iload_n 1, 1) (List.mem_of_getElem? (i := 59) rfl), rfl⟩
theorem pX10_manyOver_103 : At cX10_manyOver 103 (.iconst 3) 1 104 := ⟨tX10_manyOver_0_ok (103, .iconst 3, 1) (List.mem_of_getElem? (i := 60) rfl), rfl⟩
theorem pX10_manyOver_104 : At cX10_manyOver 104 (.aload_n 0) 1 105 := ⟨tX10_manyOver_0_ok (104, .aload_n 0, 1) (List.mem_of_getElem? (i := 61) rfl), rfl⟩
theorem pX10_manyOver_105 : At cX10_manyOver 105 (.getfield 198) 3 108 := ⟨tX10_manyOver_0_ok (105, .getfield 198, 3) (List.mem_of_getElem? (i := 62) rfl), rfl⟩
theorem pX10_manyOver_108 : At cX10_manyOver 108 (.invokevirtual 83) 3 111 := ⟨tX10_manyOver_0_ok (108, .invokevirtual 83, 3) (List.mem_of_getElem? (i := 63) rfl), rfl⟩
theorem pX10_manyOver_111 : At cX10_manyOver 111 (.iload 7) 2 113 := ⟨tX10_manyOver_0_ok (111, .iload 7, 2) (List.mem_of_getElem? (i := 64) rfl), rfl⟩
theorem pX10_manyOver_113 : At cX10_manyOver 113 (.aload_n 0) 1 114 := ⟨tX10_manyOver_0_ok (113, .aload_n 0, 1) (List.mem_of_getElem? (i := 65) rfl), rfl⟩
theorem pX10_manyOver_114 : At cX10_manyOver 114 (.iload_n 1) 1 115 := ⟨tX10_manyOver_0_ok (114, .iload_n 1, 1) (List.mem_of_getElem? (i := 66) rfl), rfl⟩
theorem pX10_manyOver_115 : At cX10_manyOver 115 (.iload_n 2) 1 116 := ⟨tX10_manyOver_0_ok (115, .iload_n 2, 1) (List.mem_of_getElem? (i := 67) rfl), rfl⟩
theorem pX10_manyOver_116 : At cX10_manyOver 116 (.iload_n 3) 1 117 := ⟨tX10_manyOver_0_ok (116, .iload_n 3, 1) (List.mem_of_getElem? (i := 68) rfl), rfl⟩
theorem pX10_manyOver_117 : At cX10_manyOver 117 (.iconst 1) 1 118 := ⟨tX10_manyOver_0_ok (117, .iconst 1, 1) (List.mem_of_getElem? (i := 69) rfl), rfl⟩
theorem pX10_manyOver_118 : At cX10_manyOver 118 (.isub) 1 119 := ⟨tX10_manyOver_0_ok (118, .isub, 1) (List.mem_of_getElem? (i := 70) rfl), rfl⟩
theorem pX10_manyOver_119 : At cX10_manyOver 119 (.iload 4) 2 121 := ⟨tX10_manyOver_0_ok (119, .iload 4, 2) (List.mem_of_getElem? (i := 71) rfl), rfl⟩
theorem pX10_manyOver_121 : At cX10_manyOver 121 (.iconst 1) 1 122 := ⟨tX10_manyOver_0_ok (121, .iconst 1, 1) (List.mem_of_getElem? (i := 72) rfl), rfl⟩
theorem pX10_manyOver_122 : At cX10_manyOver 122 (.isub) 1 123 := ⟨tX10_manyOver_0_ok (122, .isub, 1) (List.mem_of_getElem? (i := 73) rfl), rfl⟩
theorem pX10_manyOver_123 : At cX10_manyOver 123 (.invokevirtual 272) 3 126 := ⟨tX10_manyOver_0_ok (123, .invokevirtual 272, 3) (List.mem_of_getElem? (i := 74) rfl), rfl⟩
theorem pX10_manyOver_126 : At cX10_manyOver 126 (.iadd) 1 127 := ⟨tX10_manyOver_0_ok (126, .iadd, 1) (List.mem_of_getElem? (i := 75) rfl), rfl⟩
theorem pX10_manyOver_127 : At cX10_manyOver 127 (.istore 7) 2 129 := ⟨tX10_manyOver_0_ok (127, .istore 7, 2) (List.mem_of_getElem? (i := 76) rfl), rfl⟩
theorem pX10_manyOver_129 : At cX10_manyOver 129 (.aload_n 0) 1 130 := ⟨tX10_manyOver_0_ok (129, .aload_n 0, 1) (List.mem_of_getElem? (i := 77) rfl), rfl⟩
theorem pX10_manyOver_130 : At cX10_manyOver 130 (.iload_n 1) 1 131 := ⟨tX10_manyOver_0_ok (130, .iload_n 1, 1) (List.mem_of_getElem? (i := 78) rfl), rfl⟩
theorem pX10_manyOver_131 : At cX10_manyOver 131 (.iconst 2) 1 132 := ⟨tX10_manyOver_0_ok (131, .iconst 2, 1) (List.mem_of_getElem? (i := 79) rfl), rfl⟩
theorem pX10_manyOver_132 : At cX10_manyOver 132 (.iload 5) 2 134 := ⟨tX10_manyOver_0_ok (132, .iload 5, 2) (List.mem_of_getElem? (i := 80) rfl), rfl⟩
theorem pX10_manyOver_134 : At cX10_manyOver 134 (.invokevirtual 83) 3 137 := ⟨tX10_manyOver_0_ok (134, .invokevirtual 83, 3) (List.mem_of_getElem? (i := 81) rfl), rfl⟩
theorem pX10_manyOver_137 : At cX10_manyOver 137 (.aload_n 0) 1 138 := ⟨tX10_manyOver_0_ok (137, .aload_n 0, 1) (List.mem_of_getElem? (i := 82) rfl), rfl⟩
theorem pX10_manyOver_138 : At cX10_manyOver 138 (.iload_n 1) 1 139 := ⟨tX10_manyOver_0_ok (138, .iload_n 1, 1) (List.mem_of_getElem? (i := 83) rfl), rfl⟩
theorem pX10_manyOver_139 : At cX10_manyOver 139 (.iconst 3) 1 140 := ⟨tX10_manyOver_0_ok (139, .iconst 3, 1) (List.mem_of_getElem? (i := 84) rfl), rfl⟩
theorem pX10_manyOver_140 : At cX10_manyOver 140 (.iload 6) 2 142 := ⟨tX10_manyOver_0_ok (140, .iload 6, 2) (List.mem_of_getElem? (i := 85) rfl), rfl⟩
theorem pX10_manyOver_142 : At cX10_manyOver 142 (.invokevirtual 83) 3 145 := ⟨tX10_manyOver_0_ok (142, .invokevirtual 83, 3) (List.mem_of_getElem? (i := 86) rfl), rfl⟩
theorem pX10_manyOver_145 : At cX10_manyOver 145 (.iinc 8 1) 3 148 := ⟨tX10_manyOver_0_ok (145, .iinc 8 1, 3) (List.mem_of_getElem? (i := 87) rfl), rfl⟩
theorem pX10_manyOver_148 : Bt cX10_manyOver 148 (.goto (-94)) (-94) 54 151 := ⟨tX10_manyOver_0_ok (148, .goto (-94), 3) (List.mem_of_getElem? (i := 88) rfl), by decide, rfl⟩
theorem pX10_manyOver_151 : At cX10_manyOver 151 (.iload 7) 2 153 := ⟨tX10_manyOver_0_ok (151, .iload 7, 2) (List.mem_of_getElem? (i := 89) rfl), rfl⟩
theorem pX10_manyOver_153 : At cX10_manyOver 153 (.ireturn) 1 154 := ⟨tX10_manyOver_0_ok (153, .ireturn, 1) (List.mem_of_getElem? (i := 90) rfl), rfl⟩
def tX10_odds_0 : List (Nat × Instr × Nat) := [(0, .aload_n 0, 1), (1, .iload_n 1, 1), (2, .invokevirtual 87, 3), (5, .ifCond .eq 33, 3), (8, .iload_n 2, 1), (9, .invokestatic 126, 3), (12, .ifCond .eq 26, 3), (15, .iload_n 3, 1), (16, .i2l, 1), (17, .lconst 0, 1), (18, .ldc2_w 275, 3), (21, .invokestatic 53, 3), (24, .ifCond .eq 14, 3), (27, .iload 4, 2), (29, .i2l, 1), (30, .lconst 0, 1), (31, .lconst 1, 1), (32, .invokestatic 53, 3), (35, .ifCond .ne 9, 3), (38, .aload_n 0, 1), (39, .iconst 1, 1), (40, .invokevirtual 79, 3), (43, .ireturn, 1), (44, .iconst 1, 1), (45, .istore 5, 2), (47, .iconst 0, 1), (48, .istore 6, 2), (50, .iload 6, 2), (52, .iload_n 3, 1), (53, .if_icmp .ge 15, 3), (56, .iload 5, 2), (58, .iconst 3, 1), (59, .imul, 1), (60, .istore 5, 2), (62, .iinc 6 1, 3), (65, .goto (-15), 3), (68, .aload_n 0, 1), (69, .iload_n 1, 1), (70, .iload_n 2, 1), (71, .iload_n 3, 1), (72, .bipush 50, 2), (74, .invokevirtual 272, 3), (77, .istore 6, 2), (79, .iload 5, 2), (81, .iconst 3, 1), (82, .irem, 1), (83, .ifCond .ne 25, 3), (86, .iload 6, 2), (88, .iconst 3, 1), (89, .irem, 1), (90, .ifCond .ne 18, 3), (93, .iload 5, 2), (95, .iconst 3, 1), (96, .idiv, 1), (97, .istore 5, 2), (99, .iload 6, 2), (101, .iconst 3, 1), (102, .idiv, 1), (103, .istore 6, 2), (105, .goto (-26), 3), (108, .iload 4, 2), (110, .ifCond .ne 8, 3), (113, .iload 6, 2), (115, .goto 14, 3), (118, .iload 6, 2), (120, .ifCond .ne 7, 3), (123, .iconst 1, 1), (124, .goto 5, 3), (127, .iload 5, 2), (129, .ireturn, 1)]
theorem tX10_odds_0_ok : ∀ q ∈ tX10_odds_0, decode cX10_odds q.1 = .ok (q.2.1, q.2.2) := by decide +kernel
theorem pX10_odds_0 : At cX10_odds 0 (.aload_n 0) 1 1 := ⟨tX10_odds_0_ok (0, .aload_n 0, 1) (List.mem_of_getElem? (i := 0) rfl), rfl⟩
theorem pX10_odds_1 : At cX10_odds 1 (.iload_n 1) 1 2 := ⟨tX10_odds_0_ok (1, .iload_n 1, 1) (List.mem_of_getElem? (i := 1) rfl), rfl⟩
theorem pX10_odds_2 : At cX10_odds 2 (.invokevirtual 87) 3 5 := ⟨tX10_odds_0_ok (2, .invokevirtual 87, 3) (List.mem_of_getElem? (i := 2) rfl), rfl⟩
theorem pX10_odds_5 : Bt cX10_odds 5 (.ifCond .eq 33) 33 38 8 := ⟨tX10_odds_0_ok (5, .ifCond .eq 33, 3) (List.mem_of_getElem? (i := 3) rfl), by decide, rfl⟩
theorem pX10_odds_8 : At cX10_odds 8 (.iload_n 2) 1 9 := ⟨tX10_odds_0_ok (8, .iload_n 2, 1) (List.mem_of_getElem? (i := 4) rfl), rfl⟩
theorem pX10_odds_9 : At cX10_odds 9 (.invokestatic 126) 3 12 := ⟨tX10_odds_0_ok (9, .invokestatic 126, 3) (List.mem_of_getElem? (i := 5) rfl), rfl⟩
theorem pX10_odds_12 : Bt cX10_odds 12 (.ifCond .eq 26) 26 38 15 := ⟨tX10_odds_0_ok (12, .ifCond .eq 26, 3) (List.mem_of_getElem? (i := 6) rfl), by decide, rfl⟩
theorem pX10_odds_15 : At cX10_odds 15 (.iload_n 3) 1 16 := ⟨tX10_odds_0_ok (15, .iload_n 3, 1) (List.mem_of_getElem? (i := 7) rfl), rfl⟩
theorem pX10_odds_16 : At cX10_odds 16 (.i2l) 1 17 := ⟨tX10_odds_0_ok (16, .i2l, 1) (List.mem_of_getElem? (i := 8) rfl), rfl⟩
theorem pX10_odds_17 : At cX10_odds 17 (.lconst 0) 1 18 := ⟨tX10_odds_0_ok (17, .lconst 0, 1) (List.mem_of_getElem? (i := 9) rfl), rfl⟩
theorem pX10_odds_18 : At cX10_odds 18 (.ldc2_w 275) 3 21 := ⟨tX10_odds_0_ok (18, .ldc2_w 275, 3) (List.mem_of_getElem? (i := 10) rfl), rfl⟩
theorem pX10_odds_21 : At cX10_odds 21 (.invokestatic 53) 3 24 := ⟨tX10_odds_0_ok (21, .invokestatic 53, 3) (List.mem_of_getElem? (i := 11) rfl), rfl⟩
theorem pX10_odds_24 : Bt cX10_odds 24 (.ifCond .eq 14) 14 38 27 := ⟨tX10_odds_0_ok (24, .ifCond .eq 14, 3) (List.mem_of_getElem? (i := 12) rfl), by decide, rfl⟩
theorem pX10_odds_27 : At cX10_odds 27 (.iload 4) 2 29 := ⟨tX10_odds_0_ok (27, .iload 4, 2) (List.mem_of_getElem? (i := 13) rfl), rfl⟩
theorem pX10_odds_29 : At cX10_odds 29 (.i2l) 1 30 := ⟨tX10_odds_0_ok (29, .i2l, 1) (List.mem_of_getElem? (i := 14) rfl), rfl⟩
theorem pX10_odds_30 : At cX10_odds 30 (.lconst 0) 1 31 := ⟨tX10_odds_0_ok (30, .lconst 0, 1) (List.mem_of_getElem? (i := 15) rfl), rfl⟩
theorem pX10_odds_31 : At cX10_odds 31 (.lconst 1) 1 32 := ⟨tX10_odds_0_ok (31, .lconst 1, 1) (List.mem_of_getElem? (i := 16) rfl), rfl⟩
theorem pX10_odds_32 : At cX10_odds 32 (.invokestatic 53) 3 35 := ⟨tX10_odds_0_ok (32, .invokestatic 53, 3) (List.mem_of_getElem? (i := 17) rfl), rfl⟩
theorem pX10_odds_35 : Bt cX10_odds 35 (.ifCond .ne 9) 9 44 38 := ⟨tX10_odds_0_ok (35, .ifCond .ne 9, 3) (List.mem_of_getElem? (i := 18) rfl), by decide, rfl⟩
theorem pX10_odds_38 : At cX10_odds 38 (.aload_n 0) 1 39 := ⟨tX10_odds_0_ok (38, .aload_n 0, 1) (List.mem_of_getElem? (i := 19) rfl), rfl⟩
theorem pX10_odds_39 : At cX10_odds 39 (.iconst 1) 1 40 := ⟨tX10_odds_0_ok (39, .iconst 1, 1) (List.mem_of_getElem? (i := 20) rfl), rfl⟩
theorem pX10_odds_40 : At cX10_odds 40 (.invokevirtual 79) 3 43 := ⟨tX10_odds_0_ok (40, .invokevirtual 79, 3) (List.mem_of_getElem? (i := 21) rfl), rfl⟩
theorem pX10_odds_43 : At cX10_odds 43 (.ireturn) 1 44 := ⟨tX10_odds_0_ok (43, .ireturn, 1) (List.mem_of_getElem? (i := 22) rfl), rfl⟩
theorem pX10_odds_44 : At cX10_odds 44 (.iconst 1) 1 45 := ⟨tX10_odds_0_ok (44, .iconst 1, 1) (List.mem_of_getElem? (i := 23) rfl), rfl⟩
theorem pX10_odds_45 : At cX10_odds 45 (.istore 5) 2 47 := ⟨tX10_odds_0_ok (45, .istore 5, 2) (List.mem_of_getElem? (i := 24) rfl), rfl⟩
theorem pX10_odds_47 : At cX10_odds 47 (.iconst 0) 1 48 := ⟨tX10_odds_0_ok (47, .iconst 0, 1) (List.mem_of_getElem? (i := 25) rfl), rfl⟩
theorem pX10_odds_48 : At cX10_odds 48 (.istore 6) 2 50 := ⟨tX10_odds_0_ok (48, .istore 6, 2) (List.mem_of_getElem? (i := 26) rfl), rfl⟩
theorem pX10_odds_50 : At cX10_odds 50 (.iload 6) 2 52 := ⟨tX10_odds_0_ok (50, .iload 6, 2) (List.mem_of_getElem? (i := 27) rfl), rfl⟩
theorem pX10_odds_52 : At cX10_odds 52 (.iload_n 3) 1 53 := ⟨tX10_odds_0_ok (52, .iload_n 3, 1) (List.mem_of_getElem? (i := 28) rfl), rfl⟩
theorem pX10_odds_53 : Bt cX10_odds 53 (.if_icmp .ge 15) 15 68 56 := ⟨tX10_odds_0_ok (53, .if_icmp .ge 15, 3) (List.mem_of_getElem? (i := 29) rfl), by decide, rfl⟩
theorem pX10_odds_56 : At cX10_odds 56 (.iload 5) 2 58 := ⟨tX10_odds_0_ok (56, .iload 5, 2) (List.mem_of_getElem? (i := 30) rfl), rfl⟩
theorem pX10_odds_58 : At cX10_odds 58 (.iconst 3) 1 59 := ⟨tX10_odds_0_ok (58, .iconst 3, 1) (List.mem_of_getElem? (i := 31) rfl), rfl⟩
theorem pX10_odds_59 : At cX10_odds 59 (.imul) 1 60 := ⟨tX10_odds_0_ok (59, .imul, 1) (List.mem_of_getElem? (i := 32) rfl), rfl⟩
theorem pX10_odds_60 : At cX10_odds 60 (.istore 5) 2 62 := ⟨tX10_odds_0_ok (60, .istore 5, 2) (List.mem_of_getElem? (i := 33) rfl), rfl⟩
theorem pX10_odds_62 : At cX10_odds 62 (.iinc 6 1) 3 65 := ⟨tX10_odds_0_ok (62, .iinc 6 1, 3) (List.mem_of_getElem? (i := 34) rfl), rfl⟩
theorem pX10_odds_65 : Bt cX10_odds 65 (.goto (-15)) (-15) 50 68 := ⟨tX10_odds_0_ok (65, .goto (-15), 3) (List.mem_of_getElem? (i := 35) rfl), by decide, rfl⟩
theorem pX10_odds_68 : At cX10_odds 68 (.aload_n 0) 1 69 := ⟨tX10_odds_0_ok (68, .aload_n 0, 1) (List.mem_of_getElem? (i := 36) rfl), rfl⟩
theorem pX10_odds_69 : At cX10_odds 69 (.iload_n 1) 1 70 := ⟨tX10_odds_0_ok (69, .iload_n 1, 1) (List.mem_of_getElem? (i := 37) rfl), rfl⟩
theorem pX10_odds_70 : At cX10_odds 70 (.iload_n 2) 1 71 := ⟨tX10_odds_0_ok (70, .iload_n 2, 1) (List.mem_of_getElem? (i := 38) rfl), rfl⟩
theorem pX10_odds_71 : At cX10_odds 71 (.iload_n 3) 1 72 := ⟨tX10_odds_0_ok (71, .iload_n 3, 1) (List.mem_of_getElem? (i := 39) rfl), rfl⟩
theorem pX10_odds_72 : At cX10_odds 72 (.bipush 50) 2 74 := ⟨tX10_odds_0_ok (72, .bipush 50, 2) (List.mem_of_getElem? (i := 40) rfl), rfl⟩
theorem pX10_odds_74 : At cX10_odds 74 (.invokevirtual 272) 3 77 := ⟨tX10_odds_0_ok (74, .invokevirtual 272, 3) (List.mem_of_getElem? (i := 41) rfl), rfl⟩
theorem pX10_odds_77 : At cX10_odds 77 (.istore 6) 2 79 := ⟨tX10_odds_0_ok (77, .istore 6, 2) (List.mem_of_getElem? (i := 42) rfl), rfl⟩
theorem pX10_odds_79 : At cX10_odds 79 (.iload 5) 2 81 := ⟨tX10_odds_0_ok (79, .iload 5, 2) (List.mem_of_getElem? (i := 43) rfl), rfl⟩
theorem pX10_odds_81 : At cX10_odds 81 (.iconst 3) 1 82 := ⟨tX10_odds_0_ok (81, .iconst 3, 1) (List.mem_of_getElem? (i := 44) rfl), rfl⟩
theorem pX10_odds_82 : At cX10_odds 82 (.irem) 1 83 := ⟨tX10_odds_0_ok (82, .irem, 1) (List.mem_of_getElem? (i := 45) rfl), rfl⟩
theorem pX10_odds_83 : Bt cX10_odds 83 (.ifCond .ne 25) 25 108 86 := ⟨tX10_odds_0_ok (83, .ifCond .ne 25, 3) (List.mem_of_getElem? (i := 46) rfl), by decide, rfl⟩
theorem pX10_odds_86 : At cX10_odds 86 (.iload 6) 2 88 := ⟨tX10_odds_0_ok (86, .iload 6, 2) (List.mem_of_getElem? (i := 47) rfl), rfl⟩
theorem pX10_odds_88 : At cX10_odds 88 (.iconst 3) 1 89 := ⟨tX10_odds_0_ok (88, .iconst 3, 1) (List.mem_of_getElem? (i := 48) rfl), rfl⟩
theorem pX10_odds_89 : At cX10_odds 89 (.irem) 1 90 := ⟨tX10_odds_0_ok (89, .irem, 1) (List.mem_of_getElem? (i := 49) rfl), rfl⟩
theorem pX10_odds_90 : Bt cX10_odds 90 (.ifCond .ne 18) 18 108 93 := ⟨tX10_odds_0_ok (90, .ifCond .ne 18, 3) (List.mem_of_getElem? (i := 50) rfl), by decide, rfl⟩
theorem pX10_odds_93 : At cX10_odds 93 (.iload 5) 2 95 := ⟨tX10_odds_0_ok (93, .iload 5, 2) (List.mem_of_getElem? (i := 51) rfl), rfl⟩
theorem pX10_odds_95 : At cX10_odds 95 (.iconst 3) 1 96 := ⟨tX10_odds_0_ok (95, .iconst 3, 1) (List.mem_of_getElem? (i := 52) rfl), rfl⟩
theorem pX10_odds_96 : At cX10_odds 96 (.idiv) 1 97 := ⟨tX10_odds_0_ok (96, .idiv, 1) (List.mem_of_getElem? (i := 53) rfl), rfl⟩
theorem pX10_odds_97 : At cX10_odds 97 (.istore 5) 2 99 := ⟨tX10_odds_0_ok (97, .istore 5, 2) (List.mem_of_getElem? (i := 54) rfl), rfl⟩
theorem pX10_odds_99 : At cX10_odds 99 (.iload 6) 2 101 := ⟨tX10_odds_0_ok (99, .iload 6, 2) (List.mem_of_getElem? (i := 55) rfl), rfl⟩
theorem pX10_odds_101 : At cX10_odds 101 (.iconst 3) 1 102 := ⟨tX10_odds_0_ok (101, .iconst 3, 1) (List.mem_of_getElem? (i := 56) rfl), rfl⟩
theorem pX10_odds_102 : At cX10_odds 102 (.idiv) 1 103 := ⟨tX10_odds_0_ok (102, .idiv, 1) (List.mem_of_getElem? (i := 57) rfl), rfl⟩
theorem pX10_odds_103 : At cX10_odds 103 (.istore 6) 2 105 := ⟨tX10_odds_0_ok (103, .istore 6, 2) (List.mem_of_getElem? (i := 58) rfl), rfl⟩
theorem pX10_odds_105 : Bt cX10_odds 105 (.goto (-26)) (-26) 79 108 := ⟨tX10_odds_0_ok (105, .goto (-26), 3) (List.mem_of_getElem? (i := 59) rfl), by decide, rfl⟩
theorem pX10_odds_108 : At cX10_odds 108 (.iload 4) 2 110 := ⟨tX10_odds_0_ok (108, .iload 4, 2) (List.mem_of_getElem? (i := 60) rfl), rfl⟩
theorem pX10_odds_110 : Bt cX10_odds 110 (.ifCond .ne 8) 8 118 113 := ⟨tX10_odds_0_ok (110, .ifCond .ne 8, 3) (List.mem_of_getElem? (i := 61) rfl), by decide, rfl⟩
theorem pX10_odds_113 : At cX10_odds 113 (.iload 6) 2 115 := ⟨tX10_odds_0_ok (113, .iload 6, 2) (List.mem_of_getElem? (i := 62) rfl), rfl⟩
theorem pX10_odds_115 : Bt cX10_odds 115 (.goto 14) 14 129 118 := ⟨tX10_odds_0_ok (115, .goto 14, 3) (List.mem_of_getElem? (i := 63) rfl), by decide, rfl⟩
theorem pX10_odds_118 : At cX10_odds 118 (.iload 6) 2 120 := ⟨tX10_odds_0_ok (118, .iload 6, 2) (List.mem_of_getElem? (i := 64) rfl), rfl⟩
theorem pX10_odds_120 : Bt cX10_odds 120 (.ifCond .ne 7) 7 127 123 := ⟨tX10_odds_0_ok (120, .ifCond .ne 7, 3) (List.mem_of_getElem? (i := 65) rfl), by decide, rfl⟩
theorem pX10_odds_123 : At cX10_odds 123 (.iconst 1) 1 124 := ⟨tX10_odds_0_ok (123, .iconst 1, 1) (List.mem_of_getElem? (i := 66) rfl), rfl⟩
theorem pX10_odds_124 : Bt cX10_odds 124 (.goto 5) 5 129 127 := ⟨tX10_odds_0_ok (124, .goto 5, 3) (List.mem_of_getElem? (i := 67) rfl), by decide, rfl⟩
theorem pX10_odds_127 : At cX10_odds 127 (.iload 5) 2 129 := ⟨tX10_odds_0_ok (127, .iload 5, 2) (List.mem_of_getElem? (i := 68) rfl), rfl⟩
theorem pX10_odds_129 : At cX10_odds 129 (.ireturn) 1 130 := ⟨tX10_odds_0_ok (129, .ireturn, 1) (List.mem_of_getElem? (i := 69) rfl), rfl⟩
def tX10_seed_0 : List (Nat × Instr × Nat) := [(0, .aload_n 0, 1), (1, .getfield 9, 3), (4, .iconst 5, 1), (5, .iaload, 1), (6, .istore_n 2, 1), (7, .aload_n 0, 1), (8, .getfield 9, 3), (11, .iconst 5, 1), (12, .iload_n 1, 1), (13, .iastore, 1), (14, .iload_n 2, 1), (15, .ireturn, 1)]
theorem tX10_seed_0_ok : ∀ q ∈ tX10_seed_0, decode cX10_seed q.1 = .ok (q.2.1, q.2.2) := by decide +kernel
theorem pX10_seed_0 : At cX10_seed 0 (.aload_n 0) 1 1 := ⟨tX10_seed_0_ok (0, .aload_n 0, 1) (List.mem_of_getElem? (i := 0) rfl), rfl⟩
theorem pX10_seed_1 : At cX10_seed 1 (.getfield 9) 3 4 := ⟨tX10_seed_0_ok (1, .getfield 9, 3) (List.mem_of_getElem? (i := 1) rfl), rfl⟩
theorem pX10_seed_4 : At cX10_seed 4 (.iconst 5) 1 5 := ⟨tX10_seed_0_ok (4, .iconst 5, 1) (List.mem_of_getElem? (i := 2) rfl), rfl⟩
theorem pX10_seed_5 : At cX10_seed 5 (.iaload) 1 6 := ⟨tX10_seed_0_ok (5, .iaload, 1) (List.mem_of_getElem? (i := 3) rfl), rfl⟩
theorem pX10_seed_6 : At cX10_seed 6 (.istore_n 2) 1 7 := ⟨tX10_seed_0_ok (6, .istore_n 2, 1) (List.mem_of_getElem? (i := 4) rfl), rfl⟩
theorem pX10_seed_7 : At cX10_seed 7 (.aload_n 0) 1 8 := ⟨tX10_seed_0_ok (7, .aload_n 0, 1) (List.mem_of_getElem? (i := 5) rfl), rfl⟩
theorem pX10_seed_8 : At cX10_seed 8 (.getfield 9) 3 11 := ⟨tX10_seed_0_ok (8, .getfield 9, 3) (List.mem_of_getElem? (i := 6) rfl), rfl⟩
theorem pX10_seed_11 : At cX10_seed 11 (.iconst 5) 1 12 := ⟨tX10_seed_0_ok (11, .iconst 5, 1) (List.mem_of_getElem? (i := 7) rfl), rfl⟩
theorem pX10_seed_12 : At cX10_seed 12 (.iload_n 1) 1 13 := ⟨tX10_seed_0_ok (12, .iload_n 1, 1) (List.mem_of_getElem? (i := 8) rfl), rfl⟩
theorem pX10_seed_13 : At cX10_seed 13 (.iastore) 1 14 := ⟨tX10_seed_0_ok (13, .iastore, 1) (List.mem_of_getElem? (i := 9) rfl), rfl⟩
theorem pX10_seed_14 : At cX10_seed 14 (.iload_n 2) 1 15 := ⟨tX10_seed_0_ok (14, .iload_n 2, 1) (List.mem_of_getElem? (i := 10) rfl), rfl⟩
theorem pX10_seed_15 : At cX10_seed 15 (.ireturn) 1 16 := ⟨tX10_seed_0_ok (15, .ireturn, 1) (List.mem_of_getElem? (i := 11) rfl), rfl⟩
def tX10_begins_0 : List (Nat × Instr × Nat) := [(0, .aload_n 0, 1), (1, .getfield 277, 3), (4, .bipush 40, 2), (6, .if_icmp .ge 23, 3), (9, .aload_n 0, 1), (10, .getfield 46, 3), (13, .aload_n 0, 1), (14, .getfield 277, 3), (17, .iload_n 1, 1), (18, .iastore, 1), (19, .aload_n 0, 1), (20, .dup, 1), (21, .getfield 277, 3), (24, .iconst 1, 1), (25, .iadd, 1), (26, .putfield 277, 3), (29, .return_, 1)]
theorem tX10_begins_0_ok : ∀ q ∈ tX10_begins_0, decode cX10_begins q.1 = .ok (q.2.1, q.2.2) := by decide +kernel
theorem pX10_begins_0 : At cX10_begins 0 (.aload_n 0) 1 1 := ⟨tX10_begins_0_ok (0, .aload_n 0, 1) (List.mem_of_getElem? (i := 0) rfl), rfl⟩
theorem pX10_begins_1 : At cX10_begins 1 (.getfield 277) 3 4 := ⟨tX10_begins_0_ok (1, .getfield 277, 3) (List.mem_of_getElem? (i := 1) rfl), rfl⟩
theorem pX10_begins_4 : At cX10_begins 4 (.bipush 40) 2 6 := ⟨tX10_begins_0_ok (4, .bipush 40, 2) (List.mem_of_getElem? (i := 2) rfl), rfl⟩
theorem pX10_begins_6 : Bt cX10_begins 6 (.if_icmp .ge 23) 23 29 9 := ⟨tX10_begins_0_ok (6, .if_icmp .ge 23, 3) (List.mem_of_getElem? (i := 3) rfl), by decide, rfl⟩
theorem pX10_begins_9 : At cX10_begins 9 (.aload_n 0) 1 10 := ⟨tX10_begins_0_ok (9, .aload_n 0, 1) (List.mem_of_getElem? (i := 4) rfl), rfl⟩
theorem pX10_begins_10 : At cX10_begins 10 (.getfield 46) 3 13 := ⟨tX10_begins_0_ok (10, .getfield 46, 3) (List.mem_of_getElem? (i := 5) rfl), rfl⟩
theorem pX10_begins_13 : At cX10_begins 13 (.aload_n 0) 1 14 := ⟨tX10_begins_0_ok (13, .aload_n 0, 1) (List.mem_of_getElem? (i := 6) rfl), rfl⟩
theorem pX10_begins_14 : At cX10_begins 14 (.getfield 277) 3 17 := ⟨tX10_begins_0_ok (14, .getfield 277, 3) (List.mem_of_getElem? (i := 7) rfl), rfl⟩
theorem pX10_begins_17 : At cX10_begins 17 (.iload_n 1) 1 18 := ⟨tX10_begins_0_ok (17, .iload_n 1, 1) (List.mem_of_getElem? (i := 8) rfl), rfl⟩
theorem pX10_begins_18 : At cX10_begins 18 (.iastore) 1 19 := ⟨tX10_begins_0_ok (18, .iastore, 1) (List.mem_of_getElem? (i := 9) rfl), rfl⟩
theorem pX10_begins_19 : At cX10_begins 19 (.aload_n 0) 1 20 := ⟨tX10_begins_0_ok (19, .aload_n 0, 1) (List.mem_of_getElem? (i := 10) rfl), rfl⟩
theorem pX10_begins_20 : At cX10_begins 20 (.dup) 1 21 := ⟨tX10_begins_0_ok (20, .dup, 1) (List.mem_of_getElem? (i := 11) rfl), rfl⟩
theorem pX10_begins_21 : At cX10_begins 21 (.getfield 277) 3 24 := ⟨tX10_begins_0_ok (21, .getfield 277, 3) (List.mem_of_getElem? (i := 12) rfl), rfl⟩
theorem pX10_begins_24 : At cX10_begins 24 (.iconst 1) 1 25 := ⟨tX10_begins_0_ok (24, .iconst 1, 1) (List.mem_of_getElem? (i := 13) rfl), rfl⟩
theorem pX10_begins_25 : At cX10_begins 25 (.iadd) 1 26 := ⟨tX10_begins_0_ok (25, .iadd, 1) (List.mem_of_getElem? (i := 14) rfl), rfl⟩
theorem pX10_begins_26 : At cX10_begins 26 (.putfield 277) 3 29 := ⟨tX10_begins_0_ok (26, .putfield 277, 3) (List.mem_of_getElem? (i := 15) rfl), rfl⟩
theorem pX10_begins_29 : At cX10_begins 29 (.return_) 1 30 := ⟨tX10_begins_0_ok (29, .return_, 1) (List.mem_of_getElem? (i := 16) rfl), rfl⟩
def tX10_above_0 : List (Nat × Instr × Nat) := [(0, .iload_n 0, 1), (1, .iconst 4, 1), (2, .if_icmp .ne 7, 3), (5, .iconst 2, 1), (6, .goto 23, 3), (9, .iload_n 0, 1), (10, .iconst 5, 1), (11, .if_icmp .ne 7, 3), (14, .iconst 3, 1), (15, .goto 14, 3), (18, .iload_n 0, 1), (19, .bipush 6, 2), (21, .if_icmp .ne 7, 3), (24, .iconst 1, 1), (25, .goto 4, 3), (28, .iconst 0, 1), (29, .ireturn, 1)]
theorem tX10_above_0_ok : ∀ q ∈ tX10_above_0, decode cX10_above q.1 = .ok (q.2.1, q.2.2) := by decide +kernel
theorem pX10_above_0 : At cX10_above 0 (.iload_n 0) 1 1 := ⟨tX10_above_0_ok (0, .iload_n 0, 1) (List.mem_of_getElem? (i := 0) rfl), rfl⟩
theorem pX10_above_1 : At cX10_above 1 (.iconst 4) 1 2 := ⟨tX10_above_0_ok (1, .iconst 4, 1) (List.mem_of_getElem? (i := 1) rfl), rfl⟩
theorem pX10_above_2 : Bt cX10_above 2 (.if_icmp .ne 7) 7 9 5 := ⟨tX10_above_0_ok (2, .if_icmp .ne 7, 3) (List.mem_of_getElem? (i := 2) rfl), by decide, rfl⟩
theorem pX10_above_5 : At cX10_above 5 (.iconst 2) 1 6 := ⟨tX10_above_0_ok (5, .iconst 2, 1) (List.mem_of_getElem? (i := 3) rfl), rfl⟩
theorem pX10_above_6 : Bt cX10_above 6 (.goto 23) 23 29 9 := ⟨tX10_above_0_ok (6, .goto 23, 3) (List.mem_of_getElem? (i := 4) rfl), by decide, rfl⟩
theorem pX10_above_9 : At cX10_above 9 (.iload_n 0) 1 10 := ⟨tX10_above_0_ok (9, .iload_n 0, 1) (List.mem_of_getElem? (i := 5) rfl), rfl⟩
theorem pX10_above_10 : At cX10_above 10 (.iconst 5) 1 11 := ⟨tX10_above_0_ok (10, .iconst 5, 1) (List.mem_of_getElem? (i := 6) rfl), rfl⟩
theorem pX10_above_11 : Bt cX10_above 11 (.if_icmp .ne 7) 7 18 14 := ⟨tX10_above_0_ok (11, .if_icmp .ne 7, 3) (List.mem_of_getElem? (i := 7) rfl), by decide, rfl⟩
theorem pX10_above_14 : At cX10_above 14 (.iconst 3) 1 15 := ⟨tX10_above_0_ok (14, .iconst 3, 1) (List.mem_of_getElem? (i := 8) rfl), rfl⟩
theorem pX10_above_15 : Bt cX10_above 15 (.goto 14) 14 29 18 := ⟨tX10_above_0_ok (15, .goto 14, 3) (List.mem_of_getElem? (i := 9) rfl), by decide, rfl⟩
theorem pX10_above_18 : At cX10_above 18 (.iload_n 0) 1 19 := ⟨tX10_above_0_ok (18, .iload_n 0, 1) (List.mem_of_getElem? (i := 10) rfl), rfl⟩
theorem pX10_above_19 : At cX10_above 19 (.bipush 6) 2 21 := ⟨tX10_above_0_ok (19, .bipush 6, 2) (List.mem_of_getElem? (i := 11) rfl), rfl⟩
theorem pX10_above_21 : Bt cX10_above 21 (.if_icmp .ne 7) 7 28 24 := ⟨tX10_above_0_ok (21, .if_icmp .ne 7, 3) (List.mem_of_getElem? (i := 12) rfl), by decide, rfl⟩
theorem pX10_above_24 : At cX10_above 24 (.iconst 1) 1 25 := ⟨tX10_above_0_ok (24, .iconst 1, 1) (List.mem_of_getElem? (i := 13) rfl), rfl⟩
theorem pX10_above_25 : Bt cX10_above 25 (.goto 4) 4 29 28 := ⟨tX10_above_0_ok (25, .goto 4, 3) (List.mem_of_getElem? (i := 14) rfl), by decide, rfl⟩
theorem pX10_above_28 : At cX10_above 28 (.iconst 0) 1 29 := ⟨tX10_above_0_ok (28, .iconst 0, 1) (List.mem_of_getElem? (i := 15) rfl), rfl⟩
theorem pX10_above_29 : At cX10_above 29 (.ireturn) 1 30 := ⟨tX10_above_0_ok (29, .ireturn, 1) (List.mem_of_getElem? (i := 16) rfl), rfl⟩
def tX10_floats_0 : List (Nat × Instr × Nat) := [(0, .iload_n 1, 1), (1, .ifCond .ne 16, 3), (4, .aload_n 0, 1), (5, .bipush 10, 2), (7, .invokevirtual 280, 3), (10, .iload_n 2, 1), (11, .aload_n 0, 1), (12, .getfield 283, 3), (15, .iadd, 1), (16, .ireturn, 1), (17, .iload_n 1, 1), (18, .iconst 3, 1), (19, .if_icmp .eq 13, 3), (22, .aload_n 0, 1), (23, .iload_n 1, 1), (24, .invokestatic 286, 3), (27, .iload_n 2, 1), (28, .invokevirtual 289, 3), (31, .ireturn, 1), (32, .aload_n 0, 1), (33, .bipush 40, 2), (35, .invokevirtual 280, 3), (38, .aload_n 0, 1), (39, .iconst 0, 1), (40, .iload_n 2, 1), (41, .invokevirtual 289, 3), (44, .iconst 3, 1), (45, .imul, 1), (46, .ireturn, 1)]
theorem tX10_floats_0_ok : ∀ q ∈ tX10_floats_0, decode cX10_floats q.1 = .ok (q.2.1, q.2.2) := by decide +kernel
theorem pX10_floats_0 : At cX10_floats 0 (.iload_n 1) 1 1 := ⟨tX10_floats_0_ok (0, .iload_n 1, 1) (List.mem_of_getElem? (i := 0) rfl), rfl⟩
theorem pX10_floats_1 : Bt cX10_floats 1 (.ifCond .ne 16) 16 17 4 := ⟨tX10_floats_0_ok (1, .ifCond .ne 16, 3) (List.mem_of_getElem? (i := 1) rfl), by decide, rfl⟩
theorem pX10_floats_4 : At cX10_floats 4 (.aload_n 0) 1 5 := ⟨tX10_floats_0_ok (4, .aload_n 0, 1) (List.mem_of_getElem? (i := 2) rfl), rfl⟩
theorem pX10_floats_5 : At cX10_floats 5 (.bipush 10) 2 7 := ⟨tX10_floats_0_ok (5, .bipush 10, 2) (List.mem_of_getElem? (i := 3) rfl), rfl⟩
theorem pX10_floats_7 : At cX10_floats 7 (.invokevirtual 280) 3 10 := ⟨tX10_floats_0_ok (7, .invokevirtual 280, 3) (List.mem_of_getElem? (i := 4) rfl), rfl⟩
theorem pX10_floats_10 : At cX10_floats 10 (.iload_n 2) 1 11 := ⟨tX10_floats_0_ok (10, .iload_n 2, 1) (List.mem_of_getElem? (i := 5) rfl), rfl⟩
theorem pX10_floats_11 : At cX10_floats 11 (.aload_n 0) 1 12 := ⟨tX10_floats_0_ok (11, .aload_n 0, 1) (List.mem_of_getElem? (i := 6) rfl), rfl⟩
theorem pX10_floats_12 : At cX10_floats 12 (.getfield 283) 3 15 := ⟨tX10_floats_0_ok (12, .getfield 283, 3) (List.mem_of_getElem? (i := 7) rfl), rfl⟩
theorem pX10_floats_15 : At cX10_floats 15 (.iadd) 1 16 := ⟨tX10_floats_0_ok (15, .iadd, 1) (List.mem_of_getElem? (i := 8) rfl), rfl⟩
theorem pX10_floats_16 : At cX10_floats 16 (.ireturn) 1 17 := ⟨tX10_floats_0_ok (16, .ireturn, 1) (List.mem_of_getElem? (i := 9) rfl), rfl⟩
theorem pX10_floats_17 : At cX10_floats 17 (.iload_n 1) 1 18 := ⟨tX10_floats_0_ok (17, .iload_n 1, 1) (List.mem_of_getElem? (i := 10) rfl), rfl⟩
theorem pX10_floats_18 : At cX10_floats 18 (.iconst 3) 1 19 := ⟨tX10_floats_0_ok (18, .iconst 3, 1) (List.mem_of_getElem? (i := 11) rfl), rfl⟩
theorem pX10_floats_19 : Bt cX10_floats 19 (.if_icmp .eq 13) 13 32 22 := ⟨tX10_floats_0_ok (19, .if_icmp .eq 13, 3) (List.mem_of_getElem? (i := 12) rfl), by decide, rfl⟩
theorem pX10_floats_22 : At cX10_floats 22 (.aload_n 0) 1 23 := ⟨tX10_floats_0_ok (22, .aload_n 0, 1) (List.mem_of_getElem? (i := 13) rfl), rfl⟩
theorem pX10_floats_23 : At cX10_floats 23 (.iload_n 1) 1 24 := ⟨tX10_floats_0_ok (23, .iload_n 1, 1) (List.mem_of_getElem? (i := 14) rfl), rfl⟩
theorem pX10_floats_24 : At cX10_floats 24 (.invokestatic 286) 3 27 := ⟨tX10_floats_0_ok (24, .invokestatic 286, 3) (List.mem_of_getElem? (i := 15) rfl), rfl⟩
theorem pX10_floats_27 : At cX10_floats 27 (.iload_n 2) 1 28 := ⟨tX10_floats_0_ok (27, .iload_n 2, 1) (List.mem_of_getElem? (i := 16) rfl), rfl⟩
theorem pX10_floats_28 : At cX10_floats 28 (.invokevirtual 289) 3 31 := ⟨tX10_floats_0_ok (28, .invokevirtual 289, 3) (List.mem_of_getElem? (i := 17) rfl), rfl⟩
theorem pX10_floats_31 : At cX10_floats 31 (.ireturn) 1 32 := ⟨tX10_floats_0_ok (31, .ireturn, 1) (List.mem_of_getElem? (i := 18) rfl), rfl⟩
theorem pX10_floats_32 : At cX10_floats 32 (.aload_n 0) 1 33 := ⟨tX10_floats_0_ok (32, .aload_n 0, 1) (List.mem_of_getElem? (i := 19) rfl), rfl⟩
theorem pX10_floats_33 : At cX10_floats 33 (.bipush 40) 2 35 := ⟨tX10_floats_0_ok (33, .bipush 40, 2) (List.mem_of_getElem? (i := 20) rfl), rfl⟩
theorem pX10_floats_35 : At cX10_floats 35 (.invokevirtual 280) 3 38 := ⟨tX10_floats_0_ok (35, .invokevirtual 280, 3) (List.mem_of_getElem? (i := 21) rfl), rfl⟩
theorem pX10_floats_38 : At cX10_floats 38 (.aload_n 0) 1 39 := ⟨tX10_floats_0_ok (38, .aload_n 0, 1) (List.mem_of_getElem? (i := 22) rfl), rfl⟩
theorem pX10_floats_39 : At cX10_floats 39 (.iconst 0) 1 40 := ⟨tX10_floats_0_ok (39, .iconst 0, 1) (List.mem_of_getElem? (i := 23) rfl), rfl⟩
theorem pX10_floats_40 : At cX10_floats 40 (.iload_n 2) 1 41 := ⟨tX10_floats_0_ok (40, .iload_n 2, 1) (List.mem_of_getElem? (i := 24) rfl), rfl⟩
theorem pX10_floats_41 : At cX10_floats 41 (.invokevirtual 289) 3 44 := ⟨tX10_floats_0_ok (41, .invokevirtual 289, 3) (List.mem_of_getElem? (i := 25) rfl), rfl⟩
theorem pX10_floats_44 : At cX10_floats 44 (.iconst 3) 1 45 := ⟨tX10_floats_0_ok (44, .iconst 3, 1) (List.mem_of_getElem? (i := 26) rfl), rfl⟩
theorem pX10_floats_45 : At cX10_floats 45 (.imul) 1 46 := ⟨tX10_floats_0_ok (45, .imul, 1) (List.mem_of_getElem? (i := 27) rfl), rfl⟩
theorem pX10_floats_46 : At cX10_floats 46 (.ireturn) 1 47 := ⟨tX10_floats_0_ok (46, .ireturn, 1) (List.mem_of_getElem? (i := 28) rfl), rfl⟩
def tX10_hangs_0 : List (Nat × Instr × Nat) := [(0, .iload_n 1, 1), (1, .tableswitch 80 0 4 #[35, 80, 48, 80, 62], 35), (36, .aload_n 0, 1), (37, .bipush 12, 2), (39, .invokevirtual 280, 3), (42, .iload_n 2, 1), (43, .aload_n 0, 1), (44, .getfield 301, 3), (47, .isub, 1), (48, .ireturn, 1), (49, .aload_n 0, 1), (50, .bipush 30, 2), (52, .invokevirtual 280, 3), (55, .aload_n 0, 1), (56, .iconst 0, 1), (57, .iload_n 2, 1), (58, .invokevirtual 298, 3), (61, .ineg, 1), (62, .ireturn, 1), (63, .aload_n 0, 1), (64, .bipush 50, 2), (66, .invokevirtual 280, 3), (69, .aload_n 0, 1), (70, .iconst 2, 1), (71, .iload_n 2, 1), (72, .invokevirtual 298, 3), (75, .aload_n 0, 1), (76, .getfield 283, 3), (79, .ixor, 1), (80, .ireturn, 1), (81, .aload_n 0, 1), (82, .iload_n 1, 1), (83, .invokestatic 286, 3), (86, .iload_n 2, 1), (87, .invokevirtual 298, 3), (90, .ireturn, 1)]
theorem tX10_hangs_0_ok : ∀ q ∈ tX10_hangs_0, decode cX10_hangs q.1 = .ok (q.2.1, q.2.2) := by decide +kernel
theorem pX10_hangs_0 : At cX10_hangs 0 (.iload_n 1) 1 1 := ⟨tX10_hangs_0_ok (0, .iload_n 1, 1) (List.mem_of_getElem? (i := 0) rfl), rfl⟩
theorem pX10_hangs_1 : decode cX10_hangs 1 = .ok (.tableswitch 80 0 4 #[35, 80, 48, 80, 62], 35) := tX10_hangs_0_ok (1, .tableswitch 80 0 4 #[35, 80, 48, 80, 62], 35) (List.mem_of_getElem? (i := 1) rfl)
theorem pX10_hangs_36 : At cX10_hangs 36 (.aload_n 0) 1 37 := ⟨tX10_hangs_0_ok (36, .aload_n 0, 1) (List.mem_of_getElem? (i := 2) rfl), rfl⟩
theorem pX10_hangs_37 : At cX10_hangs 37 (.bipush 12) 2 39 := ⟨tX10_hangs_0_ok (37, .bipush 12, 2) (List.mem_of_getElem? (i := 3) rfl), rfl⟩
theorem pX10_hangs_39 : At cX10_hangs 39 (.invokevirtual 280) 3 42 := ⟨tX10_hangs_0_ok (39, .invokevirtual 280, 3) (List.mem_of_getElem? (i := 4) rfl), rfl⟩
theorem pX10_hangs_42 : At cX10_hangs 42 (.iload_n 2) 1 43 := ⟨tX10_hangs_0_ok (42, .iload_n 2, 1) (List.mem_of_getElem? (i := 5) rfl), rfl⟩
theorem pX10_hangs_43 : At cX10_hangs 43 (.aload_n 0) 1 44 := ⟨tX10_hangs_0_ok (43, .aload_n 0, 1) (List.mem_of_getElem? (i := 6) rfl), rfl⟩
theorem pX10_hangs_44 : At cX10_hangs 44 (.getfield 301) 3 47 := ⟨tX10_hangs_0_ok (44, .getfield 301, 3) (List.mem_of_getElem? (i := 7) rfl), rfl⟩
theorem pX10_hangs_47 : At cX10_hangs 47 (.isub) 1 48 := ⟨tX10_hangs_0_ok (47, .isub, 1) (List.mem_of_getElem? (i := 8) rfl), rfl⟩
theorem pX10_hangs_48 : At cX10_hangs 48 (.ireturn) 1 49 := ⟨tX10_hangs_0_ok (48, .ireturn, 1) (List.mem_of_getElem? (i := 9) rfl), rfl⟩
theorem pX10_hangs_49 : At cX10_hangs 49 (.aload_n 0) 1 50 := ⟨tX10_hangs_0_ok (49, .aload_n 0, 1) (List.mem_of_getElem? (i := 10) rfl), rfl⟩
theorem pX10_hangs_50 : At cX10_hangs 50 (.bipush 30) 2 52 := ⟨tX10_hangs_0_ok (50, .bipush 30, 2) (List.mem_of_getElem? (i := 11) rfl), rfl⟩
theorem pX10_hangs_52 : At cX10_hangs 52 (.invokevirtual 280) 3 55 := ⟨tX10_hangs_0_ok (52, .invokevirtual 280, 3) (List.mem_of_getElem? (i := 12) rfl), rfl⟩
theorem pX10_hangs_55 : At cX10_hangs 55 (.aload_n 0) 1 56 := ⟨tX10_hangs_0_ok (55, .aload_n 0, 1) (List.mem_of_getElem? (i := 13) rfl), rfl⟩
theorem pX10_hangs_56 : At cX10_hangs 56 (.iconst 0) 1 57 := ⟨tX10_hangs_0_ok (56, .iconst 0, 1) (List.mem_of_getElem? (i := 14) rfl), rfl⟩
theorem pX10_hangs_57 : At cX10_hangs 57 (.iload_n 2) 1 58 := ⟨tX10_hangs_0_ok (57, .iload_n 2, 1) (List.mem_of_getElem? (i := 15) rfl), rfl⟩
theorem pX10_hangs_58 : At cX10_hangs 58 (.invokevirtual 298) 3 61 := ⟨tX10_hangs_0_ok (58, .invokevirtual 298, 3) (List.mem_of_getElem? (i := 16) rfl), rfl⟩
theorem pX10_hangs_61 : At cX10_hangs 61 (.ineg) 1 62 := ⟨tX10_hangs_0_ok (61, .ineg, 1) (List.mem_of_getElem? (i := 17) rfl), rfl⟩
theorem pX10_hangs_62 : At cX10_hangs 62 (.ireturn) 1 63 := ⟨tX10_hangs_0_ok (62, .ireturn, 1) (List.mem_of_getElem? (i := 18) rfl), rfl⟩
theorem pX10_hangs_63 : At cX10_hangs 63 (.aload_n 0) 1 64 := ⟨tX10_hangs_0_ok (63, .aload_n 0, 1) (List.mem_of_getElem? (i := 19) rfl), rfl⟩
theorem pX10_hangs_64 : At cX10_hangs 64 (.bipush 50) 2 66 := ⟨tX10_hangs_0_ok (64, .bipush 50, 2) (List.mem_of_getElem? (i := 20) rfl), rfl⟩
theorem pX10_hangs_66 : At cX10_hangs 66 (.invokevirtual 280) 3 69 := ⟨tX10_hangs_0_ok (66, .invokevirtual 280, 3) (List.mem_of_getElem? (i := 21) rfl), rfl⟩
theorem pX10_hangs_69 : At cX10_hangs 69 (.aload_n 0) 1 70 := ⟨tX10_hangs_0_ok (69, .aload_n 0, 1) (List.mem_of_getElem? (i := 22) rfl), rfl⟩
theorem pX10_hangs_70 : At cX10_hangs 70 (.iconst 2) 1 71 := ⟨tX10_hangs_0_ok (70, .iconst 2, 1) (List.mem_of_getElem? (i := 23) rfl), rfl⟩
theorem pX10_hangs_71 : At cX10_hangs 71 (.iload_n 2) 1 72 := ⟨tX10_hangs_0_ok (71, .iload_n 2, 1) (List.mem_of_getElem? (i := 24) rfl), rfl⟩
theorem pX10_hangs_72 : At cX10_hangs 72 (.invokevirtual 298) 3 75 := ⟨tX10_hangs_0_ok (72, .invokevirtual 298, 3) (List.mem_of_getElem? (i := 25) rfl), rfl⟩
theorem pX10_hangs_75 : At cX10_hangs 75 (.aload_n 0) 1 76 := ⟨tX10_hangs_0_ok (75, .aload_n 0, 1) (List.mem_of_getElem? (i := 26) rfl), rfl⟩
theorem pX10_hangs_76 : At cX10_hangs 76 (.getfield 283) 3 79 := ⟨tX10_hangs_0_ok (76, .getfield 283, 3) (List.mem_of_getElem? (i := 27) rfl), rfl⟩
theorem pX10_hangs_79 : At cX10_hangs 79 (.ixor) 1 80 := ⟨tX10_hangs_0_ok (79, .ixor, 1) (List.mem_of_getElem? (i := 28) rfl), rfl⟩
theorem pX10_hangs_80 : At cX10_hangs 80 (.ireturn) 1 81 := ⟨tX10_hangs_0_ok (80, .ireturn, 1) (List.mem_of_getElem? (i := 29) rfl), rfl⟩
theorem pX10_hangs_81 : At cX10_hangs 81 (.aload_n 0) 1 82 := ⟨tX10_hangs_0_ok (81, .aload_n 0, 1) (List.mem_of_getElem? (i := 30) rfl), rfl⟩
theorem pX10_hangs_82 : At cX10_hangs 82 (.iload_n 1) 1 83 := ⟨tX10_hangs_0_ok (82, .iload_n 1, 1) (List.mem_of_getElem? (i := 31) rfl), rfl⟩
theorem pX10_hangs_83 : At cX10_hangs 83 (.invokestatic 286) 3 86 := ⟨tX10_hangs_0_ok (83, .invokestatic 286, 3) (List.mem_of_getElem? (i := 32) rfl), rfl⟩
theorem pX10_hangs_86 : At cX10_hangs 86 (.iload_n 2) 1 87 := ⟨tX10_hangs_0_ok (86, .iload_n 2, 1) (List.mem_of_getElem? (i := 33) rfl), rfl⟩
theorem pX10_hangs_87 : At cX10_hangs 87 (.invokevirtual 298) 3 90 := ⟨tX10_hangs_0_ok (87, .invokevirtual 298, 3) (List.mem_of_getElem? (i := 34) rfl), rfl⟩
theorem pX10_hangs_90 : At cX10_hangs 90 (.ireturn) 1 91 := ⟨tX10_hangs_0_ok (90, .ireturn, 1) (List.mem_of_getElem? (i := 35) rfl), rfl⟩
def tX10_falls_0 : List (Nat × Instr × Nat) := [(0, .iload_n 1, 1), (1, .lookupswitch 93 #[(0, 35), (1, 53), (6, 78)], 35), (36, .aload_n 0, 1), (37, .bipush 11, 2), (39, .invokevirtual 280, 3), (42, .aload_n 0, 1), (43, .aload_n 0, 1), (44, .getfield 292, 3), (47, .iload_n 2, 1), (48, .invokevirtual 289, 3), (51, .iconst 2, 1), (52, .imul, 1), (53, .ireturn, 1), (54, .aload_n 0, 1), (55, .bipush 20, 2), (57, .invokevirtual 280, 3), (60, .aload_n 0, 1), (61, .iconst 0, 1), (62, .iload_n 2, 1), (63, .invokevirtual 295, 3), (66, .istore_n 3, 1), (67, .iload_n 3, 1), (68, .aload_n 0, 1), (69, .aload_n 0, 1), (70, .getfield 292, 3), (73, .iconst 1, 1), (74, .invokevirtual 298, 3), (77, .isub, 1), (78, .ireturn, 1), (79, .aload_n 0, 1), (80, .bipush 70, 2), (82, .invokevirtual 280, 3), (85, .aload_n 0, 1), (86, .iconst 1, 1), (87, .iload_n 2, 1), (88, .iconst 1, 1), (89, .iadd, 1), (90, .invokevirtual 295, 3), (93, .ireturn, 1), (94, .aload_n 0, 1), (95, .iload_n 1, 1), (96, .invokestatic 286, 3), (99, .iload_n 2, 1), (100, .invokevirtual 295, 3), (103, .ireturn, 1)]
theorem tX10_falls_0_ok : ∀ q ∈ tX10_falls_0, decode cX10_falls q.1 = .ok (q.2.1, q.2.2) := by decide +kernel
theorem pX10_falls_0 : At cX10_falls 0 (.iload_n 1) 1 1 := ⟨tX10_falls_0_ok (0, .iload_n 1, 1) (List.mem_of_getElem? (i := 0) rfl), rfl⟩
theorem pX10_falls_1 : decode cX10_falls 1 = .ok (.lookupswitch 93 #[(0, 35), (1, 53), (6, 78)], 35) := tX10_falls_0_ok (1, .lookupswitch 93 #[(0, 35), (1, 53), (6, 78)], 35) (List.mem_of_getElem? (i := 1) rfl)
theorem pX10_falls_36 : At cX10_falls 36 (.aload_n 0) 1 37 := ⟨tX10_falls_0_ok (36, .aload_n 0, 1) (List.mem_of_getElem? (i := 2) rfl), rfl⟩
theorem pX10_falls_37 : At cX10_falls 37 (.bipush 11) 2 39 := ⟨tX10_falls_0_ok (37, .bipush 11, 2) (List.mem_of_getElem? (i := 3) rfl), rfl⟩
theorem pX10_falls_39 : At cX10_falls 39 (.invokevirtual 280) 3 42 := ⟨tX10_falls_0_ok (39, .invokevirtual 280, 3) (List.mem_of_getElem? (i := 4) rfl), rfl⟩
theorem pX10_falls_42 : At cX10_falls 42 (.aload_n 0) 1 43 := ⟨tX10_falls_0_ok (42, .aload_n 0, 1) (List.mem_of_getElem? (i := 5) rfl), rfl⟩
theorem pX10_falls_43 : At cX10_falls 43 (.aload_n 0) 1 44 := ⟨tX10_falls_0_ok (43, .aload_n 0, 1) (List.mem_of_getElem? (i := 6) rfl), rfl⟩
theorem pX10_falls_44 : At cX10_falls 44 (.getfield 292) 3 47 := ⟨tX10_falls_0_ok (44, .getfield 292, 3) (List.mem_of_getElem? (i := 7) rfl), rfl⟩
theorem pX10_falls_47 : At cX10_falls 47 (.iload_n 2) 1 48 := ⟨tX10_falls_0_ok (47, .iload_n 2, 1) (List.mem_of_getElem? (i := 8) rfl), rfl⟩
theorem pX10_falls_48 : At cX10_falls 48 (.invokevirtual 289) 3 51 := ⟨tX10_falls_0_ok (48, .invokevirtual 289, 3) (List.mem_of_getElem? (i := 9) rfl), rfl⟩
theorem pX10_falls_51 : At cX10_falls 51 (.iconst 2) 1 52 := ⟨tX10_falls_0_ok (51, .iconst 2, 1) (List.mem_of_getElem? (i := 10) rfl), rfl⟩
theorem pX10_falls_52 : At cX10_falls 52 (.imul) 1 53 := ⟨tX10_falls_0_ok (52, .imul, 1) (List.mem_of_getElem? (i := 11) rfl), rfl⟩
theorem pX10_falls_53 : At cX10_falls 53 (.ireturn) 1 54 := ⟨tX10_falls_0_ok (53, .ireturn, 1) (List.mem_of_getElem? (i := 12) rfl), rfl⟩
theorem pX10_falls_54 : At cX10_falls 54 (.aload_n 0) 1 55 := ⟨tX10_falls_0_ok (54, .aload_n 0, 1) (List.mem_of_getElem? (i := 13) rfl), rfl⟩
theorem pX10_falls_55 : At cX10_falls 55 (.bipush 20) 2 57 := ⟨tX10_falls_0_ok (55, .bipush 20, 2) (List.mem_of_getElem? (i := 14) rfl), rfl⟩
theorem pX10_falls_57 : At cX10_falls 57 (.invokevirtual 280) 3 60 := ⟨tX10_falls_0_ok (57, .invokevirtual 280, 3) (List.mem_of_getElem? (i := 15) rfl), rfl⟩
theorem pX10_falls_60 : At cX10_falls 60 (.aload_n 0) 1 61 := ⟨tX10_falls_0_ok (60, .aload_n 0, 1) (List.mem_of_getElem? (i := 16) rfl), rfl⟩
theorem pX10_falls_61 : At cX10_falls 61 (.iconst 0) 1 62 := ⟨tX10_falls_0_ok (61, .iconst 0, 1) (List.mem_of_getElem? (i := 17) rfl), rfl⟩
theorem pX10_falls_62 : At cX10_falls 62 (.iload_n 2) 1 63 := ⟨tX10_falls_0_ok (62, .iload_n 2, 1) (List.mem_of_getElem? (i := 18) rfl), rfl⟩
theorem pX10_falls_63 : At cX10_falls 63 (.invokevirtual 295) 3 66 := ⟨tX10_falls_0_ok (63, .invokevirtual 295, 3) (List.mem_of_getElem? (i := 19) rfl), rfl⟩
theorem pX10_falls_66 : At cX10_falls 66 (.istore_n 3) 1 67 := ⟨tX10_falls_0_ok (66, .istore_n 3, 1) (List.mem_of_getElem? (i := 20) rfl), rfl⟩
theorem pX10_falls_67 : At cX10_falls 67 (.iload_n 3) 1 68 := ⟨tX10_falls_0_ok (67, .iload_n 3, 1) (List.mem_of_getElem? (i := 21) rfl), rfl⟩
theorem pX10_falls_68 : At cX10_falls 68 (.aload_n 0) 1 69 := ⟨tX10_falls_0_ok (68, .aload_n 0, 1) (List.mem_of_getElem? (i := 22) rfl), rfl⟩
theorem pX10_falls_69 : At cX10_falls 69 (.aload_n 0) 1 70 := ⟨tX10_falls_0_ok (69, .aload_n 0, 1) (List.mem_of_getElem? (i := 23) rfl), rfl⟩
theorem pX10_falls_70 : At cX10_falls 70 (.getfield 292) 3 73 := ⟨tX10_falls_0_ok (70, .getfield 292, 3) (List.mem_of_getElem? (i := 24) rfl), rfl⟩
theorem pX10_falls_73 : At cX10_falls 73 (.iconst 1) 1 74 := ⟨tX10_falls_0_ok (73, .iconst 1, 1) (List.mem_of_getElem? (i := 25) rfl), rfl⟩
theorem pX10_falls_74 : At cX10_falls 74 (.invokevirtual 298) 3 77 := ⟨tX10_falls_0_ok (74, .invokevirtual 298, 3) (List.mem_of_getElem? (i := 26) rfl), rfl⟩
theorem pX10_falls_77 : At cX10_falls 77 (.isub) 1 78 := ⟨tX10_falls_0_ok (77, .isub, 1) (List.mem_of_getElem? (i := 27) rfl), rfl⟩
theorem pX10_falls_78 : At cX10_falls 78 (.ireturn) 1 79 := ⟨tX10_falls_0_ok (78, .ireturn, 1) (List.mem_of_getElem? (i := 28) rfl), rfl⟩
theorem pX10_falls_79 : At cX10_falls 79 (.aload_n 0) 1 80 := ⟨tX10_falls_0_ok (79, .aload_n 0, 1) (List.mem_of_getElem? (i := 29) rfl), rfl⟩
theorem pX10_falls_80 : At cX10_falls 80 (.bipush 70) 2 82 := ⟨tX10_falls_0_ok (80, .bipush 70, 2) (List.mem_of_getElem? (i := 30) rfl), rfl⟩
theorem pX10_falls_82 : At cX10_falls 82 (.invokevirtual 280) 3 85 := ⟨tX10_falls_0_ok (82, .invokevirtual 280, 3) (List.mem_of_getElem? (i := 31) rfl), rfl⟩
theorem pX10_falls_85 : At cX10_falls 85 (.aload_n 0) 1 86 := ⟨tX10_falls_0_ok (85, .aload_n 0, 1) (List.mem_of_getElem? (i := 32) rfl), rfl⟩
theorem pX10_falls_86 : At cX10_falls 86 (.iconst 1) 1 87 := ⟨tX10_falls_0_ok (86, .iconst 1, 1) (List.mem_of_getElem? (i := 33) rfl), rfl⟩
theorem pX10_falls_87 : At cX10_falls 87 (.iload_n 2) 1 88 := ⟨tX10_falls_0_ok (87, .iload_n 2, 1) (List.mem_of_getElem? (i := 34) rfl), rfl⟩
theorem pX10_falls_88 : At cX10_falls 88 (.iconst 1) 1 89 := ⟨tX10_falls_0_ok (88, .iconst 1, 1) (List.mem_of_getElem? (i := 35) rfl), rfl⟩
theorem pX10_falls_89 : At cX10_falls 89 (.iadd) 1 90 := ⟨tX10_falls_0_ok (89, .iadd, 1) (List.mem_of_getElem? (i := 36) rfl), rfl⟩
theorem pX10_falls_90 : At cX10_falls 90 (.invokevirtual 295) 3 93 := ⟨tX10_falls_0_ok (90, .invokevirtual 295, 3) (List.mem_of_getElem? (i := 37) rfl), rfl⟩
theorem pX10_falls_93 : At cX10_falls 93 (.ireturn) 1 94 := ⟨tX10_falls_0_ok (93, .ireturn, 1) (List.mem_of_getElem? (i := 38) rfl), rfl⟩
theorem pX10_falls_94 : At cX10_falls 94 (.aload_n 0) 1 95 := ⟨tX10_falls_0_ok (94, .aload_n 0, 1) (List.mem_of_getElem? (i := 39) rfl), rfl⟩
theorem pX10_falls_95 : At cX10_falls 95 (.iload_n 1) 1 96 := ⟨tX10_falls_0_ok (95, .iload_n 1, 1) (List.mem_of_getElem? (i := 40) rfl), rfl⟩
theorem pX10_falls_96 : At cX10_falls 96 (.invokestatic 286) 3 99 := ⟨tX10_falls_0_ok (96, .invokestatic 286, 3) (List.mem_of_getElem? (i := 41) rfl), rfl⟩
theorem pX10_falls_99 : At cX10_falls 99 (.iload_n 2) 1 100 := ⟨tX10_falls_0_ok (99, .iload_n 2, 1) (List.mem_of_getElem? (i := 42) rfl), rfl⟩
theorem pX10_falls_100 : At cX10_falls 100 (.invokevirtual 295) 3 103 := ⟨tX10_falls_0_ok (100, .invokevirtual 295, 3) (List.mem_of_getElem? (i := 43) rfl), rfl⟩
theorem pX10_falls_103 : At cX10_falls 103 (.ireturn) 1 104 := ⟨tX10_falls_0_ok (103, .ireturn, 1) (List.mem_of_getElem? (i := 44) rfl), rfl⟩
def tX10_tells_0 : List (Nat × Instr × Nat) := [(0, .iload_n 1, 1), (1, .lookupswitch 113 #[(0, 35), (4, 63), (5, 88)], 35), (36, .aload_n 0, 1), (37, .bipush 13, 2), (39, .invokevirtual 280, 3), (42, .aload_n 0, 1), (43, .aload_n 0, 1), (44, .getfield 292, 3), (47, .iload_n 2, 1), (48, .invokevirtual 295, 3), (51, .istore_n 3, 1), (52, .iload_n 3, 1), (53, .aload_n 0, 1), (54, .aload_n 0, 1), (55, .getfield 292, 3), (58, .iload_n 2, 1), (59, .invokevirtual 298, 3), (62, .ixor, 1), (63, .ireturn, 1), (64, .aload_n 0, 1), (65, .bipush 51, 2), (67, .invokevirtual 280, 3), (70, .aload_n 0, 1), (71, .aload_n 0, 1), (72, .getfield 292, 3), (75, .iload_n 2, 1), (76, .invokevirtual 295, 3), (79, .istore_n 3, 1), (80, .iload_n 3, 1), (81, .aload_n 0, 1), (82, .iconst 2, 1), (83, .iload_n 2, 1), (84, .invokevirtual 304, 3), (87, .isub, 1), (88, .ireturn, 1), (89, .aload_n 0, 1), (90, .bipush 60, 2), (92, .invokevirtual 280, 3), (95, .aload_n 0, 1), (96, .iconst 3, 1), (97, .iload_n 2, 1), (98, .invokevirtual 304, 3), (101, .istore_n 3, 1), (102, .iload_n 3, 1), (103, .aload_n 0, 1), (104, .aload_n 0, 1), (105, .getfield 292, 3), (108, .iconst 2, 1), (109, .invokevirtual 289, 3), (112, .isub, 1), (113, .ireturn, 1), (114, .aload_n 0, 1), (115, .iload_n 1, 1), (116, .invokestatic 286, 3), (119, .iload_n 2, 1), (120, .invokevirtual 304, 3), (123, .ireturn, 1)]
theorem tX10_tells_0_ok : ∀ q ∈ tX10_tells_0, decode cX10_tells q.1 = .ok (q.2.1, q.2.2) := by decide +kernel
theorem pX10_tells_0 : At cX10_tells 0 (.iload_n 1) 1 1 := ⟨tX10_tells_0_ok (0, .iload_n 1, 1) (List.mem_of_getElem? (i := 0) rfl), rfl⟩
theorem pX10_tells_1 : decode cX10_tells 1 = .ok (.lookupswitch 113 #[(0, 35), (4, 63), (5, 88)], 35) := tX10_tells_0_ok (1, .lookupswitch 113 #[(0, 35), (4, 63), (5, 88)], 35) (List.mem_of_getElem? (i := 1) rfl)
theorem pX10_tells_36 : At cX10_tells 36 (.aload_n 0) 1 37 := ⟨tX10_tells_0_ok (36, .aload_n 0, 1) (List.mem_of_getElem? (i := 2) rfl), rfl⟩
theorem pX10_tells_37 : At cX10_tells 37 (.bipush 13) 2 39 := ⟨tX10_tells_0_ok (37, .bipush 13, 2) (List.mem_of_getElem? (i := 3) rfl), rfl⟩
theorem pX10_tells_39 : At cX10_tells 39 (.invokevirtual 280) 3 42 := ⟨tX10_tells_0_ok (39, .invokevirtual 280, 3) (List.mem_of_getElem? (i := 4) rfl), rfl⟩
theorem pX10_tells_42 : At cX10_tells 42 (.aload_n 0) 1 43 := ⟨tX10_tells_0_ok (42, .aload_n 0, 1) (List.mem_of_getElem? (i := 5) rfl), rfl⟩
theorem pX10_tells_43 : At cX10_tells 43 (.aload_n 0) 1 44 := ⟨tX10_tells_0_ok (43, .aload_n 0, 1) (List.mem_of_getElem? (i := 6) rfl), rfl⟩
theorem pX10_tells_44 : At cX10_tells 44 (.getfield 292) 3 47 := ⟨tX10_tells_0_ok (44, .getfield 292, 3) (List.mem_of_getElem? (i := 7) rfl), rfl⟩
theorem pX10_tells_47 : At cX10_tells 47 (.iload_n 2) 1 48 := ⟨tX10_tells_0_ok (47, .iload_n 2, 1) (List.mem_of_getElem? (i := 8) rfl), rfl⟩
theorem pX10_tells_48 : At cX10_tells 48 (.invokevirtual 295) 3 51 := ⟨tX10_tells_0_ok (48, .invokevirtual 295, 3) (List.mem_of_getElem? (i := 9) rfl), rfl⟩
theorem pX10_tells_51 : At cX10_tells 51 (.istore_n 3) 1 52 := ⟨tX10_tells_0_ok (51, .istore_n 3, 1) (List.mem_of_getElem? (i := 10) rfl), rfl⟩
theorem pX10_tells_52 : At cX10_tells 52 (.iload_n 3) 1 53 := ⟨tX10_tells_0_ok (52, .iload_n 3, 1) (List.mem_of_getElem? (i := 11) rfl), rfl⟩
theorem pX10_tells_53 : At cX10_tells 53 (.aload_n 0) 1 54 := ⟨tX10_tells_0_ok (53, .aload_n 0, 1) (List.mem_of_getElem? (i := 12) rfl), rfl⟩
theorem pX10_tells_54 : At cX10_tells 54 (.aload_n 0) 1 55 := ⟨tX10_tells_0_ok (54, .aload_n 0, 1) (List.mem_of_getElem? (i := 13) rfl), rfl⟩
theorem pX10_tells_55 : At cX10_tells 55 (.getfield 292) 3 58 := ⟨tX10_tells_0_ok (55, .getfield 292, 3) (List.mem_of_getElem? (i := 14) rfl), rfl⟩
theorem pX10_tells_58 : At cX10_tells 58 (.iload_n 2) 1 59 := ⟨tX10_tells_0_ok (58, .iload_n 2, 1) (List.mem_of_getElem? (i := 15) rfl), rfl⟩
theorem pX10_tells_59 : At cX10_tells 59 (.invokevirtual 298) 3 62 := ⟨tX10_tells_0_ok (59, .invokevirtual 298, 3) (List.mem_of_getElem? (i := 16) rfl), rfl⟩
theorem pX10_tells_62 : At cX10_tells 62 (.ixor) 1 63 := ⟨tX10_tells_0_ok (62, .ixor, 1) (List.mem_of_getElem? (i := 17) rfl), rfl⟩
theorem pX10_tells_63 : At cX10_tells 63 (.ireturn) 1 64 := ⟨tX10_tells_0_ok (63, .ireturn, 1) (List.mem_of_getElem? (i := 18) rfl), rfl⟩
theorem pX10_tells_64 : At cX10_tells 64 (.aload_n 0) 1 65 := ⟨tX10_tells_0_ok (64, .aload_n 0, 1) (List.mem_of_getElem? (i := 19) rfl), rfl⟩
theorem pX10_tells_65 : At cX10_tells 65 (.bipush 51) 2 67 := ⟨tX10_tells_0_ok (65, .bipush 51, 2) (List.mem_of_getElem? (i := 20) rfl), rfl⟩
theorem pX10_tells_67 : At cX10_tells 67 (.invokevirtual 280) 3 70 := ⟨tX10_tells_0_ok (67, .invokevirtual 280, 3) (List.mem_of_getElem? (i := 21) rfl), rfl⟩
theorem pX10_tells_70 : At cX10_tells 70 (.aload_n 0) 1 71 := ⟨tX10_tells_0_ok (70, .aload_n 0, 1) (List.mem_of_getElem? (i := 22) rfl), rfl⟩
theorem pX10_tells_71 : At cX10_tells 71 (.aload_n 0) 1 72 := ⟨tX10_tells_0_ok (71, .aload_n 0, 1) (List.mem_of_getElem? (i := 23) rfl), rfl⟩
theorem pX10_tells_72 : At cX10_tells 72 (.getfield 292) 3 75 := ⟨tX10_tells_0_ok (72, .getfield 292, 3) (List.mem_of_getElem? (i := 24) rfl), rfl⟩
theorem pX10_tells_75 : At cX10_tells 75 (.iload_n 2) 1 76 := ⟨tX10_tells_0_ok (75, .iload_n 2, 1) (List.mem_of_getElem? (i := 25) rfl), rfl⟩
theorem pX10_tells_76 : At cX10_tells 76 (.invokevirtual 295) 3 79 := ⟨tX10_tells_0_ok (76, .invokevirtual 295, 3) (List.mem_of_getElem? (i := 26) rfl), rfl⟩
theorem pX10_tells_79 : At cX10_tells 79 (.istore_n 3) 1 80 := ⟨tX10_tells_0_ok (79, .istore_n 3, 1) (List.mem_of_getElem? (i := 27) rfl), rfl⟩
theorem pX10_tells_80 : At cX10_tells 80 (.iload_n 3) 1 81 := ⟨tX10_tells_0_ok (80, .iload_n 3, 1) (List.mem_of_getElem? (i := 28) rfl), rfl⟩
theorem pX10_tells_81 : At cX10_tells 81 (.aload_n 0) 1 82 := ⟨tX10_tells_0_ok (81, .aload_n 0, 1) (List.mem_of_getElem? (i := 29) rfl), rfl⟩
theorem pX10_tells_82 : At cX10_tells 82 (.iconst 2) 1 83 := ⟨tX10_tells_0_ok (82, .iconst 2, 1) (List.mem_of_getElem? (i := 30) rfl), rfl⟩
theorem pX10_tells_83 : At cX10_tells 83 (.iload_n 2) 1 84 := ⟨tX10_tells_0_ok (83, .iload_n 2, 1) (List.mem_of_getElem? (i := 31) rfl), rfl⟩
theorem pX10_tells_84 : At cX10_tells 84 (.invokevirtual 304) 3 87 := ⟨tX10_tells_0_ok (84, .invokevirtual 304, 3) (List.mem_of_getElem? (i := 32) rfl), rfl⟩
theorem pX10_tells_87 : At cX10_tells 87 (.isub) 1 88 := ⟨tX10_tells_0_ok (87, .isub, 1) (List.mem_of_getElem? (i := 33) rfl), rfl⟩
theorem pX10_tells_88 : At cX10_tells 88 (.ireturn) 1 89 := ⟨tX10_tells_0_ok (88, .ireturn, 1) (List.mem_of_getElem? (i := 34) rfl), rfl⟩
theorem pX10_tells_89 : At cX10_tells 89 (.aload_n 0) 1 90 := ⟨tX10_tells_0_ok (89, .aload_n 0, 1) (List.mem_of_getElem? (i := 35) rfl), rfl⟩
theorem pX10_tells_90 : At cX10_tells 90 (.bipush 60) 2 92 := ⟨tX10_tells_0_ok (90, .bipush 60, 2) (List.mem_of_getElem? (i := 36) rfl), rfl⟩
theorem pX10_tells_92 : At cX10_tells 92 (.invokevirtual 280) 3 95 := ⟨tX10_tells_0_ok (92, .invokevirtual 280, 3) (List.mem_of_getElem? (i := 37) rfl), rfl⟩
theorem pX10_tells_95 : At cX10_tells 95 (.aload_n 0) 1 96 := ⟨tX10_tells_0_ok (95, .aload_n 0, 1) (List.mem_of_getElem? (i := 38) rfl), rfl⟩
theorem pX10_tells_96 : At cX10_tells 96 (.iconst 3) 1 97 := ⟨tX10_tells_0_ok (96, .iconst 3, 1) (List.mem_of_getElem? (i := 39) rfl), rfl⟩
theorem pX10_tells_97 : At cX10_tells 97 (.iload_n 2) 1 98 := ⟨tX10_tells_0_ok (97, .iload_n 2, 1) (List.mem_of_getElem? (i := 40) rfl), rfl⟩
theorem pX10_tells_98 : At cX10_tells 98 (.invokevirtual 304) 3 101 := ⟨tX10_tells_0_ok (98, .invokevirtual 304, 3) (List.mem_of_getElem? (i := 41) rfl), rfl⟩
theorem pX10_tells_101 : At cX10_tells 101 (.istore_n 3) 1 102 := ⟨tX10_tells_0_ok (101, .istore_n 3, 1) (List.mem_of_getElem? (i := 42) rfl), rfl⟩
theorem pX10_tells_102 : At cX10_tells 102 (.iload_n 3) 1 103 := ⟨tX10_tells_0_ok (102, .iload_n 3, 1) (List.mem_of_getElem? (i := 43) rfl), rfl⟩
theorem pX10_tells_103 : At cX10_tells 103 (.aload_n 0) 1 104 := ⟨tX10_tells_0_ok (103, .aload_n 0, 1) (List.mem_of_getElem? (i := 44) rfl), rfl⟩
theorem pX10_tells_104 : At cX10_tells 104 (.aload_n 0) 1 105 := ⟨tX10_tells_0_ok (104, .aload_n 0, 1) (List.mem_of_getElem? (i := 45) rfl), rfl⟩
theorem pX10_tells_105 : At cX10_tells 105 (.getfield 292) 3 108 := ⟨tX10_tells_0_ok (105, .getfield 292, 3) (List.mem_of_getElem? (i := 46) rfl), rfl⟩
theorem pX10_tells_108 : At cX10_tells 108 (.iconst 2) 1 109 := ⟨tX10_tells_0_ok (108, .iconst 2, 1) (List.mem_of_getElem? (i := 47) rfl), rfl⟩
theorem pX10_tells_109 : At cX10_tells 109 (.invokevirtual 289) 3 112 := ⟨tX10_tells_0_ok (109, .invokevirtual 289, 3) (List.mem_of_getElem? (i := 48) rfl), rfl⟩
theorem pX10_tells_112 : At cX10_tells 112 (.isub) 1 113 := ⟨tX10_tells_0_ok (112, .isub, 1) (List.mem_of_getElem? (i := 49) rfl), rfl⟩
theorem pX10_tells_113 : At cX10_tells 113 (.ireturn) 1 114 := ⟨tX10_tells_0_ok (113, .ireturn, 1) (List.mem_of_getElem? (i := 50) rfl), rfl⟩
theorem pX10_tells_114 : At cX10_tells 114 (.aload_n 0) 1 115 := ⟨tX10_tells_0_ok (114, .aload_n 0, 1) (List.mem_of_getElem? (i := 51) rfl), rfl⟩
theorem pX10_tells_115 : At cX10_tells 115 (.iload_n 1) 1 116 := ⟨tX10_tells_0_ok (115, .iload_n 1, 1) (List.mem_of_getElem? (i := 52) rfl), rfl⟩
theorem pX10_tells_116 : At cX10_tells 116 (.invokestatic 286) 3 119 := ⟨tX10_tells_0_ok (116, .invokestatic 286, 3) (List.mem_of_getElem? (i := 53) rfl), rfl⟩
theorem pX10_tells_119 : At cX10_tells 119 (.iload_n 2) 1 120 := ⟨tX10_tells_0_ok (119, .iload_n 2, 1) (List.mem_of_getElem? (i := 54) rfl), rfl⟩
theorem pX10_tells_120 : At cX10_tells 120 (.invokevirtual 304) 3 123 := ⟨tX10_tells_0_ok (120, .invokevirtual 304, 3) (List.mem_of_getElem? (i := 55) rfl), rfl⟩
theorem pX10_tells_123 : At cX10_tells 123 (.ireturn) 1 124 := ⟨tX10_tells_0_ok (123, .ireturn, 1) (List.mem_of_getElem? (i := 56) rfl), rfl⟩
def tX10_voice_0 : List (Nat × Instr × Nat) := [(0, .aload_n 0, 1), (1, .iload_n 1, 1), (2, .invokevirtual 87, 3), (5, .ifCond .eq 15, 3), (8, .iload_n 2, 1), (9, .i2l, 1), (10, .lconst 0, 1), (11, .ldc2_w 264, 3), (14, .invokestatic 53, 3), (17, .ifCond .ne 9, 3), (20, .aload_n 0, 1), (21, .iconst 1, 1), (22, .invokevirtual 79, 3), (25, .ireturn, 1), (26, .aload_n 0, 1), (27, .iconst 0, 1), (28, .putfield 277, 3), (31, .aload_n 0, 1), (32, .iload_n 1, 1), (33, .putfield 283, 3), (36, .aload_n 0, 1), (37, .aload_n 0, 1), (38, .iload_n 1, 1), (39, .iconst 0, 1), (40, .invokevirtual 61, 3), (43, .putfield 292, 3), (46, .aload_n 0, 1), (47, .aload_n 0, 1), (48, .iload_n 1, 1), (49, .iconst 1, 1), (50, .invokevirtual 61, 3), (53, .putfield 301, 3), (56, .iload_n 2, 1), (57, .ifCond .ne 15, 3), (60, .aload_n 0, 1), (61, .aload_n 0, 1), (62, .getfield 292, 3), (65, .iload_n 3, 1), (66, .invokevirtual 289, 3), (69, .goto 46, 3), (72, .iload_n 2, 1), (73, .iconst 1, 1), (74, .if_icmp .ne 15, 3), (77, .aload_n 0, 1), (78, .aload_n 0, 1), (79, .getfield 292, 3), (82, .iload_n 3, 1), (83, .invokevirtual 295, 3), (86, .goto 29, 3), (89, .iload_n 2, 1), (90, .iconst 2, 1), (91, .if_icmp .ne 15, 3), (94, .aload_n 0, 1), (95, .aload_n 0, 1), (96, .getfield 292, 3), (99, .iload_n 3, 1), (100, .invokevirtual 298, 3), (103, .goto 12, 3), (106, .aload_n 0, 1), (107, .aload_n 0, 1), (108, .getfield 292, 3), (111, .iload_n 3, 1), (112, .invokevirtual 304, 3), (115, .ireturn, 1)]
theorem tX10_voice_0_ok : ∀ q ∈ tX10_voice_0, decode cX10_voice q.1 = .ok (q.2.1, q.2.2) := by decide +kernel
theorem pX10_voice_0 : At cX10_voice 0 (.aload_n 0) 1 1 := ⟨tX10_voice_0_ok (0, .aload_n 0, 1) (List.mem_of_getElem? (i := 0) rfl), rfl⟩
theorem pX10_voice_1 : At cX10_voice 1 (.iload_n 1) 1 2 := ⟨tX10_voice_0_ok (1, .iload_n 1, 1) (List.mem_of_getElem? (i := 1) rfl), rfl⟩
theorem pX10_voice_2 : At cX10_voice 2 (.invokevirtual 87) 3 5 := ⟨tX10_voice_0_ok (2, .invokevirtual 87, 3) (List.mem_of_getElem? (i := 2) rfl), rfl⟩
theorem pX10_voice_5 : Bt cX10_voice 5 (.ifCond .eq 15) 15 20 8 := ⟨tX10_voice_0_ok (5, .ifCond .eq 15, 3) (List.mem_of_getElem? (i := 3) rfl), by decide, rfl⟩
theorem pX10_voice_8 : At cX10_voice 8 (.iload_n 2) 1 9 := ⟨tX10_voice_0_ok (8, .iload_n 2, 1) (List.mem_of_getElem? (i := 4) rfl), rfl⟩
theorem pX10_voice_9 : At cX10_voice 9 (.i2l) 1 10 := ⟨tX10_voice_0_ok (9, .i2l, 1) (List.mem_of_getElem? (i := 5) rfl), rfl⟩
theorem pX10_voice_10 : At cX10_voice 10 (.lconst 0) 1 11 := ⟨tX10_voice_0_ok (10, .lconst 0, 1) (List.mem_of_getElem? (i := 6) rfl), rfl⟩
theorem pX10_voice_11 : At cX10_voice 11 (.ldc2_w 264) 3 14 := ⟨tX10_voice_0_ok (11, .ldc2_w 264, 3) (List.mem_of_getElem? (i := 7) rfl), rfl⟩
theorem pX10_voice_14 : At cX10_voice 14 (.invokestatic 53) 3 17 := ⟨tX10_voice_0_ok (14, .invokestatic 53, 3) (List.mem_of_getElem? (i := 8) rfl), rfl⟩
theorem pX10_voice_17 : Bt cX10_voice 17 (.ifCond .ne 9) 9 26 20 := ⟨tX10_voice_0_ok (17, .ifCond .ne 9, 3) (List.mem_of_getElem? (i := 9) rfl), by decide, rfl⟩
theorem pX10_voice_20 : At cX10_voice 20 (.aload_n 0) 1 21 := ⟨tX10_voice_0_ok (20, .aload_n 0, 1) (List.mem_of_getElem? (i := 10) rfl), rfl⟩
theorem pX10_voice_21 : At cX10_voice 21 (.iconst 1) 1 22 := ⟨tX10_voice_0_ok (21, .iconst 1, 1) (List.mem_of_getElem? (i := 11) rfl), rfl⟩
theorem pX10_voice_22 : At cX10_voice 22 (.invokevirtual 79) 3 25 := ⟨tX10_voice_0_ok (22, .invokevirtual 79, 3) (List.mem_of_getElem? (i := 12) rfl), rfl⟩
theorem pX10_voice_25 : At cX10_voice 25 (.ireturn) 1 26 := ⟨tX10_voice_0_ok (25, .ireturn, 1) (List.mem_of_getElem? (i := 13) rfl), rfl⟩
theorem pX10_voice_26 : At cX10_voice 26 (.aload_n 0) 1 27 := ⟨tX10_voice_0_ok (26, .aload_n 0, 1) (List.mem_of_getElem? (i := 14) rfl), rfl⟩
theorem pX10_voice_27 : At cX10_voice 27 (.iconst 0) 1 28 := ⟨tX10_voice_0_ok (27, .iconst 0, 1) (List.mem_of_getElem? (i := 15) rfl), rfl⟩
theorem pX10_voice_28 : At cX10_voice 28 (.putfield 277) 3 31 := ⟨tX10_voice_0_ok (28, .putfield 277, 3) (List.mem_of_getElem? (i := 16) rfl), rfl⟩
theorem pX10_voice_31 : At cX10_voice 31 (.aload_n 0) 1 32 := ⟨tX10_voice_0_ok (31, .aload_n 0, 1) (List.mem_of_getElem? (i := 17) rfl), rfl⟩
theorem pX10_voice_32 : At cX10_voice 32 (.iload_n 1) 1 33 := ⟨tX10_voice_0_ok (32, .iload_n 1, 1) (List.mem_of_getElem? (i := 18) rfl), rfl⟩
theorem pX10_voice_33 : At cX10_voice 33 (.putfield 283) 3 36 := ⟨tX10_voice_0_ok (33, .putfield 283, 3) (List.mem_of_getElem? (i := 19) rfl), rfl⟩
theorem pX10_voice_36 : At cX10_voice 36 (.aload_n 0) 1 37 := ⟨tX10_voice_0_ok (36, .aload_n 0, 1) (List.mem_of_getElem? (i := 20) rfl), rfl⟩
theorem pX10_voice_37 : At cX10_voice 37 (.aload_n 0) 1 38 := ⟨tX10_voice_0_ok (37, .aload_n 0, 1) (List.mem_of_getElem? (i := 21) rfl), rfl⟩
theorem pX10_voice_38 : At cX10_voice 38 (.iload_n 1) 1 39 := ⟨tX10_voice_0_ok (38, .iload_n 1, 1) (List.mem_of_getElem? (i := 22) rfl), rfl⟩
theorem pX10_voice_39 : At cX10_voice 39 (.iconst 0) 1 40 := ⟨tX10_voice_0_ok (39, .iconst 0, 1) (List.mem_of_getElem? (i := 23) rfl), rfl⟩
theorem pX10_voice_40 : At cX10_voice 40 (.invokevirtual 61) 3 43 := ⟨tX10_voice_0_ok (40, .invokevirtual 61, 3) (List.mem_of_getElem? (i := 24) rfl), rfl⟩
theorem pX10_voice_43 : At cX10_voice 43 (.putfield 292) 3 46 := ⟨tX10_voice_0_ok (43, .putfield 292, 3) (List.mem_of_getElem? (i := 25) rfl), rfl⟩
theorem pX10_voice_46 : At cX10_voice 46 (.aload_n 0) 1 47 := ⟨tX10_voice_0_ok (46, .aload_n 0, 1) (List.mem_of_getElem? (i := 26) rfl), rfl⟩
theorem pX10_voice_47 : At cX10_voice 47 (.aload_n 0) 1 48 := ⟨tX10_voice_0_ok (47, .aload_n 0, 1) (List.mem_of_getElem? (i := 27) rfl), rfl⟩
theorem pX10_voice_48 : At cX10_voice 48 (.iload_n 1) 1 49 := ⟨tX10_voice_0_ok (48, .iload_n 1, 1) (List.mem_of_getElem? (i := 28) rfl), rfl⟩
theorem pX10_voice_49 : At cX10_voice 49 (.iconst 1) 1 50 := ⟨tX10_voice_0_ok (49, .iconst 1, 1) (List.mem_of_getElem? (i := 29) rfl), rfl⟩
theorem pX10_voice_50 : At cX10_voice 50 (.invokevirtual 61) 3 53 := ⟨tX10_voice_0_ok (50, .invokevirtual 61, 3) (List.mem_of_getElem? (i := 30) rfl), rfl⟩
theorem pX10_voice_53 : At cX10_voice 53 (.putfield 301) 3 56 := ⟨tX10_voice_0_ok (53, .putfield 301, 3) (List.mem_of_getElem? (i := 31) rfl), rfl⟩
theorem pX10_voice_56 : At cX10_voice 56 (.iload_n 2) 1 57 := ⟨tX10_voice_0_ok (56, .iload_n 2, 1) (List.mem_of_getElem? (i := 32) rfl), rfl⟩
theorem pX10_voice_57 : Bt cX10_voice 57 (.ifCond .ne 15) 15 72 60 := ⟨tX10_voice_0_ok (57, .ifCond .ne 15, 3) (List.mem_of_getElem? (i := 33) rfl), by decide, rfl⟩
theorem pX10_voice_60 : At cX10_voice 60 (.aload_n 0) 1 61 := ⟨tX10_voice_0_ok (60, .aload_n 0, 1) (List.mem_of_getElem? (i := 34) rfl), rfl⟩
theorem pX10_voice_61 : At cX10_voice 61 (.aload_n 0) 1 62 := ⟨tX10_voice_0_ok (61, .aload_n 0, 1) (List.mem_of_getElem? (i := 35) rfl), rfl⟩
theorem pX10_voice_62 : At cX10_voice 62 (.getfield 292) 3 65 := ⟨tX10_voice_0_ok (62, .getfield 292, 3) (List.mem_of_getElem? (i := 36) rfl), rfl⟩
theorem pX10_voice_65 : At cX10_voice 65 (.iload_n 3) 1 66 := ⟨tX10_voice_0_ok (65, .iload_n 3, 1) (List.mem_of_getElem? (i := 37) rfl), rfl⟩
theorem pX10_voice_66 : At cX10_voice 66 (.invokevirtual 289) 3 69 := ⟨tX10_voice_0_ok (66, .invokevirtual 289, 3) (List.mem_of_getElem? (i := 38) rfl), rfl⟩
theorem pX10_voice_69 : Bt cX10_voice 69 (.goto 46) 46 115 72 := ⟨tX10_voice_0_ok (69, .goto 46, 3) (List.mem_of_getElem? (i := 39) rfl), by decide, rfl⟩
theorem pX10_voice_72 : At cX10_voice 72 (.iload_n 2) 1 73 := ⟨tX10_voice_0_ok (72, .iload_n 2, 1) (List.mem_of_getElem? (i := 40) rfl), rfl⟩
theorem pX10_voice_73 : At cX10_voice 73 (.iconst 1) 1 74 := ⟨tX10_voice_0_ok (73, .iconst 1, 1) (List.mem_of_getElem? (i := 41) rfl), rfl⟩
theorem pX10_voice_74 : Bt cX10_voice 74 (.if_icmp .ne 15) 15 89 77 := ⟨tX10_voice_0_ok (74, .if_icmp .ne 15, 3) (List.mem_of_getElem? (i := 42) rfl), by decide, rfl⟩
theorem pX10_voice_77 : At cX10_voice 77 (.aload_n 0) 1 78 := ⟨tX10_voice_0_ok (77, .aload_n 0, 1) (List.mem_of_getElem? (i := 43) rfl), rfl⟩
theorem pX10_voice_78 : At cX10_voice 78 (.aload_n 0) 1 79 := ⟨tX10_voice_0_ok (78, .aload_n 0, 1) (List.mem_of_getElem? (i := 44) rfl), rfl⟩
theorem pX10_voice_79 : At cX10_voice 79 (.getfield 292) 3 82 := ⟨tX10_voice_0_ok (79, .getfield 292, 3) (List.mem_of_getElem? (i := 45) rfl), rfl⟩
theorem pX10_voice_82 : At cX10_voice 82 (.iload_n 3) 1 83 := ⟨tX10_voice_0_ok (82, .iload_n 3, 1) (List.mem_of_getElem? (i := 46) rfl), rfl⟩
theorem pX10_voice_83 : At cX10_voice 83 (.invokevirtual 295) 3 86 := ⟨tX10_voice_0_ok (83, .invokevirtual 295, 3) (List.mem_of_getElem? (i := 47) rfl), rfl⟩
theorem pX10_voice_86 : Bt cX10_voice 86 (.goto 29) 29 115 89 := ⟨tX10_voice_0_ok (86, .goto 29, 3) (List.mem_of_getElem? (i := 48) rfl), by decide, rfl⟩
theorem pX10_voice_89 : At cX10_voice 89 (.iload_n 2) 1 90 := ⟨tX10_voice_0_ok (89, .iload_n 2, 1) (List.mem_of_getElem? (i := 49) rfl), rfl⟩
theorem pX10_voice_90 : At cX10_voice 90 (.iconst 2) 1 91 := ⟨tX10_voice_0_ok (90, .iconst 2, 1) (List.mem_of_getElem? (i := 50) rfl), rfl⟩
theorem pX10_voice_91 : Bt cX10_voice 91 (.if_icmp .ne 15) 15 106 94 := ⟨tX10_voice_0_ok (91, .if_icmp .ne 15, 3) (List.mem_of_getElem? (i := 51) rfl), by decide, rfl⟩
theorem pX10_voice_94 : At cX10_voice 94 (.aload_n 0) 1 95 := ⟨tX10_voice_0_ok (94, .aload_n 0, 1) (List.mem_of_getElem? (i := 52) rfl), rfl⟩
theorem pX10_voice_95 : At cX10_voice 95 (.aload_n 0) 1 96 := ⟨tX10_voice_0_ok (95, .aload_n 0, 1) (List.mem_of_getElem? (i := 53) rfl), rfl⟩
theorem pX10_voice_96 : At cX10_voice 96 (.getfield 292) 3 99 := ⟨tX10_voice_0_ok (96, .getfield 292, 3) (List.mem_of_getElem? (i := 54) rfl), rfl⟩
theorem pX10_voice_99 : At cX10_voice 99 (.iload_n 3) 1 100 := ⟨tX10_voice_0_ok (99, .iload_n 3, 1) (List.mem_of_getElem? (i := 55) rfl), rfl⟩
theorem pX10_voice_100 : At cX10_voice 100 (.invokevirtual 298) 3 103 := ⟨tX10_voice_0_ok (100, .invokevirtual 298, 3) (List.mem_of_getElem? (i := 56) rfl), rfl⟩
theorem pX10_voice_103 : Bt cX10_voice 103 (.goto 12) 12 115 106 := ⟨tX10_voice_0_ok (103, .goto 12, 3) (List.mem_of_getElem? (i := 57) rfl), by decide, rfl⟩
theorem pX10_voice_106 : At cX10_voice 106 (.aload_n 0) 1 107 := ⟨tX10_voice_0_ok (106, .aload_n 0, 1) (List.mem_of_getElem? (i := 58) rfl), rfl⟩
theorem pX10_voice_107 : At cX10_voice 107 (.aload_n 0) 1 108 := ⟨tX10_voice_0_ok (107, .aload_n 0, 1) (List.mem_of_getElem? (i := 59) rfl), rfl⟩
theorem pX10_voice_108 : At cX10_voice 108 (.getfield 292) 3 111 := ⟨tX10_voice_0_ok (108, .getfield 292, 3) (List.mem_of_getElem? (i := 60) rfl), rfl⟩
theorem pX10_voice_111 : At cX10_voice 111 (.iload_n 3) 1 112 := ⟨tX10_voice_0_ok (111, .iload_n 3, 1) (List.mem_of_getElem? (i := 61) rfl), rfl⟩
theorem pX10_voice_112 : At cX10_voice 112 (.invokevirtual 304) 3 115 := ⟨tX10_voice_0_ok (112, .invokevirtual 304, 3) (List.mem_of_getElem? (i := 62) rfl), rfl⟩
theorem pX10_voice_115 : At cX10_voice 115 (.ireturn) 1 116 := ⟨tX10_voice_0_ok (115, .ireturn, 1) (List.mem_of_getElem? (i := 63) rfl), rfl⟩
def tX10_trace_0 : List (Nat × Instr × Nat) := [(0, .iload_n 1, 1), (1, .i2l, 1), (2, .lconst 0, 1), (3, .aload_n 0, 1), (4, .getfield 277, 3), (7, .iconst 1, 1), (8, .isub, 1), (9, .i2l, 1), (10, .invokestatic 53, 3), (13, .ifCond .eq 12, 3), (16, .aload_n 0, 1), (17, .getfield 46, 3), (20, .iload_n 1, 1), (21, .iaload, 1), (22, .goto 8, 3), (25, .aload_n 0, 1), (26, .iconst 2, 1), (27, .invokevirtual 79, 3), (30, .ireturn, 1)]
theorem tX10_trace_0_ok : ∀ q ∈ tX10_trace_0, decode cX10_trace q.1 = .ok (q.2.1, q.2.2) := by decide +kernel
theorem pX10_trace_0 : At cX10_trace 0 (.iload_n 1) 1 1 := ⟨tX10_trace_0_ok (0, .iload_n 1, 1) (List.mem_of_getElem? (i := 0) rfl), rfl⟩
theorem pX10_trace_1 : At cX10_trace 1 (.i2l) 1 2 := ⟨tX10_trace_0_ok (1, .i2l, 1) (List.mem_of_getElem? (i := 1) rfl), rfl⟩
theorem pX10_trace_2 : At cX10_trace 2 (.lconst 0) 1 3 := ⟨tX10_trace_0_ok (2, .lconst 0, 1) (List.mem_of_getElem? (i := 2) rfl), rfl⟩
theorem pX10_trace_3 : At cX10_trace 3 (.aload_n 0) 1 4 := ⟨tX10_trace_0_ok (3, .aload_n 0, 1) (List.mem_of_getElem? (i := 3) rfl), rfl⟩
theorem pX10_trace_4 : At cX10_trace 4 (.getfield 277) 3 7 := ⟨tX10_trace_0_ok (4, .getfield 277, 3) (List.mem_of_getElem? (i := 4) rfl), rfl⟩
theorem pX10_trace_7 : At cX10_trace 7 (.iconst 1) 1 8 := ⟨tX10_trace_0_ok (7, .iconst 1, 1) (List.mem_of_getElem? (i := 5) rfl), rfl⟩
theorem pX10_trace_8 : At cX10_trace 8 (.isub) 1 9 := ⟨tX10_trace_0_ok (8, .isub, 1) (List.mem_of_getElem? (i := 6) rfl), rfl⟩
theorem pX10_trace_9 : At cX10_trace 9 (.i2l) 1 10 := ⟨tX10_trace_0_ok (9, .i2l, 1) (List.mem_of_getElem? (i := 7) rfl), rfl⟩
theorem pX10_trace_10 : At cX10_trace 10 (.invokestatic 53) 3 13 := ⟨tX10_trace_0_ok (10, .invokestatic 53, 3) (List.mem_of_getElem? (i := 8) rfl), rfl⟩
theorem pX10_trace_13 : Bt cX10_trace 13 (.ifCond .eq 12) 12 25 16 := ⟨tX10_trace_0_ok (13, .ifCond .eq 12, 3) (List.mem_of_getElem? (i := 9) rfl), by decide, rfl⟩
theorem pX10_trace_16 : At cX10_trace 16 (.aload_n 0) 1 17 := ⟨tX10_trace_0_ok (16, .aload_n 0, 1) (List.mem_of_getElem? (i := 10) rfl), rfl⟩
theorem pX10_trace_17 : At cX10_trace 17 (.getfield 46) 3 20 := ⟨tX10_trace_0_ok (17, .getfield 46, 3) (List.mem_of_getElem? (i := 11) rfl), rfl⟩
theorem pX10_trace_20 : At cX10_trace 20 (.iload_n 1) 1 21 := ⟨tX10_trace_0_ok (20, .iload_n 1, 1) (List.mem_of_getElem? (i := 12) rfl), rfl⟩
theorem pX10_trace_21 : At cX10_trace 21 (.iaload) 1 22 := ⟨tX10_trace_0_ok (21, .iaload, 1) (List.mem_of_getElem? (i := 13) rfl), rfl⟩
theorem pX10_trace_22 : Bt cX10_trace 22 (.goto 8) 8 30 25 := ⟨tX10_trace_0_ok (22, .goto 8, 3) (List.mem_of_getElem? (i := 14) rfl), by decide, rfl⟩
theorem pX10_trace_25 : At cX10_trace 25 (.aload_n 0) 1 26 := ⟨tX10_trace_0_ok (25, .aload_n 0, 1) (List.mem_of_getElem? (i := 15) rfl), rfl⟩
theorem pX10_trace_26 : At cX10_trace 26 (.iconst 2) 1 27 := ⟨tX10_trace_0_ok (26, .iconst 2, 1) (List.mem_of_getElem? (i := 16) rfl), rfl⟩
theorem pX10_trace_27 : At cX10_trace 27 (.invokevirtual 79) 3 30 := ⟨tX10_trace_0_ok (27, .invokevirtual 79, 3) (List.mem_of_getElem? (i := 17) rfl), rfl⟩
theorem pX10_trace_30 : At cX10_trace 30 (.ireturn) 1 31 := ⟨tX10_trace_0_ok (30, .ireturn, 1) (List.mem_of_getElem? (i := 18) rfl), rfl⟩
def tX10_sheet_0 : List (Nat × Instr × Nat) := [(0, .iload_n 1, 1), (1, .invokestatic 266, 3), (4, .ifCond .eq 25, 3), (7, .iload_n 2, 1), (8, .ifCond .eq 27, 3), (11, .iload_n 2, 1), (12, .bipush 8, 2), (14, .if_icmp .eq 21, 3), (17, .iload_n 2, 1), (18, .bipush 16, 2), (20, .if_icmp .eq 15, 3), (23, .iload_n 2, 1), (24, .bipush 32, 2), (26, .if_icmp .eq 9, 3), (29, .aload_n 0, 1), (30, .iconst 1, 1), (31, .invokevirtual 79, 3), (34, .ireturn, 1), (35, .iload_n 2, 1), (36, .ifCond .eq 29, 3), (39, .iload_n 3, 1), (40, .i2l, 1), (41, .lconst 0, 1), (42, .ldc2_w 77, 3), (45, .invokestatic 53, 3), (48, .ifCond .ne 17, 3), (51, .aload_n 0, 1), (52, .iload_n 3, 1), (53, .ifCond .ge 7, 3), (56, .iconst 3, 1), (57, .goto 4, 3), (60, .iconst 1, 1), (61, .invokevirtual 79, 3), (64, .ireturn, 1), (65, .aload_n 0, 1), (66, .getfield 37, 3), (69, .iload_n 1, 1), (70, .iload_n 2, 1), (71, .iastore, 1), (72, .aload_n 0, 1), (73, .getfield 40, 3), (76, .iload_n 1, 1), (77, .iload_n 2, 1), (78, .ifCond .ne 7, 3), (81, .iconst 0, 1), (82, .goto 4, 3), (85, .iload_n 3, 1), (86, .iastore, 1), (87, .iconst 0, 1), (88, .istore 4, 2), (90, .iload 4, 2), (92, .bipush 40, 2), (94, .if_icmp .ge 22, 3), (97, .aload_n 0, 1), (98, .getfield 43, 3), (101, .bipush 40, 2), (103, .iload_n 1, 1), (104, .imul, 1), (105, .iload 4, 2), (107, .iadd, 1), (108, .iconst 0, 1), (109, .iastore, 1), (110, .iinc 4 1, 3), (113, .goto (-23), 3), (116, .iconst 1, 1), (117, .ireturn, 1)]
theorem tX10_sheet_0_ok : ∀ q ∈ tX10_sheet_0, decode cX10_sheet q.1 = .ok (q.2.1, q.2.2) := by decide +kernel
theorem pX10_sheet_0 : At cX10_sheet 0 (.iload_n 1) 1 1 := ⟨tX10_sheet_0_ok (0, .iload_n 1, 1) (List.mem_of_getElem? (i := 0) rfl), rfl⟩
theorem pX10_sheet_1 : At cX10_sheet 1 (.invokestatic 266) 3 4 := ⟨tX10_sheet_0_ok (1, .invokestatic 266, 3) (List.mem_of_getElem? (i := 1) rfl), rfl⟩
theorem pX10_sheet_4 : Bt cX10_sheet 4 (.ifCond .eq 25) 25 29 7 := ⟨tX10_sheet_0_ok (4, .ifCond .eq 25, 3) (List.mem_of_getElem? (i := 2) rfl), by decide, rfl⟩
theorem pX10_sheet_7 : At cX10_sheet 7 (.iload_n 2) 1 8 := ⟨tX10_sheet_0_ok (7, .iload_n 2, 1) (List.mem_of_getElem? (i := 3) rfl), rfl⟩
theorem pX10_sheet_8 : Bt cX10_sheet 8 (.ifCond .eq 27) 27 35 11 := ⟨tX10_sheet_0_ok (8, .ifCond .eq 27, 3) (List.mem_of_getElem? (i := 4) rfl), by decide, rfl⟩
theorem pX10_sheet_11 : At cX10_sheet 11 (.iload_n 2) 1 12 := ⟨tX10_sheet_0_ok (11, .iload_n 2, 1) (List.mem_of_getElem? (i := 5) rfl), rfl⟩
theorem pX10_sheet_12 : At cX10_sheet 12 (.bipush 8) 2 14 := ⟨tX10_sheet_0_ok (12, .bipush 8, 2) (List.mem_of_getElem? (i := 6) rfl), rfl⟩
theorem pX10_sheet_14 : Bt cX10_sheet 14 (.if_icmp .eq 21) 21 35 17 := ⟨tX10_sheet_0_ok (14, .if_icmp .eq 21, 3) (List.mem_of_getElem? (i := 7) rfl), by decide, rfl⟩
theorem pX10_sheet_17 : At cX10_sheet 17 (.iload_n 2) 1 18 := ⟨tX10_sheet_0_ok (17, .iload_n 2, 1) (List.mem_of_getElem? (i := 8) rfl), rfl⟩
theorem pX10_sheet_18 : At cX10_sheet 18 (.bipush 16) 2 20 := ⟨tX10_sheet_0_ok (18, .bipush 16, 2) (List.mem_of_getElem? (i := 9) rfl), rfl⟩
theorem pX10_sheet_20 : Bt cX10_sheet 20 (.if_icmp .eq 15) 15 35 23 := ⟨tX10_sheet_0_ok (20, .if_icmp .eq 15, 3) (List.mem_of_getElem? (i := 10) rfl), by decide, rfl⟩
theorem pX10_sheet_23 : At cX10_sheet 23 (.iload_n 2) 1 24 := ⟨tX10_sheet_0_ok (23, .iload_n 2, 1) (List.mem_of_getElem? (i := 11) rfl), rfl⟩
theorem pX10_sheet_24 : At cX10_sheet 24 (.bipush 32) 2 26 := ⟨tX10_sheet_0_ok (24, .bipush 32, 2) (List.mem_of_getElem? (i := 12) rfl), rfl⟩
theorem pX10_sheet_26 : Bt cX10_sheet 26 (.if_icmp .eq 9) 9 35 29 := ⟨tX10_sheet_0_ok (26, .if_icmp .eq 9, 3) (List.mem_of_getElem? (i := 13) rfl), by decide, rfl⟩
theorem pX10_sheet_29 : At cX10_sheet 29 (.aload_n 0) 1 30 := ⟨tX10_sheet_0_ok (29, .aload_n 0, 1) (List.mem_of_getElem? (i := 14) rfl), rfl⟩
theorem pX10_sheet_30 : At cX10_sheet 30 (.iconst 1) 1 31 := ⟨tX10_sheet_0_ok (30, .iconst 1, 1) (List.mem_of_getElem? (i := 15) rfl), rfl⟩
theorem pX10_sheet_31 : At cX10_sheet 31 (.invokevirtual 79) 3 34 := ⟨tX10_sheet_0_ok (31, .invokevirtual 79, 3) (List.mem_of_getElem? (i := 16) rfl), rfl⟩
theorem pX10_sheet_34 : At cX10_sheet 34 (.ireturn) 1 35 := ⟨tX10_sheet_0_ok (34, .ireturn, 1) (List.mem_of_getElem? (i := 17) rfl), rfl⟩
theorem pX10_sheet_35 : At cX10_sheet 35 (.iload_n 2) 1 36 := ⟨tX10_sheet_0_ok (35, .iload_n 2, 1) (List.mem_of_getElem? (i := 18) rfl), rfl⟩
theorem pX10_sheet_36 : Bt cX10_sheet 36 (.ifCond .eq 29) 29 65 39 := ⟨tX10_sheet_0_ok (36, .ifCond .eq 29, 3) (List.mem_of_getElem? (i := 19) rfl), by decide, rfl⟩
theorem pX10_sheet_39 : At cX10_sheet 39 (.iload_n 3) 1 40 := ⟨tX10_sheet_0_ok (39, .iload_n 3, 1) (List.mem_of_getElem? (i := 20) rfl), rfl⟩
theorem pX10_sheet_40 : At cX10_sheet 40 (.i2l) 1 41 := ⟨tX10_sheet_0_ok (40, .i2l, 1) (List.mem_of_getElem? (i := 21) rfl), rfl⟩
theorem pX10_sheet_41 : At cX10_sheet 41 (.lconst 0) 1 42 := ⟨tX10_sheet_0_ok (41, .lconst 0, 1) (List.mem_of_getElem? (i := 22) rfl), rfl⟩
theorem pX10_sheet_42 : At cX10_sheet 42 (.ldc2_w 77) 3 45 := ⟨tX10_sheet_0_ok (42, .ldc2_w 77, 3) (List.mem_of_getElem? (i := 23) rfl), rfl⟩
theorem pX10_sheet_45 : At cX10_sheet 45 (.invokestatic 53) 3 48 := ⟨tX10_sheet_0_ok (45, .invokestatic 53, 3) (List.mem_of_getElem? (i := 24) rfl), rfl⟩
theorem pX10_sheet_48 : Bt cX10_sheet 48 (.ifCond .ne 17) 17 65 51 := ⟨tX10_sheet_0_ok (48, .ifCond .ne 17, 3) (List.mem_of_getElem? (i := 25) rfl), by decide, rfl⟩
theorem pX10_sheet_51 : At cX10_sheet 51 (.aload_n 0) 1 52 := ⟨tX10_sheet_0_ok (51, .aload_n 0, 1) (List.mem_of_getElem? (i := 26) rfl), rfl⟩
theorem pX10_sheet_52 : At cX10_sheet 52 (.iload_n 3) 1 53 := ⟨tX10_sheet_0_ok (52, .iload_n 3, 1) (List.mem_of_getElem? (i := 27) rfl), rfl⟩
theorem pX10_sheet_53 : Bt cX10_sheet 53 (.ifCond .ge 7) 7 60 56 := ⟨tX10_sheet_0_ok (53, .ifCond .ge 7, 3) (List.mem_of_getElem? (i := 28) rfl), by decide, rfl⟩
theorem pX10_sheet_56 : At cX10_sheet 56 (.iconst 3) 1 57 := ⟨tX10_sheet_0_ok (56, .iconst 3, 1) (List.mem_of_getElem? (i := 29) rfl), rfl⟩
theorem pX10_sheet_57 : Bt cX10_sheet 57 (.goto 4) 4 61 60 := ⟨tX10_sheet_0_ok (57, .goto 4, 3) (List.mem_of_getElem? (i := 30) rfl), by decide, rfl⟩
theorem pX10_sheet_60 : At cX10_sheet 60 (.iconst 1) 1 61 := ⟨tX10_sheet_0_ok (60, .iconst 1, 1) (List.mem_of_getElem? (i := 31) rfl), rfl⟩
theorem pX10_sheet_61 : At cX10_sheet 61 (.invokevirtual 79) 3 64 := ⟨tX10_sheet_0_ok (61, .invokevirtual 79, 3) (List.mem_of_getElem? (i := 32) rfl), rfl⟩
theorem pX10_sheet_64 : At cX10_sheet 64 (.ireturn) 1 65 := ⟨tX10_sheet_0_ok (64, .ireturn, 1) (List.mem_of_getElem? (i := 33) rfl), rfl⟩
theorem pX10_sheet_65 : At cX10_sheet 65 (.aload_n 0) 1 66 := ⟨tX10_sheet_0_ok (65, .aload_n 0, 1) (List.mem_of_getElem? (i := 34) rfl), rfl⟩
theorem pX10_sheet_66 : At cX10_sheet 66 (.getfield 37) 3 69 := ⟨tX10_sheet_0_ok (66, .getfield 37, 3) (List.mem_of_getElem? (i := 35) rfl), rfl⟩
theorem pX10_sheet_69 : At cX10_sheet 69 (.iload_n 1) 1 70 := ⟨tX10_sheet_0_ok (69, .iload_n 1, 1) (List.mem_of_getElem? (i := 36) rfl), rfl⟩
theorem pX10_sheet_70 : At cX10_sheet 70 (.iload_n 2) 1 71 := ⟨tX10_sheet_0_ok (70, .iload_n 2, 1) (List.mem_of_getElem? (i := 37) rfl), rfl⟩
theorem pX10_sheet_71 : At cX10_sheet 71 (.iastore) 1 72 := ⟨tX10_sheet_0_ok (71, .iastore, 1) (List.mem_of_getElem? (i := 38) rfl), rfl⟩
theorem pX10_sheet_72 : At cX10_sheet 72 (.aload_n 0) 1 73 := ⟨tX10_sheet_0_ok (72, .aload_n 0, 1) (List.mem_of_getElem? (i := 39) rfl), rfl⟩
theorem pX10_sheet_73 : At cX10_sheet 73 (.getfield 40) 3 76 := ⟨tX10_sheet_0_ok (73, .getfield 40, 3) (List.mem_of_getElem? (i := 40) rfl), rfl⟩
theorem pX10_sheet_76 : At cX10_sheet 76 (.iload_n 1) 1 77 := ⟨tX10_sheet_0_ok (76, .iload_n 1, 1) (List.mem_of_getElem? (i := 41) rfl), rfl⟩
theorem pX10_sheet_77 : At cX10_sheet 77 (.iload_n 2) 1 78 := ⟨tX10_sheet_0_ok (77, .iload_n 2, 1) (List.mem_of_getElem? (i := 42) rfl), rfl⟩
theorem pX10_sheet_78 : Bt cX10_sheet 78 (.ifCond .ne 7) 7 85 81 := ⟨tX10_sheet_0_ok (78, .ifCond .ne 7, 3) (List.mem_of_getElem? (i := 43) rfl), by decide, rfl⟩
theorem pX10_sheet_81 : At cX10_sheet 81 (.iconst 0) 1 82 := ⟨tX10_sheet_0_ok (81, .iconst 0, 1) (List.mem_of_getElem? (i := 44) rfl), rfl⟩
theorem pX10_sheet_82 : Bt cX10_sheet 82 (.goto 4) 4 86 85 := ⟨tX10_sheet_0_ok (82, .goto 4, 3) (List.mem_of_getElem? (i := 45) rfl), by decide, rfl⟩
theorem pX10_sheet_85 : At cX10_sheet 85 (.iload_n 3) 1 86 := ⟨tX10_sheet_0_ok (85, .iload_n 3, 1) (List.mem_of_getElem? (i := 46) rfl), rfl⟩
theorem pX10_sheet_86 : At cX10_sheet 86 (.iastore) 1 87 := ⟨tX10_sheet_0_ok (86, .iastore, 1) (List.mem_of_getElem? (i := 47) rfl), rfl⟩
theorem pX10_sheet_87 : At cX10_sheet 87 (.iconst 0) 1 88 := ⟨tX10_sheet_0_ok (87, .iconst 0, 1) (List.mem_of_getElem? (i := 48) rfl), rfl⟩
theorem pX10_sheet_88 : At cX10_sheet 88 (.istore 4) 2 90 := ⟨tX10_sheet_0_ok (88, .istore 4, 2) (List.mem_of_getElem? (i := 49) rfl), rfl⟩
theorem pX10_sheet_90 : At cX10_sheet 90 (.iload 4) 2 92 := ⟨tX10_sheet_0_ok (90, .iload 4, 2) (List.mem_of_getElem? (i := 50) rfl), rfl⟩
theorem pX10_sheet_92 : At cX10_sheet 92 (.bipush 40) 2 94 := ⟨tX10_sheet_0_ok (92, .bipush 40, 2) (List.mem_of_getElem? (i := 51) rfl), rfl⟩
theorem pX10_sheet_94 : Bt cX10_sheet 94 (.if_icmp .ge 22) 22 116 97 := ⟨tX10_sheet_0_ok (94, .if_icmp .ge 22, 3) (List.mem_of_getElem? (i := 52) rfl), by decide, rfl⟩
theorem pX10_sheet_97 : At cX10_sheet 97 (.aload_n 0) 1 98 := ⟨tX10_sheet_0_ok (97, .aload_n 0, 1) (List.mem_of_getElem? (i := 53) rfl), rfl⟩
theorem pX10_sheet_98 : At cX10_sheet 98 (.getfield 43) 3 101 := ⟨tX10_sheet_0_ok (98, .getfield 43, 3) (List.mem_of_getElem? (i := 54) rfl), rfl⟩
theorem pX10_sheet_101 : At cX10_sheet 101 (.bipush 40) 2 103 := ⟨tX10_sheet_0_ok (101, .bipush 40, 2) (List.mem_of_getElem? (i := 55) rfl), rfl⟩
theorem pX10_sheet_103 : At cX10_sheet 103 (.iload_n 1) 1 104 := ⟨tX10_sheet_0_ok (103, .iload_n 1, 1) (List.mem_of_getElem? (i := 56) rfl), rfl⟩
theorem pX10_sheet_104 : At cX10_sheet 104 (.imul) 1 105 := ⟨tX10_sheet_0_ok (104, .imul, 1) (List.mem_of_getElem? (i := 57) rfl), rfl⟩
theorem pX10_sheet_105 : At cX10_sheet 105 (.iload 4) 2 107 := ⟨tX10_sheet_0_ok (105, .iload 4, 2) (List.mem_of_getElem? (i := 58) rfl), rfl⟩
theorem pX10_sheet_107 : At cX10_sheet 107 (.iadd) 1 108 := ⟨tX10_sheet_0_ok (107, .iadd, 1) (List.mem_of_getElem? (i := 59) rfl), rfl⟩
theorem pX10_sheet_108 : At cX10_sheet 108 (.iconst 0) 1 109 := ⟨tX10_sheet_0_ok (108, .iconst 0, 1) (List.mem_of_getElem? (i := 60) rfl), rfl⟩
theorem pX10_sheet_109 : At cX10_sheet 109 (.iastore) 1 110 := ⟨tX10_sheet_0_ok (109, .iastore, 1) (List.mem_of_getElem? (i := 61) rfl), rfl⟩
theorem pX10_sheet_110 : At cX10_sheet 110 (.iinc 4 1) 3 113 := ⟨tX10_sheet_0_ok (110, .iinc 4 1, 3) (List.mem_of_getElem? (i := 62) rfl), rfl⟩
theorem pX10_sheet_113 : Bt cX10_sheet 113 (.goto (-23)) (-23) 90 116 := ⟨tX10_sheet_0_ok (113, .goto (-23), 3) (List.mem_of_getElem? (i := 63) rfl), by decide, rfl⟩
theorem pX10_sheet_116 : At cX10_sheet 116 (.iconst 1) 1 117 := ⟨tX10_sheet_0_ok (116, .iconst 1, 1) (List.mem_of_getElem? (i := 64) rfl), rfl⟩
theorem pX10_sheet_117 : At cX10_sheet 117 (.ireturn) 1 118 := ⟨tX10_sheet_0_ok (117, .ireturn, 1) (List.mem_of_getElem? (i := 65) rfl), rfl⟩
def tX10_noSheet_0 : List (Nat × Instr × Nat) := [(0, .iload_n 1, 1), (1, .invokestatic 266, 3), (4, .ifCond .ne 11, 3), (7, .aload_n 0, 1), (8, .iconst 1, 1), (9, .invokevirtual 79, 3), (12, .goto 21, 3), (15, .aload_n 0, 1), (16, .getfield 37, 3), (19, .iload_n 1, 1), (20, .iaload, 1), (21, .ifCond .ne 11, 3), (24, .aload_n 0, 1), (25, .iconst 2, 1), (26, .invokevirtual 79, 3), (29, .goto 4, 3), (32, .iconst 0, 1), (33, .ireturn, 1)]
theorem tX10_noSheet_0_ok : ∀ q ∈ tX10_noSheet_0, decode cX10_noSheet q.1 = .ok (q.2.1, q.2.2) := by decide +kernel
theorem pX10_noSheet_0 : At cX10_noSheet 0 (.iload_n 1) 1 1 := ⟨tX10_noSheet_0_ok (0, .iload_n 1, 1) (List.mem_of_getElem? (i := 0) rfl), rfl⟩
theorem pX10_noSheet_1 : At cX10_noSheet 1 (.invokestatic 266) 3 4 := ⟨tX10_noSheet_0_ok (1, .invokestatic 266, 3) (List.mem_of_getElem? (i := 1) rfl), rfl⟩
theorem pX10_noSheet_4 : Bt cX10_noSheet 4 (.ifCond .ne 11) 11 15 7 := ⟨tX10_noSheet_0_ok (4, .ifCond .ne 11, 3) (List.mem_of_getElem? (i := 2) rfl), by decide, rfl⟩
theorem pX10_noSheet_7 : At cX10_noSheet 7 (.aload_n 0) 1 8 := ⟨tX10_noSheet_0_ok (7, .aload_n 0, 1) (List.mem_of_getElem? (i := 3) rfl), rfl⟩
theorem pX10_noSheet_8 : At cX10_noSheet 8 (.iconst 1) 1 9 := ⟨tX10_noSheet_0_ok (8, .iconst 1, 1) (List.mem_of_getElem? (i := 4) rfl), rfl⟩
theorem pX10_noSheet_9 : At cX10_noSheet 9 (.invokevirtual 79) 3 12 := ⟨tX10_noSheet_0_ok (9, .invokevirtual 79, 3) (List.mem_of_getElem? (i := 5) rfl), rfl⟩
theorem pX10_noSheet_12 : Bt cX10_noSheet 12 (.goto 21) 21 33 15 := ⟨tX10_noSheet_0_ok (12, .goto 21, 3) (List.mem_of_getElem? (i := 6) rfl), by decide, rfl⟩
theorem pX10_noSheet_15 : At cX10_noSheet 15 (.aload_n 0) 1 16 := ⟨tX10_noSheet_0_ok (15, .aload_n 0, 1) (List.mem_of_getElem? (i := 7) rfl), rfl⟩
theorem pX10_noSheet_16 : At cX10_noSheet 16 (.getfield 37) 3 19 := ⟨tX10_noSheet_0_ok (16, .getfield 37, 3) (List.mem_of_getElem? (i := 8) rfl), rfl⟩
theorem pX10_noSheet_19 : At cX10_noSheet 19 (.iload_n 1) 1 20 := ⟨tX10_noSheet_0_ok (19, .iload_n 1, 1) (List.mem_of_getElem? (i := 9) rfl), rfl⟩
theorem pX10_noSheet_20 : At cX10_noSheet 20 (.iaload) 1 21 := ⟨tX10_noSheet_0_ok (20, .iaload, 1) (List.mem_of_getElem? (i := 10) rfl), rfl⟩
theorem pX10_noSheet_21 : Bt cX10_noSheet 21 (.ifCond .ne 11) 11 32 24 := ⟨tX10_noSheet_0_ok (21, .ifCond .ne 11, 3) (List.mem_of_getElem? (i := 11) rfl), by decide, rfl⟩
theorem pX10_noSheet_24 : At cX10_noSheet 24 (.aload_n 0) 1 25 := ⟨tX10_noSheet_0_ok (24, .aload_n 0, 1) (List.mem_of_getElem? (i := 12) rfl), rfl⟩
theorem pX10_noSheet_25 : At cX10_noSheet 25 (.iconst 2) 1 26 := ⟨tX10_noSheet_0_ok (25, .iconst 2, 1) (List.mem_of_getElem? (i := 13) rfl), rfl⟩
theorem pX10_noSheet_26 : At cX10_noSheet 26 (.invokevirtual 79) 3 29 := ⟨tX10_noSheet_0_ok (26, .invokevirtual 79, 3) (List.mem_of_getElem? (i := 14) rfl), rfl⟩
theorem pX10_noSheet_29 : Bt cX10_noSheet 29 (.goto 4) 4 33 32 := ⟨tX10_noSheet_0_ok (29, .goto 4, 3) (List.mem_of_getElem? (i := 15) rfl), by decide, rfl⟩
theorem pX10_noSheet_32 : At cX10_noSheet 32 (.iconst 0) 1 33 := ⟨tX10_noSheet_0_ok (32, .iconst 0, 1) (List.mem_of_getElem? (i := 16) rfl), rfl⟩
theorem pX10_noSheet_33 : At cX10_noSheet 33 (.ireturn) 1 34 := ⟨tX10_noSheet_0_ok (33, .ireturn, 1) (List.mem_of_getElem? (i := 17) rfl), rfl⟩
def tX10_put_0 : List (Nat × Instr × Nat) := [(0, .aload_n 0, 1), (1, .iload_n 1, 1), (2, .invokevirtual 307, 3), (5, .istore 4, 2), (7, .iload 4, 2), (9, .ifCond .eq 6, 3), (12, .iload 4, 2), (14, .ireturn, 1), (15, .iload_n 2, 1), (16, .i2l, 1), (17, .lconst 0, 1), (18, .aload_n 0, 1), (19, .getfield 40, 3), (22, .iload_n 1, 1), (23, .iaload, 1), (24, .iconst 1, 1), (25, .isub, 1), (26, .i2l, 1), (27, .invokestatic 53, 3), (30, .ifCond .ne 9, 3), (33, .aload_n 0, 1), (34, .iconst 1, 1), (35, .invokevirtual 79, 3), (38, .ireturn, 1), (39, .aload_n 0, 1), (40, .getfield 43, 3), (43, .bipush 40, 2), (45, .iload_n 1, 1), (46, .imul, 1), (47, .iload_n 2, 1), (48, .iadd, 1), (49, .aload_n 0, 1), (50, .getfield 37, 3), (53, .iload_n 1, 1), (54, .iaload, 1), (55, .bipush 8, 2), (57, .if_icmp .ne 8, 3), (60, .iload_n 3, 1), (61, .i2b, 1), (62, .goto 20, 3), (65, .aload_n 0, 1), (66, .getfield 37, 3), (69, .iload_n 1, 1), (70, .iaload, 1), (71, .bipush 16, 2), (73, .if_icmp .ne 8, 3), (76, .iload_n 3, 1), (77, .i2s, 1), (78, .goto 4, 3), (81, .iload_n 3, 1), (82, .iastore, 1), (83, .iconst 1, 1), (84, .ireturn, 1)]
theorem tX10_put_0_ok : ∀ q ∈ tX10_put_0, decode cX10_put q.1 = .ok (q.2.1, q.2.2) := by decide +kernel
theorem pX10_put_0 : At cX10_put 0 (.aload_n 0) 1 1 := ⟨tX10_put_0_ok (0, .aload_n 0, 1) (List.mem_of_getElem? (i := 0) rfl), rfl⟩
theorem pX10_put_1 : At cX10_put 1 (.iload_n 1) 1 2 := ⟨tX10_put_0_ok (1, .iload_n 1, 1) (List.mem_of_getElem? (i := 1) rfl), rfl⟩
theorem pX10_put_2 : At cX10_put 2 (.invokevirtual 307) 3 5 := ⟨tX10_put_0_ok (2, .invokevirtual 307, 3) (List.mem_of_getElem? (i := 2) rfl), rfl⟩
theorem pX10_put_5 : At cX10_put 5 (.istore 4) 2 7 := ⟨tX10_put_0_ok (5, .istore 4, 2) (List.mem_of_getElem? (i := 3) rfl), rfl⟩
theorem pX10_put_7 : At cX10_put 7 (.iload 4) 2 9 := ⟨tX10_put_0_ok (7, .iload 4, 2) (List.mem_of_getElem? (i := 4) rfl), rfl⟩
theorem pX10_put_9 : Bt cX10_put 9 (.ifCond .eq 6) 6 15 12 := ⟨tX10_put_0_ok (9, .ifCond .eq 6, 3) (List.mem_of_getElem? (i := 5) rfl), by decide, rfl⟩
theorem pX10_put_12 : At cX10_put 12 (.iload 4) 2 14 := ⟨tX10_put_0_ok (12, .iload 4, 2) (List.mem_of_getElem? (i := 6) rfl), rfl⟩
theorem pX10_put_14 : At cX10_put 14 (.ireturn) 1 15 := ⟨tX10_put_0_ok (14, .ireturn, 1) (List.mem_of_getElem? (i := 7) rfl), rfl⟩
theorem pX10_put_15 : At cX10_put 15 (.iload_n 2) 1 16 := ⟨tX10_put_0_ok (15, .iload_n 2, 1) (List.mem_of_getElem? (i := 8) rfl), rfl⟩
theorem pX10_put_16 : At cX10_put 16 (.i2l) 1 17 := ⟨tX10_put_0_ok (16, .i2l, 1) (List.mem_of_getElem? (i := 9) rfl), rfl⟩
theorem pX10_put_17 : At cX10_put 17 (.lconst 0) 1 18 := ⟨tX10_put_0_ok (17, .lconst 0, 1) (List.mem_of_getElem? (i := 10) rfl), rfl⟩
theorem pX10_put_18 : At cX10_put 18 (.aload_n 0) 1 19 := ⟨tX10_put_0_ok (18, .aload_n 0, 1) (List.mem_of_getElem? (i := 11) rfl), rfl⟩
theorem pX10_put_19 : At cX10_put 19 (.getfield 40) 3 22 := ⟨tX10_put_0_ok (19, .getfield 40, 3) (List.mem_of_getElem? (i := 12) rfl), rfl⟩
theorem pX10_put_22 : At cX10_put 22 (.iload_n 1) 1 23 := ⟨tX10_put_0_ok (22, .iload_n 1, 1) (List.mem_of_getElem? (i := 13) rfl), rfl⟩
theorem pX10_put_23 : At cX10_put 23 (.iaload) 1 24 := ⟨tX10_put_0_ok (23, .iaload, 1) (List.mem_of_getElem? (i := 14) rfl), rfl⟩
theorem pX10_put_24 : At cX10_put 24 (.iconst 1) 1 25 := ⟨tX10_put_0_ok (24, .iconst 1, 1) (List.mem_of_getElem? (i := 15) rfl), rfl⟩
theorem pX10_put_25 : At cX10_put 25 (.isub) 1 26 := ⟨tX10_put_0_ok (25, .isub, 1) (List.mem_of_getElem? (i := 16) rfl), rfl⟩
theorem pX10_put_26 : At cX10_put 26 (.i2l) 1 27 := ⟨tX10_put_0_ok (26, .i2l, 1) (List.mem_of_getElem? (i := 17) rfl), rfl⟩
theorem pX10_put_27 : At cX10_put 27 (.invokestatic 53) 3 30 := ⟨tX10_put_0_ok (27, .invokestatic 53, 3) (List.mem_of_getElem? (i := 18) rfl), rfl⟩
theorem pX10_put_30 : Bt cX10_put 30 (.ifCond .ne 9) 9 39 33 := ⟨tX10_put_0_ok (30, .ifCond .ne 9, 3) (List.mem_of_getElem? (i := 19) rfl), by decide, rfl⟩
theorem pX10_put_33 : At cX10_put 33 (.aload_n 0) 1 34 := ⟨tX10_put_0_ok (33, .aload_n 0, 1) (List.mem_of_getElem? (i := 20) rfl), rfl⟩
theorem pX10_put_34 : At cX10_put 34 (.iconst 1) 1 35 := ⟨tX10_put_0_ok (34, .iconst 1, 1) (List.mem_of_getElem? (i := 21) rfl), rfl⟩
theorem pX10_put_35 : At cX10_put 35 (.invokevirtual 79) 3 38 := ⟨tX10_put_0_ok (35, .invokevirtual 79, 3) (List.mem_of_getElem? (i := 22) rfl), rfl⟩
theorem pX10_put_38 : At cX10_put 38 (.ireturn) 1 39 := ⟨tX10_put_0_ok (38, .ireturn, 1) (List.mem_of_getElem? (i := 23) rfl), rfl⟩
theorem pX10_put_39 : At cX10_put 39 (.aload_n 0) 1 40 := ⟨tX10_put_0_ok (39, .aload_n 0, 1) (List.mem_of_getElem? (i := 24) rfl), rfl⟩
theorem pX10_put_40 : At cX10_put 40 (.getfield 43) 3 43 := ⟨tX10_put_0_ok (40, .getfield 43, 3) (List.mem_of_getElem? (i := 25) rfl), rfl⟩
theorem pX10_put_43 : At cX10_put 43 (.bipush 40) 2 45 := ⟨tX10_put_0_ok (43, .bipush 40, 2) (List.mem_of_getElem? (i := 26) rfl), rfl⟩
theorem pX10_put_45 : At cX10_put 45 (.iload_n 1) 1 46 := ⟨tX10_put_0_ok (45, .iload_n 1, 1) (List.mem_of_getElem? (i := 27) rfl), rfl⟩
theorem pX10_put_46 : At cX10_put 46 (.imul) 1 47 := ⟨tX10_put_0_ok (46, .imul, 1) (List.mem_of_getElem? (i := 28) rfl), rfl⟩
theorem pX10_put_47 : At cX10_put 47 (.iload_n 2) 1 48 := ⟨tX10_put_0_ok (47, .iload_n 2, 1) (List.mem_of_getElem? (i := 29) rfl), rfl⟩
theorem pX10_put_48 : At cX10_put 48 (.iadd) 1 49 := ⟨tX10_put_0_ok (48, .iadd, 1) (List.mem_of_getElem? (i := 30) rfl), rfl⟩
theorem pX10_put_49 : At cX10_put 49 (.aload_n 0) 1 50 := ⟨tX10_put_0_ok (49, .aload_n 0, 1) (List.mem_of_getElem? (i := 31) rfl), rfl⟩
theorem pX10_put_50 : At cX10_put 50 (.getfield 37) 3 53 := ⟨tX10_put_0_ok (50, .getfield 37, 3) (List.mem_of_getElem? (i := 32) rfl), rfl⟩
theorem pX10_put_53 : At cX10_put 53 (.iload_n 1) 1 54 := ⟨tX10_put_0_ok (53, .iload_n 1, 1) (List.mem_of_getElem? (i := 33) rfl), rfl⟩
theorem pX10_put_54 : At cX10_put 54 (.iaload) 1 55 := ⟨tX10_put_0_ok (54, .iaload, 1) (List.mem_of_getElem? (i := 34) rfl), rfl⟩
theorem pX10_put_55 : At cX10_put 55 (.bipush 8) 2 57 := ⟨tX10_put_0_ok (55, .bipush 8, 2) (List.mem_of_getElem? (i := 35) rfl), rfl⟩
theorem pX10_put_57 : Bt cX10_put 57 (.if_icmp .ne 8) 8 65 60 := ⟨tX10_put_0_ok (57, .if_icmp .ne 8, 3) (List.mem_of_getElem? (i := 36) rfl), by decide, rfl⟩
theorem pX10_put_60 : At cX10_put 60 (.iload_n 3) 1 61 := ⟨tX10_put_0_ok (60, .iload_n 3, 1) (List.mem_of_getElem? (i := 37) rfl), rfl⟩
theorem pX10_put_61 : At cX10_put 61 (.i2b) 1 62 := ⟨tX10_put_0_ok (61, .i2b, 1) (List.mem_of_getElem? (i := 38) rfl), rfl⟩
theorem pX10_put_62 : Bt cX10_put 62 (.goto 20) 20 82 65 := ⟨tX10_put_0_ok (62, .goto 20, 3) (List.mem_of_getElem? (i := 39) rfl), by decide, rfl⟩
theorem pX10_put_65 : At cX10_put 65 (.aload_n 0) 1 66 := ⟨tX10_put_0_ok (65, .aload_n 0, 1) (List.mem_of_getElem? (i := 40) rfl), rfl⟩
theorem pX10_put_66 : At cX10_put 66 (.getfield 37) 3 69 := ⟨tX10_put_0_ok (66, .getfield 37, 3) (List.mem_of_getElem? (i := 41) rfl), rfl⟩
theorem pX10_put_69 : At cX10_put 69 (.iload_n 1) 1 70 := ⟨tX10_put_0_ok (69, .iload_n 1, 1) (List.mem_of_getElem? (i := 42) rfl), rfl⟩
theorem pX10_put_70 : At cX10_put 70 (.iaload) 1 71 := ⟨tX10_put_0_ok (70, .iaload, 1) (List.mem_of_getElem? (i := 43) rfl), rfl⟩
theorem pX10_put_71 : At cX10_put 71 (.bipush 16) 2 73 := ⟨tX10_put_0_ok (71, .bipush 16, 2) (List.mem_of_getElem? (i := 44) rfl), rfl⟩
theorem pX10_put_73 : Bt cX10_put 73 (.if_icmp .ne 8) 8 81 76 := ⟨tX10_put_0_ok (73, .if_icmp .ne 8, 3) (List.mem_of_getElem? (i := 45) rfl), by decide, rfl⟩
theorem pX10_put_76 : At cX10_put 76 (.iload_n 3) 1 77 := ⟨tX10_put_0_ok (76, .iload_n 3, 1) (List.mem_of_getElem? (i := 46) rfl), rfl⟩
theorem pX10_put_77 : At cX10_put 77 (.i2s) 1 78 := ⟨tX10_put_0_ok (77, .i2s, 1) (List.mem_of_getElem? (i := 47) rfl), rfl⟩
theorem pX10_put_78 : Bt cX10_put 78 (.goto 4) 4 82 81 := ⟨tX10_put_0_ok (78, .goto 4, 3) (List.mem_of_getElem? (i := 48) rfl), by decide, rfl⟩
theorem pX10_put_81 : At cX10_put 81 (.iload_n 3) 1 82 := ⟨tX10_put_0_ok (81, .iload_n 3, 1) (List.mem_of_getElem? (i := 49) rfl), rfl⟩
theorem pX10_put_82 : At cX10_put 82 (.iastore) 1 83 := ⟨tX10_put_0_ok (82, .iastore, 1) (List.mem_of_getElem? (i := 50) rfl), rfl⟩
theorem pX10_put_83 : At cX10_put 83 (.iconst 1) 1 84 := ⟨tX10_put_0_ok (83, .iconst 1, 1) (List.mem_of_getElem? (i := 51) rfl), rfl⟩
theorem pX10_put_84 : At cX10_put 84 (.ireturn) 1 85 := ⟨tX10_put_0_ok (84, .ireturn, 1) (List.mem_of_getElem? (i := 52) rfl), rfl⟩
def tX10_move_0 : List (Nat × Instr × Nat) := [(0, .iload_n 1, 1), (1, .invokestatic 266, 3), (4, .ifCond .eq 10, 3), (7, .iload_n 3, 1), (8, .invokestatic 266, 3), (11, .ifCond .ne 9, 3), (14, .aload_n 0, 1), (15, .iconst 1, 1), (16, .invokevirtual 79, 3), (19, .ireturn, 1), (20, .aload_n 0, 1), (21, .getfield 37, 3), (24, .iload_n 1, 1), (25, .iaload, 1), (26, .ifCond .eq 12, 3), (29, .aload_n 0, 1), (30, .getfield 37, 3), (33, .iload_n 3, 1), (34, .iaload, 1), (35, .ifCond .ne 9, 3), (38, .aload_n 0, 1), (39, .iconst 2, 1), (40, .invokevirtual 79, 3), (43, .ireturn, 1), (44, .aload_n 0, 1), (45, .getfield 37, 3), (48, .iload_n 1, 1), (49, .iaload, 1), (50, .aload_n 0, 1), (51, .getfield 37, 3), (54, .iload_n 3, 1), (55, .iaload, 1), (56, .if_icmp .eq 9, 3), (59, .aload_n 0, 1), (60, .iconst 5, 1), (61, .invokevirtual 79, 3), (64, .ireturn, 1), (65, .iload 5, 2), (67, .ifCond .lt 39, 3), (70, .iload_n 2, 1), (71, .ifCond .lt 35, 3), (74, .iload 4, 2), (76, .ifCond .lt 30, 3), (79, .iload_n 2, 1), (80, .aload_n 0, 1), (81, .getfield 40, 3), (84, .iload_n 1, 1), (85, .iaload, 1), (86, .iload 5, 2), (88, .isub, 1), (89, .if_icmp .gt 17, 3), (92, .iload 4, 2), (94, .aload_n 0, 1), (95, .getfield 40, 3), (98, .iload_n 3, 1), (99, .iaload, 1), (100, .iload 5, 2), (102, .isub, 1), (103, .if_icmp .le 9, 3), (106, .aload_n 0, 1), (107, .iconst 1, 1), (108, .invokevirtual 79, 3), (111, .ireturn, 1), (112, .iconst 0, 1), (113, .istore 6, 2), (115, .iload 6, 2), (117, .iload 5, 2), (119, .if_icmp .ge 30, 3), (122, .aload_n 0, 1), (123, .getfield 49, 3), (126, .iload 6, 2), (128, .aload_n 0, 1), (129, .getfield 43, 3), (132, .bipush 40, 2), (134, .iload_n 1, 1), (135, .imul, 1), (136, .iload_n 2, 1), (137, .iadd, 1), (138, .iload 6, 2), (140, .iadd, 1), (141, .iaload, 1), (142, .iastore, 1), (143, .iinc 6 1, 3), (146, .goto (-31), 3), (149, .iconst 0, 1), (150, .istore 6, 2), (152, .iload 6, 2), (154, .iload 5, 2), (156, .if_icmp .ge 31, 3), (159, .aload_n 0, 1), (160, .getfield 43, 3), (163, .bipush 40, 2), (165, .iload_n 3, 1), (166, .imul, 1), (167, .iload 4, 2), (169, .iadd, 1), (170, .iload 6, 2), (172, .iadd, 1), (173, .aload_n 0, 1), (174, .getfield 49, 3)]
theorem tX10_move_0_ok : ∀ q ∈ tX10_move_0, decode cX10_move q.1 = .ok (q.2.1, q.2.2) := by decide +kernel
def tX10_move_1 : List (Nat × Instr × Nat) := [(177, .iload 6, 2), (179, .iaload, 1), (180, .iastore, 1), (181, .iinc 6 1, 3), (184, .goto (-32), 3), (187, .iload 5, 2), (189, .ireturn, 1)]
theorem tX10_move_1_ok : ∀ q ∈ tX10_move_1, decode cX10_move q.1 = .ok (q.2.1, q.2.2) := by decide +kernel
theorem pX10_move_0 : At cX10_move 0 (.iload_n 1) 1 1 := ⟨tX10_move_0_ok (0, .iload_n 1, 1) (List.mem_of_getElem? (i := 0) rfl), rfl⟩
theorem pX10_move_1 : At cX10_move 1 (.invokestatic 266) 3 4 := ⟨tX10_move_0_ok (1, .invokestatic 266, 3) (List.mem_of_getElem? (i := 1) rfl), rfl⟩
theorem pX10_move_4 : Bt cX10_move 4 (.ifCond .eq 10) 10 14 7 := ⟨tX10_move_0_ok (4, .ifCond .eq 10, 3) (List.mem_of_getElem? (i := 2) rfl), by decide, rfl⟩
theorem pX10_move_7 : At cX10_move 7 (.iload_n 3) 1 8 := ⟨tX10_move_0_ok (7, .iload_n 3, 1) (List.mem_of_getElem? (i := 3) rfl), rfl⟩
theorem pX10_move_8 : At cX10_move 8 (.invokestatic 266) 3 11 := ⟨tX10_move_0_ok (8, .invokestatic 266, 3) (List.mem_of_getElem? (i := 4) rfl), rfl⟩
theorem pX10_move_11 : Bt cX10_move 11 (.ifCond .ne 9) 9 20 14 := ⟨tX10_move_0_ok (11, .ifCond .ne 9, 3) (List.mem_of_getElem? (i := 5) rfl), by decide, rfl⟩
theorem pX10_move_14 : At cX10_move 14 (.aload_n 0) 1 15 := ⟨tX10_move_0_ok (14, .aload_n 0, 1) (List.mem_of_getElem? (i := 6) rfl), rfl⟩
theorem pX10_move_15 : At cX10_move 15 (.iconst 1) 1 16 := ⟨tX10_move_0_ok (15, .iconst 1, 1) (List.mem_of_getElem? (i := 7) rfl), rfl⟩
theorem pX10_move_16 : At cX10_move 16 (.invokevirtual 79) 3 19 := ⟨tX10_move_0_ok (16, .invokevirtual 79, 3) (List.mem_of_getElem? (i := 8) rfl), rfl⟩
theorem pX10_move_19 : At cX10_move 19 (.ireturn) 1 20 := ⟨tX10_move_0_ok (19, .ireturn, 1) (List.mem_of_getElem? (i := 9) rfl), rfl⟩
theorem pX10_move_20 : At cX10_move 20 (.aload_n 0) 1 21 := ⟨tX10_move_0_ok (20, .aload_n 0, 1) (List.mem_of_getElem? (i := 10) rfl), rfl⟩
theorem pX10_move_21 : At cX10_move 21 (.getfield 37) 3 24 := ⟨tX10_move_0_ok (21, .getfield 37, 3) (List.mem_of_getElem? (i := 11) rfl), rfl⟩
theorem pX10_move_24 : At cX10_move 24 (.iload_n 1) 1 25 := ⟨tX10_move_0_ok (24, .iload_n 1, 1) (List.mem_of_getElem? (i := 12) rfl), rfl⟩
theorem pX10_move_25 : At cX10_move 25 (.iaload) 1 26 := ⟨tX10_move_0_ok (25, .iaload, 1) (List.mem_of_getElem? (i := 13) rfl), rfl⟩
theorem pX10_move_26 : Bt cX10_move 26 (.ifCond .eq 12) 12 38 29 := ⟨tX10_move_0_ok (26, .ifCond .eq 12, 3) (List.mem_of_getElem? (i := 14) rfl), by decide, rfl⟩
theorem pX10_move_29 : At cX10_move 29 (.aload_n 0) 1 30 := ⟨tX10_move_0_ok (29, .aload_n 0, 1) (List.mem_of_getElem? (i := 15) rfl), rfl⟩
theorem pX10_move_30 : At cX10_move 30 (.getfield 37) 3 33 := ⟨tX10_move_0_ok (30, .getfield 37, 3) (List.mem_of_getElem? (i := 16) rfl), rfl⟩
theorem pX10_move_33 : At cX10_move 33 (.iload_n 3) 1 34 := ⟨tX10_move_0_ok (33, .iload_n 3, 1) (List.mem_of_getElem? (i := 17) rfl), rfl⟩
theorem pX10_move_34 : At cX10_move 34 (.iaload) 1 35 := ⟨tX10_move_0_ok (34, .iaload, 1) (List.mem_of_getElem? (i := 18) rfl), rfl⟩
theorem pX10_move_35 : Bt cX10_move 35 (.ifCond .ne 9) 9 44 38 := ⟨tX10_move_0_ok (35, .ifCond .ne 9, 3) (List.mem_of_getElem? (i := 19) rfl), by decide, rfl⟩
theorem pX10_move_38 : At cX10_move 38 (.aload_n 0) 1 39 := ⟨tX10_move_0_ok (38, .aload_n 0, 1) (List.mem_of_getElem? (i := 20) rfl), rfl⟩
theorem pX10_move_39 : At cX10_move 39 (.iconst 2) 1 40 := ⟨tX10_move_0_ok (39, .iconst 2, 1) (List.mem_of_getElem? (i := 21) rfl), rfl⟩
theorem pX10_move_40 : At cX10_move 40 (.invokevirtual 79) 3 43 := ⟨tX10_move_0_ok (40, .invokevirtual 79, 3) (List.mem_of_getElem? (i := 22) rfl), rfl⟩
theorem pX10_move_43 : At cX10_move 43 (.ireturn) 1 44 := ⟨tX10_move_0_ok (43, .ireturn, 1) (List.mem_of_getElem? (i := 23) rfl), rfl⟩
theorem pX10_move_44 : At cX10_move 44 (.aload_n 0) 1 45 := ⟨tX10_move_0_ok (44, .aload_n 0, 1) (List.mem_of_getElem? (i := 24) rfl), rfl⟩
theorem pX10_move_45 : At cX10_move 45 (.getfield 37) 3 48 := ⟨tX10_move_0_ok (45, .getfield 37, 3) (List.mem_of_getElem? (i := 25) rfl), rfl⟩
theorem pX10_move_48 : At cX10_move 48 (.iload_n 1) 1 49 := ⟨tX10_move_0_ok (48, .iload_n 1, 1) (List.mem_of_getElem? (i := 26) rfl), rfl⟩
theorem pX10_move_49 : At cX10_move 49 (.iaload) 1 50 := ⟨tX10_move_0_ok (49, .iaload, 1) (List.mem_of_getElem? (i := 27) rfl), rfl⟩
theorem pX10_move_50 : At cX10_move 50 (.aload_n 0) 1 51 := ⟨tX10_move_0_ok (50, .aload_n 0, 1) (List.mem_of_getElem? (i := 28) rfl), rfl⟩
theorem pX10_move_51 : At cX10_move 51 (.getfield 37) 3 54 := ⟨tX10_move_0_ok (51, .getfield 37, 3) (List.mem_of_getElem? (i := 29) rfl), rfl⟩
theorem pX10_move_54 : At cX10_move 54 (.iload_n 3) 1 55 := ⟨tX10_move_0_ok (54, .iload_n 3, 1) (List.mem_of_getElem? (i := 30) rfl), rfl⟩
theorem pX10_move_55 : At cX10_move 55 (.iaload) 1 56 := ⟨tX10_move_0_ok (55, .iaload, 1) (List.mem_of_getElem? (i := 31) rfl), rfl⟩
theorem pX10_move_56 : Bt cX10_move 56 (.if_icmp .eq 9) 9 65 59 := ⟨tX10_move_0_ok (56, .if_icmp .eq 9, 3) (List.mem_of_getElem? (i := 32) rfl), by decide, rfl⟩
theorem pX10_move_59 : At cX10_move 59 (.aload_n 0) 1 60 := ⟨tX10_move_0_ok (59, .aload_n 0, 1) (List.mem_of_getElem? (i := 33) rfl), rfl⟩
theorem pX10_move_60 : At cX10_move 60 (.iconst 5) 1 61 := ⟨tX10_move_0_ok (60, .iconst 5, 1) (List.mem_of_getElem? (i := 34) rfl), rfl⟩
theorem pX10_move_61 : At cX10_move 61 (.invokevirtual 79) 3 64 := ⟨tX10_move_0_ok (61, .invokevirtual 79, 3) (List.mem_of_getElem? (i := 35) rfl), rfl⟩
theorem pX10_move_64 : At cX10_move 64 (.ireturn) 1 65 := ⟨tX10_move_0_ok (64, .ireturn, 1) (List.mem_of_getElem? (i := 36) rfl), rfl⟩
theorem pX10_move_65 : At cX10_move 65 (.iload 5) 2 67 := ⟨tX10_move_0_ok (65, .iload 5, 2) (List.mem_of_getElem? (i := 37) rfl), rfl⟩
theorem pX10_move_67 : Bt cX10_move 67 (.ifCond .lt 39) 39 106 70 := ⟨tX10_move_0_ok (67, .ifCond .lt 39, 3) (List.mem_of_getElem? (i := 38) rfl), by decide, rfl⟩
theorem pX10_move_70 : At cX10_move 70 (.iload_n 2) 1 71 := ⟨tX10_move_0_ok (70, .iload_n 2, 1) (List.mem_of_getElem? (i := 39) rfl), rfl⟩
theorem pX10_move_71 : Bt cX10_move 71 (.ifCond .lt 35) 35 106 74 := ⟨tX10_move_0_ok (71, .ifCond .lt 35, 3) (List.mem_of_getElem? (i := 40) rfl), by decide, rfl⟩
theorem pX10_move_74 : At cX10_move 74 (.iload 4) 2 76 := ⟨tX10_move_0_ok (74, .iload 4, 2) (List.mem_of_getElem? (i := 41) rfl), rfl⟩
theorem pX10_move_76 : Bt cX10_move 76 (.ifCond .lt 30) 30 106 79 := ⟨tX10_move_0_ok (76, .ifCond .lt 30, 3) (List.mem_of_getElem? (i := 42) rfl), by decide, rfl⟩
theorem pX10_move_79 : At cX10_move 79 (.iload_n 2) 1 80 := ⟨tX10_move_0_ok (79, .iload_n 2, 1) (List.mem_of_getElem? (i := 43) rfl), rfl⟩
theorem pX10_move_80 : At cX10_move 80 (.aload_n 0) 1 81 := ⟨tX10_move_0_ok (80, .aload_n 0, 1) (List.mem_of_getElem? (i := 44) rfl), rfl⟩
theorem pX10_move_81 : At cX10_move 81 (.getfield 40) 3 84 := ⟨tX10_move_0_ok (81, .getfield 40, 3) (List.mem_of_getElem? (i := 45) rfl), rfl⟩
theorem pX10_move_84 : At cX10_move 84 (.iload_n 1) 1 85 := ⟨tX10_move_0_ok (84, .iload_n 1, 1) (List.mem_of_getElem? (i := 46) rfl), rfl⟩
theorem pX10_move_85 : At cX10_move 85 (.iaload) 1 86 := ⟨tX10_move_0_ok (85, .iaload, 1) (List.mem_of_getElem? (i := 47) rfl), rfl⟩
theorem pX10_move_86 : At cX10_move 86 (.iload 5) 2 88 := ⟨tX10_move_0_ok (86, .iload 5, 2) (List.mem_of_getElem? (i := 48) rfl), rfl⟩
theorem pX10_move_88 : At cX10_move 88 (.isub) 1 89 := ⟨tX10_move_0_ok (88, .isub, 1) (List.mem_of_getElem? (i := 49) rfl), rfl⟩
theorem pX10_move_89 : Bt cX10_move 89 (.if_icmp .gt 17) 17 106 92 := ⟨tX10_move_0_ok (89, .if_icmp .gt 17, 3) (List.mem_of_getElem? (i := 50) rfl), by decide, rfl⟩
theorem pX10_move_92 : At cX10_move 92 (.iload 4) 2 94 := ⟨tX10_move_0_ok (92, .iload 4, 2) (List.mem_of_getElem? (i := 51) rfl), rfl⟩
theorem pX10_move_94 : At cX10_move 94 (.aload_n 0) 1 95 := ⟨tX10_move_0_ok (94, .aload_n 0, 1) (List.mem_of_getElem? (i := 52) rfl), rfl⟩
theorem pX10_move_95 : At cX10_move 95 (.getfield 40) 3 98 := ⟨tX10_move_0_ok (95, .getfield 40, 3) (List.mem_of_getElem? (i := 53) rfl), rfl⟩
theorem pX10_move_98 : At cX10_move 98 (.iload_n 3) 1 99 := ⟨tX10_move_0_ok (98, .iload_n 3, 1) (List.mem_of_getElem? (i := 54) rfl), rfl⟩
theorem pX10_move_99 : At cX10_move 99 (.iaload) 1 100 := ⟨tX10_move_0_ok (99, .iaload, 1) (List.mem_of_getElem? (i := 55) rfl), rfl⟩
theorem pX10_move_100 : At cX10_move 100 (.iload 5) 2 102 := ⟨tX10_move_0_ok (100, .iload 5, 2) (List.mem_of_getElem? (i := 56) rfl), rfl⟩
theorem pX10_move_102 : At cX10_move 102 (.isub) 1 103 := ⟨tX10_move_0_ok (102, .isub, 1) (List.mem_of_getElem? (i := 57) rfl), rfl⟩
theorem pX10_move_103 : Bt cX10_move 103 (.if_icmp .le 9) 9 112 106 := ⟨tX10_move_0_ok (103, .if_icmp .le 9, 3) (List.mem_of_getElem? (i := 58) rfl), by decide, rfl⟩
theorem pX10_move_106 : At cX10_move 106 (.aload_n 0) 1 107 := ⟨tX10_move_0_ok (106, .aload_n 0, 1) (List.mem_of_getElem? (i := 59) rfl), rfl⟩
theorem pX10_move_107 : At cX10_move 107 (.iconst 1) 1 108 := ⟨tX10_move_0_ok (107, .iconst 1, 1) (List.mem_of_getElem? (i := 60) rfl), rfl⟩
theorem pX10_move_108 : At cX10_move 108 (.invokevirtual 79) 3 111 := ⟨tX10_move_0_ok (108, .invokevirtual 79, 3) (List.mem_of_getElem? (i := 61) rfl), rfl⟩
theorem pX10_move_111 : At cX10_move 111 (.ireturn) 1 112 := ⟨tX10_move_0_ok (111, .ireturn, 1) (List.mem_of_getElem? (i := 62) rfl), rfl⟩
theorem pX10_move_112 : At cX10_move 112 (.iconst 0) 1 113 := ⟨tX10_move_0_ok (112, .iconst 0, 1) (List.mem_of_getElem? (i := 63) rfl), rfl⟩
theorem pX10_move_113 : At cX10_move 113 (.istore 6) 2 115 := ⟨tX10_move_0_ok (113, .istore 6, 2) (List.mem_of_getElem? (i := 64) rfl), rfl⟩
theorem pX10_move_115 : At cX10_move 115 (.iload 6) 2 117 := ⟨tX10_move_0_ok (115, .iload 6, 2) (List.mem_of_getElem? (i := 65) rfl), rfl⟩
theorem pX10_move_117 : At cX10_move 117 (.iload 5) 2 119 := ⟨tX10_move_0_ok (117, .iload 5, 2) (List.mem_of_getElem? (i := 66) rfl), rfl⟩
theorem pX10_move_119 : Bt cX10_move 119 (.if_icmp .ge 30) 30 149 122 := ⟨tX10_move_0_ok (119, .if_icmp .ge 30, 3) (List.mem_of_getElem? (i := 67) rfl), by decide, rfl⟩
theorem pX10_move_122 : At cX10_move 122 (.aload_n 0) 1 123 := ⟨tX10_move_0_ok (122, .aload_n 0, 1) (List.mem_of_getElem? (i := 68) rfl), rfl⟩
theorem pX10_move_123 : At cX10_move 123 (.getfield 49) 3 126 := ⟨tX10_move_0_ok (123, .getfield 49, 3) (List.mem_of_getElem? (i := 69) rfl), rfl⟩
theorem pX10_move_126 : At cX10_move 126 (.iload 6) 2 128 := ⟨tX10_move_0_ok (126, .iload 6, 2) (List.mem_of_getElem? (i := 70) rfl), rfl⟩
theorem pX10_move_128 : At cX10_move 128 (.aload_n 0) 1 129 := ⟨tX10_move_0_ok (128, .aload_n 0, 1) (List.mem_of_getElem? (i := 71) rfl), rfl⟩
theorem pX10_move_129 : At cX10_move 129 (.getfield 43) 3 132 := ⟨tX10_move_0_ok (129, .getfield 43, 3) (List.mem_of_getElem? (i := 72) rfl), rfl⟩
theorem pX10_move_132 : At cX10_move 132 (.bipush 40) 2 134 := ⟨tX10_move_0_ok (132, .bipush 40, 2) (List.mem_of_getElem? (i := 73) rfl), rfl⟩
theorem pX10_move_134 : At cX10_move 134 (.iload_n 1) 1 135 := ⟨tX10_move_0_ok (134, .iload_n 1, 1) (List.mem_of_getElem? (i := 74) rfl), rfl⟩
theorem pX10_move_135 : At cX10_move 135 (.imul) 1 136 := ⟨tX10_move_0_ok (135, .imul, 1) (List.mem_of_getElem? (i := 75) rfl), rfl⟩
theorem pX10_move_136 : At cX10_move 136 (.iload_n 2) 1 137 := ⟨tX10_move_0_ok (136, .iload_n 2, 1) (List.mem_of_getElem? (i := 76) rfl), rfl⟩
theorem pX10_move_137 : At cX10_move 137 (.iadd) 1 138 := ⟨tX10_move_0_ok (137, .iadd, 1) (List.mem_of_getElem? (i := 77) rfl), rfl⟩
theorem pX10_move_138 : At cX10_move 138 (.iload 6) 2 140 := ⟨tX10_move_0_ok (138, .iload 6, 2) (List.mem_of_getElem? (i := 78) rfl), rfl⟩
theorem pX10_move_140 : At cX10_move 140 (.iadd) 1 141 := ⟨tX10_move_0_ok (140, .iadd, 1) (List.mem_of_getElem? (i := 79) rfl), rfl⟩
theorem pX10_move_141 : At cX10_move 141 (.iaload) 1 142 := ⟨tX10_move_0_ok (141, .iaload, 1) (List.mem_of_getElem? (i := 80) rfl), rfl⟩
theorem pX10_move_142 : At cX10_move 142 (.iastore) 1 143 := ⟨tX10_move_0_ok (142, .iastore, 1) (List.mem_of_getElem? (i := 81) rfl), rfl⟩
theorem pX10_move_143 : At cX10_move 143 (.iinc 6 1) 3 146 := ⟨tX10_move_0_ok (143, .iinc 6 1, 3) (List.mem_of_getElem? (i := 82) rfl), rfl⟩
theorem pX10_move_146 : Bt cX10_move 146 (.goto (-31)) (-31) 115 149 := ⟨tX10_move_0_ok (146, .goto (-31), 3) (List.mem_of_getElem? (i := 83) rfl), by decide, rfl⟩
theorem pX10_move_149 : At cX10_move 149 (.iconst 0) 1 150 := ⟨tX10_move_0_ok (149, .iconst 0, 1) (List.mem_of_getElem? (i := 84) rfl), rfl⟩
theorem pX10_move_150 : At cX10_move 150 (.istore 6) 2 152 := ⟨tX10_move_0_ok (150, .istore 6, 2) (List.mem_of_getElem? (i := 85) rfl), rfl⟩
theorem pX10_move_152 : At cX10_move 152 (.iload 6) 2 154 := ⟨tX10_move_0_ok (152, .iload 6, 2) (List.mem_of_getElem? (i := 86) rfl), rfl⟩
theorem pX10_move_154 : At cX10_move 154 (.iload 5) 2 156 := ⟨tX10_move_0_ok (154, .iload 5, 2) (List.mem_of_getElem? (i := 87) rfl), rfl⟩
theorem pX10_move_156 : Bt cX10_move 156 (.if_icmp .ge 31) 31 187 159 := ⟨tX10_move_0_ok (156, .if_icmp .ge 31, 3) (List.mem_of_getElem? (i := 88) rfl), by decide, rfl⟩
theorem pX10_move_159 : At cX10_move 159 (.aload_n 0) 1 160 := ⟨tX10_move_0_ok (159, .aload_n 0, 1) (List.mem_of_getElem? (i := 89) rfl), rfl⟩
theorem pX10_move_160 : At cX10_move 160 (.getfield 43) 3 163 := ⟨tX10_move_0_ok (160, .getfield 43, 3) (List.mem_of_getElem? (i := 90) rfl), rfl⟩
theorem pX10_move_163 : At cX10_move 163 (.bipush 40) 2 165 := ⟨tX10_move_0_ok (163, .bipush 40, 2) (List.mem_of_getElem? (i := 91) rfl), rfl⟩
theorem pX10_move_165 : At cX10_move 165 (.iload_n 3) 1 166 := ⟨tX10_move_0_ok (165, .iload_n 3, 1) (List.mem_of_getElem? (i := 92) rfl), rfl⟩
theorem pX10_move_166 : At cX10_move 166 (.imul) 1 167 := ⟨tX10_move_0_ok (166, .imul, 1) (List.mem_of_getElem? (i := 93) rfl), rfl⟩
theorem pX10_move_167 : At cX10_move 167 (.iload 4) 2 169 := ⟨tX10_move_0_ok (167, .iload 4, 2) (List.mem_of_getElem? (i := 94) rfl), rfl⟩
theorem pX10_move_169 : At cX10_move 169 (.iadd) 1 170 := ⟨tX10_move_0_ok (169, .iadd, 1) (List.mem_of_getElem? (i := 95) rfl), rfl⟩
theorem pX10_move_170 : At cX10_move 170 (.iload 6) 2 172 := ⟨tX10_move_0_ok (170, .iload 6, 2) (List.mem_of_getElem? (i := 96) rfl), rfl⟩
theorem pX10_move_172 : At cX10_move 172 (.iadd) 1 173 := ⟨tX10_move_0_ok (172, .iadd, 1) (List.mem_of_getElem? (i := 97) rfl), rfl⟩
theorem pX10_move_173 : At cX10_move 173 (.aload_n 0) 1 174 := ⟨tX10_move_0_ok (173, .aload_n 0, 1) (List.mem_of_getElem? (i := 98) rfl), rfl⟩
theorem pX10_move_174 : At cX10_move 174 (.getfield 49) 3 177 := ⟨tX10_move_0_ok (174, .getfield 49, 3) (List.mem_of_getElem? (i := 99) rfl), rfl⟩
theorem pX10_move_177 : At cX10_move 177 (.iload 6) 2 179 := ⟨tX10_move_1_ok (177, .iload 6, 2) (List.mem_of_getElem? (i := 0) rfl), rfl⟩
theorem pX10_move_179 : At cX10_move 179 (.iaload) 1 180 := ⟨tX10_move_1_ok (179, .iaload, 1) (List.mem_of_getElem? (i := 1) rfl), rfl⟩
theorem pX10_move_180 : At cX10_move 180 (.iastore) 1 181 := ⟨tX10_move_1_ok (180, .iastore, 1) (List.mem_of_getElem? (i := 2) rfl), rfl⟩
theorem pX10_move_181 : At cX10_move 181 (.iinc 6 1) 3 184 := ⟨tX10_move_1_ok (181, .iinc 6 1, 3) (List.mem_of_getElem? (i := 3) rfl), rfl⟩
theorem pX10_move_184 : Bt cX10_move 184 (.goto (-32)) (-32) 152 187 := ⟨tX10_move_1_ok (184, .goto (-32), 3) (List.mem_of_getElem? (i := 4) rfl), by decide, rfl⟩
theorem pX10_move_187 : At cX10_move 187 (.iload 5) 2 189 := ⟨tX10_move_1_ok (187, .iload 5, 2) (List.mem_of_getElem? (i := 5) rfl), rfl⟩
theorem pX10_move_189 : At cX10_move 189 (.ireturn) 1 190 := ⟨tX10_move_1_ok (189, .ireturn, 1) (List.mem_of_getElem? (i := 6) rfl), rfl⟩
def tX10_pushes_0 : List (Nat × Instr × Nat) := [(0, .aload_n 0, 1), (1, .iload_n 1, 1), (2, .invokevirtual 307, 3), (5, .istore_n 2, 1), (6, .iload_n 2, 1), (7, .ifCond .eq 5, 3), (10, .iload_n 2, 1), (11, .ireturn, 1), (12, .iconst 0, 1), (13, .istore_n 3, 1), (14, .iload_n 3, 1), (15, .aload_n 0, 1), (16, .getfield 40, 3), (19, .iload_n 1, 1), (20, .iaload, 1), (21, .if_icmp .ge 54, 3), (24, .iload_n 3, 1), (25, .aload_n 0, 1), (26, .getfield 9, 3), (29, .bipush 6, 2), (31, .iaload, 1), (32, .if_icmp .ge 43, 3), (35, .aload_n 0, 1), (36, .getfield 43, 3), (39, .bipush 40, 2), (41, .iload_n 1, 1), (42, .imul, 1), (43, .iload_n 3, 1), (44, .iadd, 1), (45, .iaload, 1), (46, .invokestatic 116, 3), (49, .ifCond .eq 26, 3), (52, .aload_n 0, 1), (53, .iload_n 3, 1), (54, .aload_n 0, 1), (55, .getfield 43, 3), (58, .bipush 40, 2), (60, .iload_n 1, 1), (61, .imul, 1), (62, .iload_n 3, 1), (63, .iadd, 1), (64, .iaload, 1), (65, .invokevirtual 119, 3), (68, .pop, 1), (69, .iinc 3 1, 3), (72, .goto (-58), 3), (75, .iload_n 3, 1), (76, .ireturn, 1)]
theorem tX10_pushes_0_ok : ∀ q ∈ tX10_pushes_0, decode cX10_pushes q.1 = .ok (q.2.1, q.2.2) := by decide +kernel
theorem pX10_pushes_0 : At cX10_pushes 0 (.aload_n 0) 1 1 := ⟨tX10_pushes_0_ok (0, .aload_n 0, 1) (List.mem_of_getElem? (i := 0) rfl), rfl⟩
theorem pX10_pushes_1 : At cX10_pushes 1 (.iload_n 1) 1 2 := ⟨tX10_pushes_0_ok (1, .iload_n 1, 1) (List.mem_of_getElem? (i := 1) rfl), rfl⟩
theorem pX10_pushes_2 : At cX10_pushes 2 (.invokevirtual 307) 3 5 := ⟨tX10_pushes_0_ok (2, .invokevirtual 307, 3) (List.mem_of_getElem? (i := 2) rfl), rfl⟩
theorem pX10_pushes_5 : At cX10_pushes 5 (.istore_n 2) 1 6 := ⟨tX10_pushes_0_ok (5, .istore_n 2, 1) (List.mem_of_getElem? (i := 3) rfl), rfl⟩
theorem pX10_pushes_6 : At cX10_pushes 6 (.iload_n 2) 1 7 := ⟨tX10_pushes_0_ok (6, .iload_n 2, 1) (List.mem_of_getElem? (i := 4) rfl), rfl⟩
theorem pX10_pushes_7 : Bt cX10_pushes 7 (.ifCond .eq 5) 5 12 10 := ⟨tX10_pushes_0_ok (7, .ifCond .eq 5, 3) (List.mem_of_getElem? (i := 5) rfl), by decide, rfl⟩
theorem pX10_pushes_10 : At cX10_pushes 10 (.iload_n 2) 1 11 := ⟨tX10_pushes_0_ok (10, .iload_n 2, 1) (List.mem_of_getElem? (i := 6) rfl), rfl⟩
theorem pX10_pushes_11 : At cX10_pushes 11 (.ireturn) 1 12 := ⟨tX10_pushes_0_ok (11, .ireturn, 1) (List.mem_of_getElem? (i := 7) rfl), rfl⟩
theorem pX10_pushes_12 : At cX10_pushes 12 (.iconst 0) 1 13 := ⟨tX10_pushes_0_ok (12, .iconst 0, 1) (List.mem_of_getElem? (i := 8) rfl), rfl⟩
theorem pX10_pushes_13 : At cX10_pushes 13 (.istore_n 3) 1 14 := ⟨tX10_pushes_0_ok (13, .istore_n 3, 1) (List.mem_of_getElem? (i := 9) rfl), rfl⟩
theorem pX10_pushes_14 : At cX10_pushes 14 (.iload_n 3) 1 15 := ⟨tX10_pushes_0_ok (14, .iload_n 3, 1) (List.mem_of_getElem? (i := 10) rfl), rfl⟩
theorem pX10_pushes_15 : At cX10_pushes 15 (.aload_n 0) 1 16 := ⟨tX10_pushes_0_ok (15, .aload_n 0, 1) (List.mem_of_getElem? (i := 11) rfl), rfl⟩
theorem pX10_pushes_16 : At cX10_pushes 16 (.getfield 40) 3 19 := ⟨tX10_pushes_0_ok (16, .getfield 40, 3) (List.mem_of_getElem? (i := 12) rfl), rfl⟩
theorem pX10_pushes_19 : At cX10_pushes 19 (.iload_n 1) 1 20 := ⟨tX10_pushes_0_ok (19, .iload_n 1, 1) (List.mem_of_getElem? (i := 13) rfl), rfl⟩
theorem pX10_pushes_20 : At cX10_pushes 20 (.iaload) 1 21 := ⟨tX10_pushes_0_ok (20, .iaload, 1) (List.mem_of_getElem? (i := 14) rfl), rfl⟩
theorem pX10_pushes_21 : Bt cX10_pushes 21 (.if_icmp .ge 54) 54 75 24 := ⟨tX10_pushes_0_ok (21, .if_icmp .ge 54, 3) (List.mem_of_getElem? (i := 15) rfl), by decide, rfl⟩
theorem pX10_pushes_24 : At cX10_pushes 24 (.iload_n 3) 1 25 := ⟨tX10_pushes_0_ok (24, .iload_n 3, 1) (List.mem_of_getElem? (i := 16) rfl), rfl⟩
theorem pX10_pushes_25 : At cX10_pushes 25 (.aload_n 0) 1 26 := ⟨tX10_pushes_0_ok (25, .aload_n 0, 1) (List.mem_of_getElem? (i := 17) rfl), rfl⟩
theorem pX10_pushes_26 : At cX10_pushes 26 (.getfield 9) 3 29 := ⟨tX10_pushes_0_ok (26, .getfield 9, 3) (List.mem_of_getElem? (i := 18) rfl), rfl⟩
theorem pX10_pushes_29 : At cX10_pushes 29 (.bipush 6) 2 31 := ⟨tX10_pushes_0_ok (29, .bipush 6, 2) (List.mem_of_getElem? (i := 19) rfl), rfl⟩
theorem pX10_pushes_31 : At cX10_pushes 31 (.iaload) 1 32 := ⟨tX10_pushes_0_ok (31, .iaload, 1) (List.mem_of_getElem? (i := 20) rfl), rfl⟩
theorem pX10_pushes_32 : Bt cX10_pushes 32 (.if_icmp .ge 43) 43 75 35 := ⟨tX10_pushes_0_ok (32, .if_icmp .ge 43, 3) (List.mem_of_getElem? (i := 21) rfl), by decide, rfl⟩
theorem pX10_pushes_35 : At cX10_pushes 35 (.aload_n 0) 1 36 := ⟨tX10_pushes_0_ok (35, .aload_n 0, 1) (List.mem_of_getElem? (i := 22) rfl), rfl⟩
theorem pX10_pushes_36 : At cX10_pushes 36 (.getfield 43) 3 39 := ⟨tX10_pushes_0_ok (36, .getfield 43, 3) (List.mem_of_getElem? (i := 23) rfl), rfl⟩
theorem pX10_pushes_39 : At cX10_pushes 39 (.bipush 40) 2 41 := ⟨tX10_pushes_0_ok (39, .bipush 40, 2) (List.mem_of_getElem? (i := 24) rfl), rfl⟩
theorem pX10_pushes_41 : At cX10_pushes 41 (.iload_n 1) 1 42 := ⟨tX10_pushes_0_ok (41, .iload_n 1, 1) (List.mem_of_getElem? (i := 25) rfl), rfl⟩
theorem pX10_pushes_42 : At cX10_pushes 42 (.imul) 1 43 := ⟨tX10_pushes_0_ok (42, .imul, 1) (List.mem_of_getElem? (i := 26) rfl), rfl⟩
theorem pX10_pushes_43 : At cX10_pushes 43 (.iload_n 3) 1 44 := ⟨tX10_pushes_0_ok (43, .iload_n 3, 1) (List.mem_of_getElem? (i := 27) rfl), rfl⟩
theorem pX10_pushes_44 : At cX10_pushes 44 (.iadd) 1 45 := ⟨tX10_pushes_0_ok (44, .iadd, 1) (List.mem_of_getElem? (i := 28) rfl), rfl⟩
theorem pX10_pushes_45 : At cX10_pushes 45 (.iaload) 1 46 := ⟨tX10_pushes_0_ok (45, .iaload, 1) (List.mem_of_getElem? (i := 29) rfl), rfl⟩
theorem pX10_pushes_46 : At cX10_pushes 46 (.invokestatic 116) 3 49 := ⟨tX10_pushes_0_ok (46, .invokestatic 116, 3) (List.mem_of_getElem? (i := 30) rfl), rfl⟩
theorem pX10_pushes_49 : Bt cX10_pushes 49 (.ifCond .eq 26) 26 75 52 := ⟨tX10_pushes_0_ok (49, .ifCond .eq 26, 3) (List.mem_of_getElem? (i := 31) rfl), by decide, rfl⟩
theorem pX10_pushes_52 : At cX10_pushes 52 (.aload_n 0) 1 53 := ⟨tX10_pushes_0_ok (52, .aload_n 0, 1) (List.mem_of_getElem? (i := 32) rfl), rfl⟩
theorem pX10_pushes_53 : At cX10_pushes 53 (.iload_n 3) 1 54 := ⟨tX10_pushes_0_ok (53, .iload_n 3, 1) (List.mem_of_getElem? (i := 33) rfl), rfl⟩
theorem pX10_pushes_54 : At cX10_pushes 54 (.aload_n 0) 1 55 := ⟨tX10_pushes_0_ok (54, .aload_n 0, 1) (List.mem_of_getElem? (i := 34) rfl), rfl⟩
theorem pX10_pushes_55 : At cX10_pushes 55 (.getfield 43) 3 58 := ⟨tX10_pushes_0_ok (55, .getfield 43, 3) (List.mem_of_getElem? (i := 35) rfl), rfl⟩
theorem pX10_pushes_58 : At cX10_pushes 58 (.bipush 40) 2 60 := ⟨tX10_pushes_0_ok (58, .bipush 40, 2) (List.mem_of_getElem? (i := 36) rfl), rfl⟩
theorem pX10_pushes_60 : At cX10_pushes 60 (.iload_n 1) 1 61 := ⟨tX10_pushes_0_ok (60, .iload_n 1, 1) (List.mem_of_getElem? (i := 37) rfl), rfl⟩
theorem pX10_pushes_61 : At cX10_pushes 61 (.imul) 1 62 := ⟨tX10_pushes_0_ok (61, .imul, 1) (List.mem_of_getElem? (i := 38) rfl), rfl⟩
theorem pX10_pushes_62 : At cX10_pushes 62 (.iload_n 3) 1 63 := ⟨tX10_pushes_0_ok (62, .iload_n 3, 1) (List.mem_of_getElem? (i := 39) rfl), rfl⟩
theorem pX10_pushes_63 : At cX10_pushes 63 (.iadd) 1 64 := ⟨tX10_pushes_0_ok (63, .iadd, 1) (List.mem_of_getElem? (i := 40) rfl), rfl⟩
theorem pX10_pushes_64 : At cX10_pushes 64 (.iaload) 1 65 := ⟨tX10_pushes_0_ok (64, .iaload, 1) (List.mem_of_getElem? (i := 41) rfl), rfl⟩
theorem pX10_pushes_65 : At cX10_pushes 65 (.invokevirtual 119) 3 68 := ⟨tX10_pushes_0_ok (65, .invokevirtual 119, 3) (List.mem_of_getElem? (i := 42) rfl), rfl⟩
theorem pX10_pushes_68 : At cX10_pushes 68 (.pop) 1 69 := ⟨tX10_pushes_0_ok (68, .pop, 1) (List.mem_of_getElem? (i := 43) rfl), rfl⟩
theorem pX10_pushes_69 : At cX10_pushes 69 (.iinc 3 1) 3 72 := ⟨tX10_pushes_0_ok (69, .iinc 3 1, 3) (List.mem_of_getElem? (i := 44) rfl), rfl⟩
theorem pX10_pushes_72 : Bt cX10_pushes 72 (.goto (-58)) (-58) 14 75 := ⟨tX10_pushes_0_ok (72, .goto (-58), 3) (List.mem_of_getElem? (i := 45) rfl), by decide, rfl⟩
theorem pX10_pushes_75 : At cX10_pushes 75 (.iload_n 3) 1 76 := ⟨tX10_pushes_0_ok (75, .iload_n 3, 1) (List.mem_of_getElem? (i := 46) rfl), rfl⟩
theorem pX10_pushes_76 : At cX10_pushes 76 (.ireturn) 1 77 := ⟨tX10_pushes_0_ok (76, .ireturn, 1) (List.mem_of_getElem? (i := 47) rfl), rfl⟩
def tX10_judge_0 : List (Nat × Instr × Nat) := [(0, .aload_n 0, 1), (1, .iload_n 1, 1), (2, .invokevirtual 307, 3), (5, .istore_n 2, 1), (6, .iload_n 2, 1), (7, .ifCond .eq 5, 3), (10, .iload_n 2, 1), (11, .ireturn, 1), (12, .iconst 0, 1), (13, .istore_n 3, 1), (14, .iload_n 3, 1), (15, .aload_n 0, 1), (16, .getfield 40, 3), (19, .iload_n 1, 1), (20, .iaload, 1), (21, .if_icmp .ge 40, 3), (24, .iload_n 3, 1), (25, .aload_n 0, 1), (26, .getfield 9, 3), (29, .bipush 6, 2), (31, .iaload, 1), (32, .if_icmp .ge 29, 3), (35, .aload_n 0, 1), (36, .getfield 43, 3), (39, .bipush 40, 2), (41, .iload_n 1, 1), (42, .imul, 1), (43, .iload_n 3, 1), (44, .iadd, 1), (45, .iaload, 1), (46, .aload_n 0, 1), (47, .iload_n 3, 1), (48, .iconst 2, 1), (49, .invokevirtual 61, 3), (52, .if_icmp .ne 9, 3), (55, .iinc 3 1, 3), (58, .goto (-44), 3), (61, .iload_n 3, 1), (62, .aload_n 0, 1), (63, .getfield 40, 3), (66, .iload_n 1, 1), (67, .iaload, 1), (68, .if_icmp .ne 18, 3), (71, .iload_n 3, 1), (72, .aload_n 0, 1), (73, .getfield 9, 3), (76, .bipush 6, 2), (78, .iaload, 1), (79, .if_icmp .ne 7, 3), (82, .iconst (-1), 1), (83, .goto 4, 3), (86, .iload_n 3, 1), (87, .ireturn, 1)]
theorem tX10_judge_0_ok : ∀ q ∈ tX10_judge_0, decode cX10_judge q.1 = .ok (q.2.1, q.2.2) := by decide +kernel
theorem pX10_judge_0 : At cX10_judge 0 (.aload_n 0) 1 1 := ⟨tX10_judge_0_ok (0, .aload_n 0, 1) (List.mem_of_getElem? (i := 0) rfl), rfl⟩
theorem pX10_judge_1 : At cX10_judge 1 (.iload_n 1) 1 2 := ⟨tX10_judge_0_ok (1, .iload_n 1, 1) (List.mem_of_getElem? (i := 1) rfl), rfl⟩
theorem pX10_judge_2 : At cX10_judge 2 (.invokevirtual 307) 3 5 := ⟨tX10_judge_0_ok (2, .invokevirtual 307, 3) (List.mem_of_getElem? (i := 2) rfl), rfl⟩
theorem pX10_judge_5 : At cX10_judge 5 (.istore_n 2) 1 6 := ⟨tX10_judge_0_ok (5, .istore_n 2, 1) (List.mem_of_getElem? (i := 3) rfl), rfl⟩
theorem pX10_judge_6 : At cX10_judge 6 (.iload_n 2) 1 7 := ⟨tX10_judge_0_ok (6, .iload_n 2, 1) (List.mem_of_getElem? (i := 4) rfl), rfl⟩
theorem pX10_judge_7 : Bt cX10_judge 7 (.ifCond .eq 5) 5 12 10 := ⟨tX10_judge_0_ok (7, .ifCond .eq 5, 3) (List.mem_of_getElem? (i := 5) rfl), by decide, rfl⟩
theorem pX10_judge_10 : At cX10_judge 10 (.iload_n 2) 1 11 := ⟨tX10_judge_0_ok (10, .iload_n 2, 1) (List.mem_of_getElem? (i := 6) rfl), rfl⟩
theorem pX10_judge_11 : At cX10_judge 11 (.ireturn) 1 12 := ⟨tX10_judge_0_ok (11, .ireturn, 1) (List.mem_of_getElem? (i := 7) rfl), rfl⟩
theorem pX10_judge_12 : At cX10_judge 12 (.iconst 0) 1 13 := ⟨tX10_judge_0_ok (12, .iconst 0, 1) (List.mem_of_getElem? (i := 8) rfl), rfl⟩
theorem pX10_judge_13 : At cX10_judge 13 (.istore_n 3) 1 14 := ⟨tX10_judge_0_ok (13, .istore_n 3, 1) (List.mem_of_getElem? (i := 9) rfl), rfl⟩
theorem pX10_judge_14 : At cX10_judge 14 (.iload_n 3) 1 15 := ⟨tX10_judge_0_ok (14, .iload_n 3, 1) (List.mem_of_getElem? (i := 10) rfl), rfl⟩
theorem pX10_judge_15 : At cX10_judge 15 (.aload_n 0) 1 16 := ⟨tX10_judge_0_ok (15, .aload_n 0, 1) (List.mem_of_getElem? (i := 11) rfl), rfl⟩
theorem pX10_judge_16 : At cX10_judge 16 (.getfield 40) 3 19 := ⟨tX10_judge_0_ok (16, .getfield 40, 3) (List.mem_of_getElem? (i := 12) rfl), rfl⟩
theorem pX10_judge_19 : At cX10_judge 19 (.iload_n 1) 1 20 := ⟨tX10_judge_0_ok (19, .iload_n 1, 1) (List.mem_of_getElem? (i := 13) rfl), rfl⟩
theorem pX10_judge_20 : At cX10_judge 20 (.iaload) 1 21 := ⟨tX10_judge_0_ok (20, .iaload, 1) (List.mem_of_getElem? (i := 14) rfl), rfl⟩
theorem pX10_judge_21 : Bt cX10_judge 21 (.if_icmp .ge 40) 40 61 24 := ⟨tX10_judge_0_ok (21, .if_icmp .ge 40, 3) (List.mem_of_getElem? (i := 15) rfl), by decide, rfl⟩
theorem pX10_judge_24 : At cX10_judge 24 (.iload_n 3) 1 25 := ⟨tX10_judge_0_ok (24, .iload_n 3, 1) (List.mem_of_getElem? (i := 16) rfl), rfl⟩
theorem pX10_judge_25 : At cX10_judge 25 (.aload_n 0) 1 26 := ⟨tX10_judge_0_ok (25, .aload_n 0, 1) (List.mem_of_getElem? (i := 17) rfl), rfl⟩
theorem pX10_judge_26 : At cX10_judge 26 (.getfield 9) 3 29 := ⟨tX10_judge_0_ok (26, .getfield 9, 3) (List.mem_of_getElem? (i := 18) rfl), rfl⟩
theorem pX10_judge_29 : At cX10_judge 29 (.bipush 6) 2 31 := ⟨tX10_judge_0_ok (29, .bipush 6, 2) (List.mem_of_getElem? (i := 19) rfl), rfl⟩
theorem pX10_judge_31 : At cX10_judge 31 (.iaload) 1 32 := ⟨tX10_judge_0_ok (31, .iaload, 1) (List.mem_of_getElem? (i := 20) rfl), rfl⟩
theorem pX10_judge_32 : Bt cX10_judge 32 (.if_icmp .ge 29) 29 61 35 := ⟨tX10_judge_0_ok (32, .if_icmp .ge 29, 3) (List.mem_of_getElem? (i := 21) rfl), by decide, rfl⟩
theorem pX10_judge_35 : At cX10_judge 35 (.aload_n 0) 1 36 := ⟨tX10_judge_0_ok (35, .aload_n 0, 1) (List.mem_of_getElem? (i := 22) rfl), rfl⟩
theorem pX10_judge_36 : At cX10_judge 36 (.getfield 43) 3 39 := ⟨tX10_judge_0_ok (36, .getfield 43, 3) (List.mem_of_getElem? (i := 23) rfl), rfl⟩
theorem pX10_judge_39 : At cX10_judge 39 (.bipush 40) 2 41 := ⟨tX10_judge_0_ok (39, .bipush 40, 2) (List.mem_of_getElem? (i := 24) rfl), rfl⟩
theorem pX10_judge_41 : At cX10_judge 41 (.iload_n 1) 1 42 := ⟨tX10_judge_0_ok (41, .iload_n 1, 1) (List.mem_of_getElem? (i := 25) rfl), rfl⟩
theorem pX10_judge_42 : At cX10_judge 42 (.imul) 1 43 := ⟨tX10_judge_0_ok (42, .imul, 1) (List.mem_of_getElem? (i := 26) rfl), rfl⟩
theorem pX10_judge_43 : At cX10_judge 43 (.iload_n 3) 1 44 := ⟨tX10_judge_0_ok (43, .iload_n 3, 1) (List.mem_of_getElem? (i := 27) rfl), rfl⟩
theorem pX10_judge_44 : At cX10_judge 44 (.iadd) 1 45 := ⟨tX10_judge_0_ok (44, .iadd, 1) (List.mem_of_getElem? (i := 28) rfl), rfl⟩
theorem pX10_judge_45 : At cX10_judge 45 (.iaload) 1 46 := ⟨tX10_judge_0_ok (45, .iaload, 1) (List.mem_of_getElem? (i := 29) rfl), rfl⟩
theorem pX10_judge_46 : At cX10_judge 46 (.aload_n 0) 1 47 := ⟨tX10_judge_0_ok (46, .aload_n 0, 1) (List.mem_of_getElem? (i := 30) rfl), rfl⟩
theorem pX10_judge_47 : At cX10_judge 47 (.iload_n 3) 1 48 := ⟨tX10_judge_0_ok (47, .iload_n 3, 1) (List.mem_of_getElem? (i := 31) rfl), rfl⟩
theorem pX10_judge_48 : At cX10_judge 48 (.iconst 2) 1 49 := ⟨tX10_judge_0_ok (48, .iconst 2, 1) (List.mem_of_getElem? (i := 32) rfl), rfl⟩
theorem pX10_judge_49 : At cX10_judge 49 (.invokevirtual 61) 3 52 := ⟨tX10_judge_0_ok (49, .invokevirtual 61, 3) (List.mem_of_getElem? (i := 33) rfl), rfl⟩
theorem pX10_judge_52 : Bt cX10_judge 52 (.if_icmp .ne 9) 9 61 55 := ⟨tX10_judge_0_ok (52, .if_icmp .ne 9, 3) (List.mem_of_getElem? (i := 34) rfl), by decide, rfl⟩
theorem pX10_judge_55 : At cX10_judge 55 (.iinc 3 1) 3 58 := ⟨tX10_judge_0_ok (55, .iinc 3 1, 3) (List.mem_of_getElem? (i := 35) rfl), rfl⟩
theorem pX10_judge_58 : Bt cX10_judge 58 (.goto (-44)) (-44) 14 61 := ⟨tX10_judge_0_ok (58, .goto (-44), 3) (List.mem_of_getElem? (i := 36) rfl), by decide, rfl⟩
theorem pX10_judge_61 : At cX10_judge 61 (.iload_n 3) 1 62 := ⟨tX10_judge_0_ok (61, .iload_n 3, 1) (List.mem_of_getElem? (i := 37) rfl), rfl⟩
theorem pX10_judge_62 : At cX10_judge 62 (.aload_n 0) 1 63 := ⟨tX10_judge_0_ok (62, .aload_n 0, 1) (List.mem_of_getElem? (i := 38) rfl), rfl⟩
theorem pX10_judge_63 : At cX10_judge 63 (.getfield 40) 3 66 := ⟨tX10_judge_0_ok (63, .getfield 40, 3) (List.mem_of_getElem? (i := 39) rfl), rfl⟩
theorem pX10_judge_66 : At cX10_judge 66 (.iload_n 1) 1 67 := ⟨tX10_judge_0_ok (66, .iload_n 1, 1) (List.mem_of_getElem? (i := 40) rfl), rfl⟩
theorem pX10_judge_67 : At cX10_judge 67 (.iaload) 1 68 := ⟨tX10_judge_0_ok (67, .iaload, 1) (List.mem_of_getElem? (i := 41) rfl), rfl⟩
theorem pX10_judge_68 : Bt cX10_judge 68 (.if_icmp .ne 18) 18 86 71 := ⟨tX10_judge_0_ok (68, .if_icmp .ne 18, 3) (List.mem_of_getElem? (i := 42) rfl), by decide, rfl⟩
theorem pX10_judge_71 : At cX10_judge 71 (.iload_n 3) 1 72 := ⟨tX10_judge_0_ok (71, .iload_n 3, 1) (List.mem_of_getElem? (i := 43) rfl), rfl⟩
theorem pX10_judge_72 : At cX10_judge 72 (.aload_n 0) 1 73 := ⟨tX10_judge_0_ok (72, .aload_n 0, 1) (List.mem_of_getElem? (i := 44) rfl), rfl⟩
theorem pX10_judge_73 : At cX10_judge 73 (.getfield 9) 3 76 := ⟨tX10_judge_0_ok (73, .getfield 9, 3) (List.mem_of_getElem? (i := 45) rfl), rfl⟩
theorem pX10_judge_76 : At cX10_judge 76 (.bipush 6) 2 78 := ⟨tX10_judge_0_ok (76, .bipush 6, 2) (List.mem_of_getElem? (i := 46) rfl), rfl⟩
theorem pX10_judge_78 : At cX10_judge 78 (.iaload) 1 79 := ⟨tX10_judge_0_ok (78, .iaload, 1) (List.mem_of_getElem? (i := 47) rfl), rfl⟩
theorem pX10_judge_79 : Bt cX10_judge 79 (.if_icmp .ne 7) 7 86 82 := ⟨tX10_judge_0_ok (79, .if_icmp .ne 7, 3) (List.mem_of_getElem? (i := 48) rfl), by decide, rfl⟩
theorem pX10_judge_82 : At cX10_judge 82 (.iconst (-1)) 1 83 := ⟨tX10_judge_0_ok (82, .iconst (-1), 1) (List.mem_of_getElem? (i := 49) rfl), rfl⟩
theorem pX10_judge_83 : Bt cX10_judge 83 (.goto 4) 4 87 86 := ⟨tX10_judge_0_ok (83, .goto 4, 3) (List.mem_of_getElem? (i := 50) rfl), by decide, rfl⟩
theorem pX10_judge_86 : At cX10_judge 86 (.iload_n 3) 1 87 := ⟨tX10_judge_0_ok (86, .iload_n 3, 1) (List.mem_of_getElem? (i := 51) rfl), rfl⟩
theorem pX10_judge_87 : At cX10_judge 87 (.ireturn) 1 88 := ⟨tX10_judge_0_ok (87, .ireturn, 1) (List.mem_of_getElem? (i := 52) rfl), rfl⟩
def tX10_over__0 : List (Nat × Instr × Nat) := [(0, .iconst 0, 1), (1, .istore_n 2, 1), (2, .iload_n 2, 1), (3, .sipush 322, 3), (6, .if_icmp .ge 15, 3), (9, .aload_n 1, 1), (10, .iload_n 2, 1), (11, .aload_n 0, 1), (12, .iload_n 2, 1), (13, .iaload, 1), (14, .iastore, 1), (15, .iinc 2 1, 3), (18, .goto (-16), 3), (21, .return_, 1)]
theorem tX10_over__0_ok : ∀ q ∈ tX10_over__0, decode cX10_over_ q.1 = .ok (q.2.1, q.2.2) := by decide +kernel
theorem pX10_over__0 : At cX10_over_ 0 (.iconst 0) 1 1 := ⟨tX10_over__0_ok (0, .iconst 0, 1) (List.mem_of_getElem? (i := 0) rfl), rfl⟩
theorem pX10_over__1 : At cX10_over_ 1 (.istore_n 2) 1 2 := ⟨tX10_over__0_ok (1, .istore_n 2, 1) (List.mem_of_getElem? (i := 1) rfl), rfl⟩
theorem pX10_over__2 : At cX10_over_ 2 (.iload_n 2) 1 3 := ⟨tX10_over__0_ok (2, .iload_n 2, 1) (List.mem_of_getElem? (i := 2) rfl), rfl⟩
theorem pX10_over__3 : At cX10_over_ 3 (.sipush 322) 3 6 := ⟨tX10_over__0_ok (3, .sipush 322, 3) (List.mem_of_getElem? (i := 3) rfl), rfl⟩
theorem pX10_over__6 : Bt cX10_over_ 6 (.if_icmp .ge 15) 15 21 9 := ⟨tX10_over__0_ok (6, .if_icmp .ge 15, 3) (List.mem_of_getElem? (i := 4) rfl), by decide, rfl⟩
theorem pX10_over__9 : At cX10_over_ 9 (.aload_n 1) 1 10 := ⟨tX10_over__0_ok (9, .aload_n 1, 1) (List.mem_of_getElem? (i := 5) rfl), rfl⟩
theorem pX10_over__10 : At cX10_over_ 10 (.iload_n 2) 1 11 := ⟨tX10_over__0_ok (10, .iload_n 2, 1) (List.mem_of_getElem? (i := 6) rfl), rfl⟩
theorem pX10_over__11 : At cX10_over_ 11 (.aload_n 0) 1 12 := ⟨tX10_over__0_ok (11, .aload_n 0, 1) (List.mem_of_getElem? (i := 7) rfl), rfl⟩
theorem pX10_over__12 : At cX10_over_ 12 (.iload_n 2) 1 13 := ⟨tX10_over__0_ok (12, .iload_n 2, 1) (List.mem_of_getElem? (i := 8) rfl), rfl⟩
theorem pX10_over__13 : At cX10_over_ 13 (.iaload) 1 14 := ⟨tX10_over__0_ok (13, .iaload, 1) (List.mem_of_getElem? (i := 9) rfl), rfl⟩
theorem pX10_over__14 : At cX10_over_ 14 (.iastore) 1 15 := ⟨tX10_over__0_ok (14, .iastore, 1) (List.mem_of_getElem? (i := 10) rfl), rfl⟩
theorem pX10_over__15 : At cX10_over_ 15 (.iinc 2 1) 3 18 := ⟨tX10_over__0_ok (15, .iinc 2 1, 3) (List.mem_of_getElem? (i := 11) rfl), rfl⟩
theorem pX10_over__18 : Bt cX10_over_ 18 (.goto (-16)) (-16) 2 21 := ⟨tX10_over__0_ok (18, .goto (-16), 3) (List.mem_of_getElem? (i := 12) rfl), by decide, rfl⟩
theorem pX10_over__21 : At cX10_over_ 21 (.return_) 1 22 := ⟨tX10_over__0_ok (21, .return_, 1) (List.mem_of_getElem? (i := 13) rfl), rfl⟩
def tX10_image_0 : List (Nat × Instr × Nat) := [(0, .aload_n 0, 1), (1, .getfield 9, 3), (4, .aload_n 0, 1), (5, .getfield 13, 3), (8, .invokestatic 310, 3), (11, .aload_n 0, 1), (12, .iconst 1, 1), (13, .putfield 314, 3), (16, .aload_n 0, 1), (17, .dup, 1), (18, .getfield 318, 3), (21, .iconst 1, 1), (22, .iadd, 1), (23, .putfield 318, 3), (26, .aload_n 0, 1), (27, .getfield 318, 3), (30, .ireturn, 1)]
theorem tX10_image_0_ok : ∀ q ∈ tX10_image_0, decode cX10_image q.1 = .ok (q.2.1, q.2.2) := by decide +kernel
theorem pX10_image_0 : At cX10_image 0 (.aload_n 0) 1 1 := ⟨tX10_image_0_ok (0, .aload_n 0, 1) (List.mem_of_getElem? (i := 0) rfl), rfl⟩
theorem pX10_image_1 : At cX10_image 1 (.getfield 9) 3 4 := ⟨tX10_image_0_ok (1, .getfield 9, 3) (List.mem_of_getElem? (i := 1) rfl), rfl⟩
theorem pX10_image_4 : At cX10_image 4 (.aload_n 0) 1 5 := ⟨tX10_image_0_ok (4, .aload_n 0, 1) (List.mem_of_getElem? (i := 2) rfl), rfl⟩
theorem pX10_image_5 : At cX10_image 5 (.getfield 13) 3 8 := ⟨tX10_image_0_ok (5, .getfield 13, 3) (List.mem_of_getElem? (i := 3) rfl), rfl⟩
theorem pX10_image_8 : At cX10_image 8 (.invokestatic 310) 3 11 := ⟨tX10_image_0_ok (8, .invokestatic 310, 3) (List.mem_of_getElem? (i := 4) rfl), rfl⟩
theorem pX10_image_11 : At cX10_image 11 (.aload_n 0) 1 12 := ⟨tX10_image_0_ok (11, .aload_n 0, 1) (List.mem_of_getElem? (i := 5) rfl), rfl⟩
theorem pX10_image_12 : At cX10_image 12 (.iconst 1) 1 13 := ⟨tX10_image_0_ok (12, .iconst 1, 1) (List.mem_of_getElem? (i := 6) rfl), rfl⟩
theorem pX10_image_13 : At cX10_image 13 (.putfield 314) 3 16 := ⟨tX10_image_0_ok (13, .putfield 314, 3) (List.mem_of_getElem? (i := 7) rfl), rfl⟩
theorem pX10_image_16 : At cX10_image 16 (.aload_n 0) 1 17 := ⟨tX10_image_0_ok (16, .aload_n 0, 1) (List.mem_of_getElem? (i := 8) rfl), rfl⟩
theorem pX10_image_17 : At cX10_image 17 (.dup) 1 18 := ⟨tX10_image_0_ok (17, .dup, 1) (List.mem_of_getElem? (i := 9) rfl), rfl⟩
theorem pX10_image_18 : At cX10_image 18 (.getfield 318) 3 21 := ⟨tX10_image_0_ok (18, .getfield 318, 3) (List.mem_of_getElem? (i := 10) rfl), rfl⟩
theorem pX10_image_21 : At cX10_image 21 (.iconst 1) 1 22 := ⟨tX10_image_0_ok (21, .iconst 1, 1) (List.mem_of_getElem? (i := 11) rfl), rfl⟩
theorem pX10_image_22 : At cX10_image 22 (.iadd) 1 23 := ⟨tX10_image_0_ok (22, .iadd, 1) (List.mem_of_getElem? (i := 12) rfl), rfl⟩
theorem pX10_image_23 : At cX10_image 23 (.putfield 318) 3 26 := ⟨tX10_image_0_ok (23, .putfield 318, 3) (List.mem_of_getElem? (i := 13) rfl), rfl⟩
theorem pX10_image_26 : At cX10_image 26 (.aload_n 0) 1 27 := ⟨tX10_image_0_ok (26, .aload_n 0, 1) (List.mem_of_getElem? (i := 14) rfl), rfl⟩
theorem pX10_image_27 : At cX10_image 27 (.getfield 318) 3 30 := ⟨tX10_image_0_ok (27, .getfield 318, 3) (List.mem_of_getElem? (i := 15) rfl), rfl⟩
theorem pX10_image_30 : At cX10_image 30 (.ireturn) 1 31 := ⟨tX10_image_0_ok (30, .ireturn, 1) (List.mem_of_getElem? (i := 16) rfl), rfl⟩
def tX10_restore_0 : List (Nat × Instr × Nat) := [(0, .aload_n 0, 1), (1, .getfield 314, 3), (4, .ifCond .ne 9, 3), (7, .aload_n 0, 1), (8, .iconst 2, 1), (9, .invokevirtual 79, 3), (12, .ireturn, 1), (13, .aload_n 0, 1), (14, .getfield 13, 3), (17, .aload_n 0, 1), (18, .getfield 9, 3), (21, .invokestatic 310, 3), (24, .aload_n 0, 1), (25, .getfield 9, 3), (28, .iconst 0, 1), (29, .iaload, 1), (30, .ireturn, 1)]
theorem tX10_restore_0_ok : ∀ q ∈ tX10_restore_0, decode cX10_restore q.1 = .ok (q.2.1, q.2.2) := by decide +kernel
theorem pX10_restore_0 : At cX10_restore 0 (.aload_n 0) 1 1 := ⟨tX10_restore_0_ok (0, .aload_n 0, 1) (List.mem_of_getElem? (i := 0) rfl), rfl⟩
theorem pX10_restore_1 : At cX10_restore 1 (.getfield 314) 3 4 := ⟨tX10_restore_0_ok (1, .getfield 314, 3) (List.mem_of_getElem? (i := 1) rfl), rfl⟩
theorem pX10_restore_4 : Bt cX10_restore 4 (.ifCond .ne 9) 9 13 7 := ⟨tX10_restore_0_ok (4, .ifCond .ne 9, 3) (List.mem_of_getElem? (i := 2) rfl), by decide, rfl⟩
theorem pX10_restore_7 : At cX10_restore 7 (.aload_n 0) 1 8 := ⟨tX10_restore_0_ok (7, .aload_n 0, 1) (List.mem_of_getElem? (i := 3) rfl), rfl⟩
theorem pX10_restore_8 : At cX10_restore 8 (.iconst 2) 1 9 := ⟨tX10_restore_0_ok (8, .iconst 2, 1) (List.mem_of_getElem? (i := 4) rfl), rfl⟩
theorem pX10_restore_9 : At cX10_restore 9 (.invokevirtual 79) 3 12 := ⟨tX10_restore_0_ok (9, .invokevirtual 79, 3) (List.mem_of_getElem? (i := 5) rfl), rfl⟩
theorem pX10_restore_12 : At cX10_restore 12 (.ireturn) 1 13 := ⟨tX10_restore_0_ok (12, .ireturn, 1) (List.mem_of_getElem? (i := 6) rfl), rfl⟩
theorem pX10_restore_13 : At cX10_restore 13 (.aload_n 0) 1 14 := ⟨tX10_restore_0_ok (13, .aload_n 0, 1) (List.mem_of_getElem? (i := 7) rfl), rfl⟩
theorem pX10_restore_14 : At cX10_restore 14 (.getfield 13) 3 17 := ⟨tX10_restore_0_ok (14, .getfield 13, 3) (List.mem_of_getElem? (i := 8) rfl), rfl⟩
theorem pX10_restore_17 : At cX10_restore 17 (.aload_n 0) 1 18 := ⟨tX10_restore_0_ok (17, .aload_n 0, 1) (List.mem_of_getElem? (i := 9) rfl), rfl⟩
theorem pX10_restore_18 : At cX10_restore 18 (.getfield 9) 3 21 := ⟨tX10_restore_0_ok (18, .getfield 9, 3) (List.mem_of_getElem? (i := 10) rfl), rfl⟩
theorem pX10_restore_21 : At cX10_restore 21 (.invokestatic 310) 3 24 := ⟨tX10_restore_0_ok (21, .invokestatic 310, 3) (List.mem_of_getElem? (i := 11) rfl), rfl⟩
theorem pX10_restore_24 : At cX10_restore 24 (.aload_n 0) 1 25 := ⟨tX10_restore_0_ok (24, .aload_n 0, 1) (List.mem_of_getElem? (i := 12) rfl), rfl⟩
theorem pX10_restore_25 : At cX10_restore 25 (.getfield 9) 3 28 := ⟨tX10_restore_0_ok (25, .getfield 9, 3) (List.mem_of_getElem? (i := 13) rfl), rfl⟩
theorem pX10_restore_28 : At cX10_restore 28 (.iconst 0) 1 29 := ⟨tX10_restore_0_ok (28, .iconst 0, 1) (List.mem_of_getElem? (i := 14) rfl), rfl⟩
theorem pX10_restore_29 : At cX10_restore 29 (.iaload) 1 30 := ⟨tX10_restore_0_ok (29, .iaload, 1) (List.mem_of_getElem? (i := 15) rfl), rfl⟩
theorem pX10_restore_30 : At cX10_restore 30 (.ireturn) 1 31 := ⟨tX10_restore_0_ok (30, .ireturn, 1) (List.mem_of_getElem? (i := 16) rfl), rfl⟩
def tX10_tell_0 : List (Nat × Instr × Nat) := [(0, .aload_n 0, 1), (1, .getfield 9, 3), (4, .bipush 8, 2), (6, .iaload, 1), (7, .bipush 20, 2), (9, .if_icmp .ne 9, 3), (12, .aload_n 0, 1), (13, .iconst 4, 1), (14, .invokevirtual 79, 3), (17, .ireturn, 1), (18, .aload_n 0, 1), (19, .getfield 9, 3), (22, .bipush 100, 2), (24, .aload_n 0, 1), (25, .getfield 9, 3), (28, .bipush 8, 2), (30, .iaload, 1), (31, .iadd, 1), (32, .iload_n 1, 1), (33, .iastore, 1), (34, .aload_n 0, 1), (35, .getfield 9, 3), (38, .bipush 8, 2), (40, .dup2, 1), (41, .iaload, 1), (42, .iconst 1, 1), (43, .iadd, 1), (44, .iastore, 1), (45, .aload_n 0, 1), (46, .getfield 9, 3), (49, .bipush 8, 2), (51, .iaload, 1), (52, .ireturn, 1)]
theorem tX10_tell_0_ok : ∀ q ∈ tX10_tell_0, decode cX10_tell q.1 = .ok (q.2.1, q.2.2) := by decide +kernel
theorem pX10_tell_0 : At cX10_tell 0 (.aload_n 0) 1 1 := ⟨tX10_tell_0_ok (0, .aload_n 0, 1) (List.mem_of_getElem? (i := 0) rfl), rfl⟩
theorem pX10_tell_1 : At cX10_tell 1 (.getfield 9) 3 4 := ⟨tX10_tell_0_ok (1, .getfield 9, 3) (List.mem_of_getElem? (i := 1) rfl), rfl⟩
theorem pX10_tell_4 : At cX10_tell 4 (.bipush 8) 2 6 := ⟨tX10_tell_0_ok (4, .bipush 8, 2) (List.mem_of_getElem? (i := 2) rfl), rfl⟩
theorem pX10_tell_6 : At cX10_tell 6 (.iaload) 1 7 := ⟨tX10_tell_0_ok (6, .iaload, 1) (List.mem_of_getElem? (i := 3) rfl), rfl⟩
theorem pX10_tell_7 : At cX10_tell 7 (.bipush 20) 2 9 := ⟨tX10_tell_0_ok (7, .bipush 20, 2) (List.mem_of_getElem? (i := 4) rfl), rfl⟩
theorem pX10_tell_9 : Bt cX10_tell 9 (.if_icmp .ne 9) 9 18 12 := ⟨tX10_tell_0_ok (9, .if_icmp .ne 9, 3) (List.mem_of_getElem? (i := 5) rfl), by decide, rfl⟩
theorem pX10_tell_12 : At cX10_tell 12 (.aload_n 0) 1 13 := ⟨tX10_tell_0_ok (12, .aload_n 0, 1) (List.mem_of_getElem? (i := 6) rfl), rfl⟩
theorem pX10_tell_13 : At cX10_tell 13 (.iconst 4) 1 14 := ⟨tX10_tell_0_ok (13, .iconst 4, 1) (List.mem_of_getElem? (i := 7) rfl), rfl⟩
theorem pX10_tell_14 : At cX10_tell 14 (.invokevirtual 79) 3 17 := ⟨tX10_tell_0_ok (14, .invokevirtual 79, 3) (List.mem_of_getElem? (i := 8) rfl), rfl⟩
theorem pX10_tell_17 : At cX10_tell 17 (.ireturn) 1 18 := ⟨tX10_tell_0_ok (17, .ireturn, 1) (List.mem_of_getElem? (i := 9) rfl), rfl⟩
theorem pX10_tell_18 : At cX10_tell 18 (.aload_n 0) 1 19 := ⟨tX10_tell_0_ok (18, .aload_n 0, 1) (List.mem_of_getElem? (i := 10) rfl), rfl⟩
theorem pX10_tell_19 : At cX10_tell 19 (.getfield 9) 3 22 := ⟨tX10_tell_0_ok (19, .getfield 9, 3) (List.mem_of_getElem? (i := 11) rfl), rfl⟩
theorem pX10_tell_22 : At cX10_tell 22 (.bipush 100) 2 24 := ⟨tX10_tell_0_ok (22, .bipush 100, 2) (List.mem_of_getElem? (i := 12) rfl), rfl⟩
theorem pX10_tell_24 : At cX10_tell 24 (.aload_n 0) 1 25 := ⟨tX10_tell_0_ok (24, .aload_n 0, 1) (List.mem_of_getElem? (i := 13) rfl), rfl⟩
theorem pX10_tell_25 : At cX10_tell 25 (.getfield 9) 3 28 := ⟨tX10_tell_0_ok (25, .getfield 9, 3) (List.mem_of_getElem? (i := 14) rfl), rfl⟩
theorem pX10_tell_28 : At cX10_tell 28 (.bipush 8) 2 30 := ⟨tX10_tell_0_ok (28, .bipush 8, 2) (List.mem_of_getElem? (i := 15) rfl), rfl⟩
theorem pX10_tell_30 : At cX10_tell 30 (.iaload) 1 31 := ⟨tX10_tell_0_ok (30, .iaload, 1) (List.mem_of_getElem? (i := 16) rfl), rfl⟩
theorem pX10_tell_31 : At cX10_tell 31 (.iadd) 1 32 := ⟨tX10_tell_0_ok (31, .iadd, 1) (List.mem_of_getElem? (i := 17) rfl), rfl⟩
theorem pX10_tell_32 : At cX10_tell 32 (.iload_n 1) 1 33 := ⟨tX10_tell_0_ok (32, .iload_n 1, 1) (List.mem_of_getElem? (i := 18) rfl), rfl⟩
theorem pX10_tell_33 : At cX10_tell 33 (.iastore) 1 34 := ⟨tX10_tell_0_ok (33, .iastore, 1) (List.mem_of_getElem? (i := 19) rfl), rfl⟩
theorem pX10_tell_34 : At cX10_tell 34 (.aload_n 0) 1 35 := ⟨tX10_tell_0_ok (34, .aload_n 0, 1) (List.mem_of_getElem? (i := 20) rfl), rfl⟩
theorem pX10_tell_35 : At cX10_tell 35 (.getfield 9) 3 38 := ⟨tX10_tell_0_ok (35, .getfield 9, 3) (List.mem_of_getElem? (i := 21) rfl), rfl⟩
theorem pX10_tell_38 : At cX10_tell 38 (.bipush 8) 2 40 := ⟨tX10_tell_0_ok (38, .bipush 8, 2) (List.mem_of_getElem? (i := 22) rfl), rfl⟩
theorem pX10_tell_40 : At cX10_tell 40 (.dup2) 1 41 := ⟨tX10_tell_0_ok (40, .dup2, 1) (List.mem_of_getElem? (i := 23) rfl), rfl⟩
theorem pX10_tell_41 : At cX10_tell 41 (.iaload) 1 42 := ⟨tX10_tell_0_ok (41, .iaload, 1) (List.mem_of_getElem? (i := 24) rfl), rfl⟩
theorem pX10_tell_42 : At cX10_tell 42 (.iconst 1) 1 43 := ⟨tX10_tell_0_ok (42, .iconst 1, 1) (List.mem_of_getElem? (i := 25) rfl), rfl⟩
theorem pX10_tell_43 : At cX10_tell 43 (.iadd) 1 44 := ⟨tX10_tell_0_ok (43, .iadd, 1) (List.mem_of_getElem? (i := 26) rfl), rfl⟩
theorem pX10_tell_44 : At cX10_tell 44 (.iastore) 1 45 := ⟨tX10_tell_0_ok (44, .iastore, 1) (List.mem_of_getElem? (i := 27) rfl), rfl⟩
theorem pX10_tell_45 : At cX10_tell 45 (.aload_n 0) 1 46 := ⟨tX10_tell_0_ok (45, .aload_n 0, 1) (List.mem_of_getElem? (i := 28) rfl), rfl⟩
theorem pX10_tell_46 : At cX10_tell 46 (.getfield 9) 3 49 := ⟨tX10_tell_0_ok (46, .getfield 9, 3) (List.mem_of_getElem? (i := 29) rfl), rfl⟩
theorem pX10_tell_49 : At cX10_tell 49 (.bipush 8) 2 51 := ⟨tX10_tell_0_ok (49, .bipush 8, 2) (List.mem_of_getElem? (i := 30) rfl), rfl⟩
theorem pX10_tell_51 : At cX10_tell 51 (.iaload) 1 52 := ⟨tX10_tell_0_ok (51, .iaload, 1) (List.mem_of_getElem? (i := 31) rfl), rfl⟩
theorem pX10_tell_52 : At cX10_tell 52 (.ireturn) 1 53 := ⟨tX10_tell_0_ok (52, .ireturn, 1) (List.mem_of_getElem? (i := 32) rfl), rfl⟩
def tX10_floors_0 : List (Nat × Instr × Nat) := [(0, .iconst 0, 1), (1, .istore_n 1, 1), (2, .iconst 0, 1), (3, .istore_n 2, 1), (4, .iload_n 2, 1), (5, .aload_n 0, 1), (6, .getfield 9, 3), (9, .bipush 6, 2), (11, .iaload, 1), (12, .if_icmp .ge 18, 3), (15, .iload_n 1, 1), (16, .aload_n 0, 1), (17, .iload_n 2, 1), (18, .iconst 2, 1), (19, .invokevirtual 61, 3), (22, .iadd, 1), (23, .istore_n 1, 1), (24, .iinc 2 1, 3), (27, .goto (-23), 3), (30, .iload_n 1, 1), (31, .ireturn, 1)]
theorem tX10_floors_0_ok : ∀ q ∈ tX10_floors_0, decode cX10_floors q.1 = .ok (q.2.1, q.2.2) := by decide +kernel
theorem pX10_floors_0 : At cX10_floors 0 (.iconst 0) 1 1 := ⟨tX10_floors_0_ok (0, .iconst 0, 1) (List.mem_of_getElem? (i := 0) rfl), rfl⟩
theorem pX10_floors_1 : At cX10_floors 1 (.istore_n 1) 1 2 := ⟨tX10_floors_0_ok (1, .istore_n 1, 1) (List.mem_of_getElem? (i := 1) rfl), rfl⟩
theorem pX10_floors_2 : At cX10_floors 2 (.iconst 0) 1 3 := ⟨tX10_floors_0_ok (2, .iconst 0, 1) (List.mem_of_getElem? (i := 2) rfl), rfl⟩
theorem pX10_floors_3 : At cX10_floors 3 (.istore_n 2) 1 4 := ⟨tX10_floors_0_ok (3, .istore_n 2, 1) (List.mem_of_getElem? (i := 3) rfl), rfl⟩
theorem pX10_floors_4 : At cX10_floors 4 (.iload_n 2) 1 5 := ⟨tX10_floors_0_ok (4, .iload_n 2, 1) (List.mem_of_getElem? (i := 4) rfl), rfl⟩
theorem pX10_floors_5 : At cX10_floors 5 (.aload_n 0) 1 6 := ⟨tX10_floors_0_ok (5, .aload_n 0, 1) (List.mem_of_getElem? (i := 5) rfl), rfl⟩
theorem pX10_floors_6 : At cX10_floors 6 (.getfield 9) 3 9 := ⟨tX10_floors_0_ok (6, .getfield 9, 3) (List.mem_of_getElem? (i := 6) rfl), rfl⟩
theorem pX10_floors_9 : At cX10_floors 9 (.bipush 6) 2 11 := ⟨tX10_floors_0_ok (9, .bipush 6, 2) (List.mem_of_getElem? (i := 7) rfl), rfl⟩
theorem pX10_floors_11 : At cX10_floors 11 (.iaload) 1 12 := ⟨tX10_floors_0_ok (11, .iaload, 1) (List.mem_of_getElem? (i := 8) rfl), rfl⟩
theorem pX10_floors_12 : Bt cX10_floors 12 (.if_icmp .ge 18) 18 30 15 := ⟨tX10_floors_0_ok (12, .if_icmp .ge 18, 3) (List.mem_of_getElem? (i := 9) rfl), by decide, rfl⟩
theorem pX10_floors_15 : At cX10_floors 15 (.iload_n 1) 1 16 := ⟨tX10_floors_0_ok (15, .iload_n 1, 1) (List.mem_of_getElem? (i := 10) rfl), rfl⟩
theorem pX10_floors_16 : At cX10_floors 16 (.aload_n 0) 1 17 := ⟨tX10_floors_0_ok (16, .aload_n 0, 1) (List.mem_of_getElem? (i := 11) rfl), rfl⟩
theorem pX10_floors_17 : At cX10_floors 17 (.iload_n 2) 1 18 := ⟨tX10_floors_0_ok (17, .iload_n 2, 1) (List.mem_of_getElem? (i := 12) rfl), rfl⟩
theorem pX10_floors_18 : At cX10_floors 18 (.iconst 2) 1 19 := ⟨tX10_floors_0_ok (18, .iconst 2, 1) (List.mem_of_getElem? (i := 13) rfl), rfl⟩
theorem pX10_floors_19 : At cX10_floors 19 (.invokevirtual 61) 3 22 := ⟨tX10_floors_0_ok (19, .invokevirtual 61, 3) (List.mem_of_getElem? (i := 14) rfl), rfl⟩
theorem pX10_floors_22 : At cX10_floors 22 (.iadd) 1 23 := ⟨tX10_floors_0_ok (22, .iadd, 1) (List.mem_of_getElem? (i := 15) rfl), rfl⟩
theorem pX10_floors_23 : At cX10_floors 23 (.istore_n 1) 1 24 := ⟨tX10_floors_0_ok (23, .istore_n 1, 1) (List.mem_of_getElem? (i := 16) rfl), rfl⟩
theorem pX10_floors_24 : At cX10_floors 24 (.iinc 2 1) 3 27 := ⟨tX10_floors_0_ok (24, .iinc 2 1, 3) (List.mem_of_getElem? (i := 17) rfl), rfl⟩
theorem pX10_floors_27 : Bt cX10_floors 27 (.goto (-23)) (-23) 4 30 := ⟨tX10_floors_0_ok (27, .goto (-23), 3) (List.mem_of_getElem? (i := 18) rfl), by decide, rfl⟩
theorem pX10_floors_30 : At cX10_floors 30 (.iload_n 1) 1 31 := ⟨tX10_floors_0_ok (30, .iload_n 1, 1) (List.mem_of_getElem? (i := 19) rfl), rfl⟩
theorem pX10_floors_31 : At cX10_floors 31 (.ireturn) 1 32 := ⟨tX10_floors_0_ok (31, .ireturn, 1) (List.mem_of_getElem? (i := 20) rfl), rfl⟩
def tX10_check_0 : List (Nat × Instr × Nat) := [(0, .aload_n 0, 1), (1, .invokevirtual 226, 3), (4, .iconst 0, 1), (5, .istore_n 1, 1), (6, .iconst 0, 1), (7, .istore_n 2, 1), (8, .iload_n 2, 1), (9, .aload_n 0, 1), (10, .getfield 9, 3), (13, .bipush 8, 2), (15, .iaload, 1), (16, .if_icmp .ge 41, 3), (19, .iload_n 1, 1), (20, .ifCond .ne 37, 3), (23, .aload_n 0, 1), (24, .invokevirtual 216, 3), (27, .aload_n 0, 1), (28, .invokevirtual 321, 3), (31, .aload_n 0, 1), (32, .getfield 9, 3), (35, .bipush 100, 2), (37, .iload_n 2, 1), (38, .iadd, 1), (39, .iaload, 1), (40, .if_icmp .ne 7, 3), (43, .iconst 0, 1), (44, .goto 6, 3), (47, .iload_n 2, 1), (48, .iconst 1, 1), (49, .iadd, 1), (50, .istore_n 1, 1), (51, .iinc 2 1, 3), (54, .goto (-46), 3), (57, .aload_n 0, 1), (58, .invokevirtual 229, 3), (61, .aload_n 0, 1), (62, .getfield 9, 3), (65, .bipush 8, 2), (67, .iconst 0, 1), (68, .iastore, 1), (69, .iload_n 1, 1), (70, .ireturn, 1)]
theorem tX10_check_0_ok : ∀ q ∈ tX10_check_0, decode cX10_check q.1 = .ok (q.2.1, q.2.2) := by decide +kernel
theorem pX10_check_0 : At cX10_check 0 (.aload_n 0) 1 1 := ⟨tX10_check_0_ok (0, .aload_n 0, 1) (List.mem_of_getElem? (i := 0) rfl), rfl⟩
theorem pX10_check_1 : At cX10_check 1 (.invokevirtual 226) 3 4 := ⟨tX10_check_0_ok (1, .invokevirtual 226, 3) (List.mem_of_getElem? (i := 1) rfl), rfl⟩
theorem pX10_check_4 : At cX10_check 4 (.iconst 0) 1 5 := ⟨tX10_check_0_ok (4, .iconst 0, 1) (List.mem_of_getElem? (i := 2) rfl), rfl⟩
theorem pX10_check_5 : At cX10_check 5 (.istore_n 1) 1 6 := ⟨tX10_check_0_ok (5, .istore_n 1, 1) (List.mem_of_getElem? (i := 3) rfl), rfl⟩
theorem pX10_check_6 : At cX10_check 6 (.iconst 0) 1 7 := ⟨tX10_check_0_ok (6, .iconst 0, 1) (List.mem_of_getElem? (i := 4) rfl), rfl⟩
theorem pX10_check_7 : At cX10_check 7 (.istore_n 2) 1 8 := ⟨tX10_check_0_ok (7, .istore_n 2, 1) (List.mem_of_getElem? (i := 5) rfl), rfl⟩
theorem pX10_check_8 : At cX10_check 8 (.iload_n 2) 1 9 := ⟨tX10_check_0_ok (8, .iload_n 2, 1) (List.mem_of_getElem? (i := 6) rfl), rfl⟩
theorem pX10_check_9 : At cX10_check 9 (.aload_n 0) 1 10 := ⟨tX10_check_0_ok (9, .aload_n 0, 1) (List.mem_of_getElem? (i := 7) rfl), rfl⟩
theorem pX10_check_10 : At cX10_check 10 (.getfield 9) 3 13 := ⟨tX10_check_0_ok (10, .getfield 9, 3) (List.mem_of_getElem? (i := 8) rfl), rfl⟩
theorem pX10_check_13 : At cX10_check 13 (.bipush 8) 2 15 := ⟨tX10_check_0_ok (13, .bipush 8, 2) (List.mem_of_getElem? (i := 9) rfl), rfl⟩
theorem pX10_check_15 : At cX10_check 15 (.iaload) 1 16 := ⟨tX10_check_0_ok (15, .iaload, 1) (List.mem_of_getElem? (i := 10) rfl), rfl⟩
theorem pX10_check_16 : Bt cX10_check 16 (.if_icmp .ge 41) 41 57 19 := ⟨tX10_check_0_ok (16, .if_icmp .ge 41, 3) (List.mem_of_getElem? (i := 11) rfl), by decide, rfl⟩
theorem pX10_check_19 : At cX10_check 19 (.iload_n 1) 1 20 := ⟨tX10_check_0_ok (19, .iload_n 1, 1) (List.mem_of_getElem? (i := 12) rfl), rfl⟩
theorem pX10_check_20 : Bt cX10_check 20 (.ifCond .ne 37) 37 57 23 := ⟨tX10_check_0_ok (20, .ifCond .ne 37, 3) (List.mem_of_getElem? (i := 13) rfl), by decide, rfl⟩
theorem pX10_check_23 : At cX10_check 23 (.aload_n 0) 1 24 := ⟨tX10_check_0_ok (23, .aload_n 0, 1) (List.mem_of_getElem? (i := 14) rfl), rfl⟩
theorem pX10_check_24 : At cX10_check 24 (.invokevirtual 216) 3 27 := ⟨tX10_check_0_ok (24, .invokevirtual 216, 3) (List.mem_of_getElem? (i := 15) rfl), rfl⟩
theorem pX10_check_27 : At cX10_check 27 (.aload_n 0) 1 28 := ⟨tX10_check_0_ok (27, .aload_n 0, 1) (List.mem_of_getElem? (i := 16) rfl), rfl⟩
theorem pX10_check_28 : At cX10_check 28 (.invokevirtual 321) 3 31 := ⟨tX10_check_0_ok (28, .invokevirtual 321, 3) (List.mem_of_getElem? (i := 17) rfl), rfl⟩
theorem pX10_check_31 : At cX10_check 31 (.aload_n 0) 1 32 := ⟨tX10_check_0_ok (31, .aload_n 0, 1) (List.mem_of_getElem? (i := 18) rfl), rfl⟩
theorem pX10_check_32 : At cX10_check 32 (.getfield 9) 3 35 := ⟨tX10_check_0_ok (32, .getfield 9, 3) (List.mem_of_getElem? (i := 19) rfl), rfl⟩
theorem pX10_check_35 : At cX10_check 35 (.bipush 100) 2 37 := ⟨tX10_check_0_ok (35, .bipush 100, 2) (List.mem_of_getElem? (i := 20) rfl), rfl⟩
theorem pX10_check_37 : At cX10_check 37 (.iload_n 2) 1 38 := ⟨tX10_check_0_ok (37, .iload_n 2, 1) (List.mem_of_getElem? (i := 21) rfl), rfl⟩
theorem pX10_check_38 : At cX10_check 38 (.iadd) 1 39 := ⟨tX10_check_0_ok (38, .iadd, 1) (List.mem_of_getElem? (i := 22) rfl), rfl⟩
theorem pX10_check_39 : At cX10_check 39 (.iaload) 1 40 := ⟨tX10_check_0_ok (39, .iaload, 1) (List.mem_of_getElem? (i := 23) rfl), rfl⟩
theorem pX10_check_40 : Bt cX10_check 40 (.if_icmp .ne 7) 7 47 43 := ⟨tX10_check_0_ok (40, .if_icmp .ne 7, 3) (List.mem_of_getElem? (i := 24) rfl), by decide, rfl⟩
theorem pX10_check_43 : At cX10_check 43 (.iconst 0) 1 44 := ⟨tX10_check_0_ok (43, .iconst 0, 1) (List.mem_of_getElem? (i := 25) rfl), rfl⟩
theorem pX10_check_44 : Bt cX10_check 44 (.goto 6) 6 50 47 := ⟨tX10_check_0_ok (44, .goto 6, 3) (List.mem_of_getElem? (i := 26) rfl), by decide, rfl⟩
theorem pX10_check_47 : At cX10_check 47 (.iload_n 2) 1 48 := ⟨tX10_check_0_ok (47, .iload_n 2, 1) (List.mem_of_getElem? (i := 27) rfl), rfl⟩
theorem pX10_check_48 : At cX10_check 48 (.iconst 1) 1 49 := ⟨tX10_check_0_ok (48, .iconst 1, 1) (List.mem_of_getElem? (i := 28) rfl), rfl⟩
theorem pX10_check_49 : At cX10_check 49 (.iadd) 1 50 := ⟨tX10_check_0_ok (49, .iadd, 1) (List.mem_of_getElem? (i := 29) rfl), rfl⟩
theorem pX10_check_50 : At cX10_check 50 (.istore_n 1) 1 51 := ⟨tX10_check_0_ok (50, .istore_n 1, 1) (List.mem_of_getElem? (i := 30) rfl), rfl⟩
theorem pX10_check_51 : At cX10_check 51 (.iinc 2 1) 3 54 := ⟨tX10_check_0_ok (51, .iinc 2 1, 3) (List.mem_of_getElem? (i := 31) rfl), rfl⟩
theorem pX10_check_54 : Bt cX10_check 54 (.goto (-46)) (-46) 8 57 := ⟨tX10_check_0_ok (54, .goto (-46), 3) (List.mem_of_getElem? (i := 32) rfl), by decide, rfl⟩
theorem pX10_check_57 : At cX10_check 57 (.aload_n 0) 1 58 := ⟨tX10_check_0_ok (57, .aload_n 0, 1) (List.mem_of_getElem? (i := 33) rfl), rfl⟩
theorem pX10_check_58 : At cX10_check 58 (.invokevirtual 229) 3 61 := ⟨tX10_check_0_ok (58, .invokevirtual 229, 3) (List.mem_of_getElem? (i := 34) rfl), rfl⟩
theorem pX10_check_61 : At cX10_check 61 (.aload_n 0) 1 62 := ⟨tX10_check_0_ok (61, .aload_n 0, 1) (List.mem_of_getElem? (i := 35) rfl), rfl⟩
theorem pX10_check_62 : At cX10_check 62 (.getfield 9) 3 65 := ⟨tX10_check_0_ok (62, .getfield 9, 3) (List.mem_of_getElem? (i := 36) rfl), rfl⟩
theorem pX10_check_65 : At cX10_check 65 (.bipush 8) 2 67 := ⟨tX10_check_0_ok (65, .bipush 8, 2) (List.mem_of_getElem? (i := 37) rfl), rfl⟩
theorem pX10_check_67 : At cX10_check 67 (.iconst 0) 1 68 := ⟨tX10_check_0_ok (67, .iconst 0, 1) (List.mem_of_getElem? (i := 38) rfl), rfl⟩
theorem pX10_check_68 : At cX10_check 68 (.iastore) 1 69 := ⟨tX10_check_0_ok (68, .iastore, 1) (List.mem_of_getElem? (i := 39) rfl), rfl⟩
theorem pX10_check_69 : At cX10_check 69 (.iload_n 1) 1 70 := ⟨tX10_check_0_ok (69, .iload_n 1, 1) (List.mem_of_getElem? (i := 40) rfl), rfl⟩
theorem pX10_check_70 : At cX10_check 70 (.ireturn) 1 71 := ⟨tX10_check_0_ok (70, .ireturn, 1) (List.mem_of_getElem? (i := 41) rfl), rfl⟩
def tX10_between_0 : List (Nat × Instr × Nat) := [(0, .iconst 0, 1), (1, .istore_n 3, 1), (2, .iconst 0, 1), (3, .istore 4, 2), (5, .iload 4, 2), (7, .aload_n 0, 1), (8, .getfield 9, 3), (11, .bipush 6, 2), (13, .iaload, 1), (14, .if_icmp .ge 35, 3), (17, .iload_n 3, 1), (18, .aload_n 0, 1), (19, .iload 4, 2), (21, .iconst 2, 1), (22, .invokevirtual 61, 3), (25, .i2l, 1), (26, .iload_n 1, 1), (27, .i2l, 1), (28, .iload_n 2, 1), (29, .i2l, 1), (30, .invokestatic 53, 3), (33, .ifCond .eq 7, 3), (36, .iconst 1, 1), (37, .goto 4, 3), (40, .iconst 0, 1), (41, .iadd, 1), (42, .istore_n 3, 1), (43, .iinc 4 1, 3), (46, .goto (-41), 3), (49, .iload_n 3, 1), (50, .ireturn, 1)]
theorem tX10_between_0_ok : ∀ q ∈ tX10_between_0, decode cX10_between q.1 = .ok (q.2.1, q.2.2) := by decide +kernel
theorem pX10_between_0 : At cX10_between 0 (.iconst 0) 1 1 := ⟨tX10_between_0_ok (0, .iconst 0, 1) (List.mem_of_getElem? (i := 0) rfl), rfl⟩
theorem pX10_between_1 : At cX10_between 1 (.istore_n 3) 1 2 := ⟨tX10_between_0_ok (1, .istore_n 3, 1) (List.mem_of_getElem? (i := 1) rfl), rfl⟩
theorem pX10_between_2 : At cX10_between 2 (.iconst 0) 1 3 := ⟨tX10_between_0_ok (2, .iconst 0, 1) (List.mem_of_getElem? (i := 2) rfl), rfl⟩
theorem pX10_between_3 : At cX10_between 3 (.istore 4) 2 5 := ⟨tX10_between_0_ok (3, .istore 4, 2) (List.mem_of_getElem? (i := 3) rfl), rfl⟩
theorem pX10_between_5 : At cX10_between 5 (.iload 4) 2 7 := ⟨tX10_between_0_ok (5, .iload 4, 2) (List.mem_of_getElem? (i := 4) rfl), rfl⟩
theorem pX10_between_7 : At cX10_between 7 (.aload_n 0) 1 8 := ⟨tX10_between_0_ok (7, .aload_n 0, 1) (List.mem_of_getElem? (i := 5) rfl), rfl⟩
theorem pX10_between_8 : At cX10_between 8 (.getfield 9) 3 11 := ⟨tX10_between_0_ok (8, .getfield 9, 3) (List.mem_of_getElem? (i := 6) rfl), rfl⟩
theorem pX10_between_11 : At cX10_between 11 (.bipush 6) 2 13 := ⟨tX10_between_0_ok (11, .bipush 6, 2) (List.mem_of_getElem? (i := 7) rfl), rfl⟩
theorem pX10_between_13 : At cX10_between 13 (.iaload) 1 14 := ⟨tX10_between_0_ok (13, .iaload, 1) (List.mem_of_getElem? (i := 8) rfl), rfl⟩
theorem pX10_between_14 : Bt cX10_between 14 (.if_icmp .ge 35) 35 49 17 := ⟨tX10_between_0_ok (14, .if_icmp .ge 35, 3) (List.mem_of_getElem? (i := 9) rfl), by decide, rfl⟩
theorem pX10_between_17 : At cX10_between 17 (.iload_n 3) 1 18 := ⟨tX10_between_0_ok (17, .iload_n 3, 1) (List.mem_of_getElem? (i := 10) rfl), rfl⟩
theorem pX10_between_18 : At cX10_between 18 (.aload_n 0) 1 19 := ⟨tX10_between_0_ok (18, .aload_n 0, 1) (List.mem_of_getElem? (i := 11) rfl), rfl⟩
theorem pX10_between_19 : At cX10_between 19 (.iload 4) 2 21 := ⟨tX10_between_0_ok (19, .iload 4, 2) (List.mem_of_getElem? (i := 12) rfl), rfl⟩
theorem pX10_between_21 : At cX10_between 21 (.iconst 2) 1 22 := ⟨tX10_between_0_ok (21, .iconst 2, 1) (List.mem_of_getElem? (i := 13) rfl), rfl⟩
theorem pX10_between_22 : At cX10_between 22 (.invokevirtual 61) 3 25 := ⟨tX10_between_0_ok (22, .invokevirtual 61, 3) (List.mem_of_getElem? (i := 14) rfl), rfl⟩
theorem pX10_between_25 : At cX10_between 25 (.i2l) 1 26 := ⟨tX10_between_0_ok (25, .i2l, 1) (List.mem_of_getElem? (i := 15) rfl), rfl⟩
theorem pX10_between_26 : At cX10_between 26 (.iload_n 1) 1 27 := ⟨tX10_between_0_ok (26, .iload_n 1, 1) (List.mem_of_getElem? (i := 16) rfl), rfl⟩
theorem pX10_between_27 : At cX10_between 27 (.i2l) 1 28 := ⟨tX10_between_0_ok (27, .i2l, 1) (List.mem_of_getElem? (i := 17) rfl), rfl⟩
theorem pX10_between_28 : At cX10_between 28 (.iload_n 2) 1 29 := ⟨tX10_between_0_ok (28, .iload_n 2, 1) (List.mem_of_getElem? (i := 18) rfl), rfl⟩
theorem pX10_between_29 : At cX10_between 29 (.i2l) 1 30 := ⟨tX10_between_0_ok (29, .i2l, 1) (List.mem_of_getElem? (i := 19) rfl), rfl⟩
theorem pX10_between_30 : At cX10_between 30 (.invokestatic 53) 3 33 := ⟨tX10_between_0_ok (30, .invokestatic 53, 3) (List.mem_of_getElem? (i := 20) rfl), rfl⟩
theorem pX10_between_33 : Bt cX10_between 33 (.ifCond .eq 7) 7 40 36 := ⟨tX10_between_0_ok (33, .ifCond .eq 7, 3) (List.mem_of_getElem? (i := 21) rfl), by decide, rfl⟩
theorem pX10_between_36 : At cX10_between 36 (.iconst 1) 1 37 := ⟨tX10_between_0_ok (36, .iconst 1, 1) (List.mem_of_getElem? (i := 22) rfl), rfl⟩
theorem pX10_between_37 : Bt cX10_between 37 (.goto 4) 4 41 40 := ⟨tX10_between_0_ok (37, .goto 4, 3) (List.mem_of_getElem? (i := 23) rfl), by decide, rfl⟩
theorem pX10_between_40 : At cX10_between 40 (.iconst 0) 1 41 := ⟨tX10_between_0_ok (40, .iconst 0, 1) (List.mem_of_getElem? (i := 24) rfl), rfl⟩
theorem pX10_between_41 : At cX10_between 41 (.iadd) 1 42 := ⟨tX10_between_0_ok (41, .iadd, 1) (List.mem_of_getElem? (i := 25) rfl), rfl⟩
theorem pX10_between_42 : At cX10_between 42 (.istore_n 3) 1 43 := ⟨tX10_between_0_ok (42, .istore_n 3, 1) (List.mem_of_getElem? (i := 26) rfl), rfl⟩
theorem pX10_between_43 : At cX10_between 43 (.iinc 4 1) 3 46 := ⟨tX10_between_0_ok (43, .iinc 4 1, 3) (List.mem_of_getElem? (i := 27) rfl), rfl⟩
theorem pX10_between_46 : Bt cX10_between 46 (.goto (-41)) (-41) 5 49 := ⟨tX10_between_0_ok (46, .goto (-41), 3) (List.mem_of_getElem? (i := 28) rfl), by decide, rfl⟩
theorem pX10_between_49 : At cX10_between 49 (.iload_n 3) 1 50 := ⟨tX10_between_0_ok (49, .iload_n 3, 1) (List.mem_of_getElem? (i := 29) rfl), rfl⟩
theorem pX10_between_50 : At cX10_between 50 (.ireturn) 1 51 := ⟨tX10_between_0_ok (50, .ireturn, 1) (List.mem_of_getElem? (i := 30) rfl), rfl⟩
def tX10_count_0 : List (Nat × Instr × Nat) := [(0, .iload_n 1, 1), (1, .tableswitch 139 0 10 #[59, 67, 74, 81, 88, 97, 106, 111, 119, 127, 132], 59), (60, .aload_n 0, 1), (61, .getfield 9, 3), (64, .bipush 6, 2), (66, .iaload, 1), (67, .ireturn, 1), (68, .aload_n 0, 1), (69, .getfield 9, 3), (72, .iconst 0, 1), (73, .iaload, 1), (74, .ireturn, 1), (75, .aload_n 0, 1), (76, .getfield 9, 3), (79, .iconst 1, 1), (80, .iaload, 1), (81, .ireturn, 1), (82, .aload_n 0, 1), (83, .iconst 0, 1), (84, .iconst 0, 1), (85, .invokevirtual 324, 3), (88, .ireturn, 1), (89, .aload_n 0, 1), (90, .bipush 40, 2), (92, .bipush 40, 2), (94, .invokevirtual 324, 3), (97, .ireturn, 1), (98, .aload_n 0, 1), (99, .bipush 16, 2), (101, .bipush 24, 2), (103, .invokevirtual 324, 3), (106, .ireturn, 1), (107, .aload_n 0, 1), (108, .invokevirtual 219, 3), (111, .ireturn, 1), (112, .aload_n 0, 1), (113, .getfield 9, 3), (116, .bipush 7, 2), (118, .iaload, 1), (119, .ireturn, 1), (120, .aload_n 0, 1), (121, .getfield 9, 3), (124, .bipush 8, 2), (126, .iaload, 1), (127, .ireturn, 1), (128, .aload_n 0, 1), (129, .getfield 277, 3), (132, .ireturn, 1), (133, .aload_n 0, 1), (134, .getfield 9, 3), (137, .iconst 5, 1), (138, .iaload, 1), (139, .ireturn, 1), (140, .aload_n 0, 1), (141, .iconst 1, 1), (142, .invokevirtual 79, 3), (145, .ireturn, 1)]
theorem tX10_count_0_ok : ∀ q ∈ tX10_count_0, decode cX10_count q.1 = .ok (q.2.1, q.2.2) := by decide +kernel
theorem pX10_count_0 : At cX10_count 0 (.iload_n 1) 1 1 := ⟨tX10_count_0_ok (0, .iload_n 1, 1) (List.mem_of_getElem? (i := 0) rfl), rfl⟩
theorem pX10_count_1 : decode cX10_count 1 = .ok (.tableswitch 139 0 10 #[59, 67, 74, 81, 88, 97, 106, 111, 119, 127, 132], 59) := tX10_count_0_ok (1, .tableswitch 139 0 10 #[59, 67, 74, 81, 88, 97, 106, 111, 119, 127, 132], 59) (List.mem_of_getElem? (i := 1) rfl)
theorem pX10_count_60 : At cX10_count 60 (.aload_n 0) 1 61 := ⟨tX10_count_0_ok (60, .aload_n 0, 1) (List.mem_of_getElem? (i := 2) rfl), rfl⟩
theorem pX10_count_61 : At cX10_count 61 (.getfield 9) 3 64 := ⟨tX10_count_0_ok (61, .getfield 9, 3) (List.mem_of_getElem? (i := 3) rfl), rfl⟩
theorem pX10_count_64 : At cX10_count 64 (.bipush 6) 2 66 := ⟨tX10_count_0_ok (64, .bipush 6, 2) (List.mem_of_getElem? (i := 4) rfl), rfl⟩
theorem pX10_count_66 : At cX10_count 66 (.iaload) 1 67 := ⟨tX10_count_0_ok (66, .iaload, 1) (List.mem_of_getElem? (i := 5) rfl), rfl⟩
theorem pX10_count_67 : At cX10_count 67 (.ireturn) 1 68 := ⟨tX10_count_0_ok (67, .ireturn, 1) (List.mem_of_getElem? (i := 6) rfl), rfl⟩
theorem pX10_count_68 : At cX10_count 68 (.aload_n 0) 1 69 := ⟨tX10_count_0_ok (68, .aload_n 0, 1) (List.mem_of_getElem? (i := 7) rfl), rfl⟩
theorem pX10_count_69 : At cX10_count 69 (.getfield 9) 3 72 := ⟨tX10_count_0_ok (69, .getfield 9, 3) (List.mem_of_getElem? (i := 8) rfl), rfl⟩
theorem pX10_count_72 : At cX10_count 72 (.iconst 0) 1 73 := ⟨tX10_count_0_ok (72, .iconst 0, 1) (List.mem_of_getElem? (i := 9) rfl), rfl⟩
theorem pX10_count_73 : At cX10_count 73 (.iaload) 1 74 := ⟨tX10_count_0_ok (73, .iaload, 1) (List.mem_of_getElem? (i := 10) rfl), rfl⟩
theorem pX10_count_74 : At cX10_count 74 (.ireturn) 1 75 := ⟨tX10_count_0_ok (74, .ireturn, 1) (List.mem_of_getElem? (i := 11) rfl), rfl⟩
theorem pX10_count_75 : At cX10_count 75 (.aload_n 0) 1 76 := ⟨tX10_count_0_ok (75, .aload_n 0, 1) (List.mem_of_getElem? (i := 12) rfl), rfl⟩
theorem pX10_count_76 : At cX10_count 76 (.getfield 9) 3 79 := ⟨tX10_count_0_ok (76, .getfield 9, 3) (List.mem_of_getElem? (i := 13) rfl), rfl⟩
theorem pX10_count_79 : At cX10_count 79 (.iconst 1) 1 80 := ⟨tX10_count_0_ok (79, .iconst 1, 1) (List.mem_of_getElem? (i := 14) rfl), rfl⟩
theorem pX10_count_80 : At cX10_count 80 (.iaload) 1 81 := ⟨tX10_count_0_ok (80, .iaload, 1) (List.mem_of_getElem? (i := 15) rfl), rfl⟩
theorem pX10_count_81 : At cX10_count 81 (.ireturn) 1 82 := ⟨tX10_count_0_ok (81, .ireturn, 1) (List.mem_of_getElem? (i := 16) rfl), rfl⟩
theorem pX10_count_82 : At cX10_count 82 (.aload_n 0) 1 83 := ⟨tX10_count_0_ok (82, .aload_n 0, 1) (List.mem_of_getElem? (i := 17) rfl), rfl⟩
theorem pX10_count_83 : At cX10_count 83 (.iconst 0) 1 84 := ⟨tX10_count_0_ok (83, .iconst 0, 1) (List.mem_of_getElem? (i := 18) rfl), rfl⟩
theorem pX10_count_84 : At cX10_count 84 (.iconst 0) 1 85 := ⟨tX10_count_0_ok (84, .iconst 0, 1) (List.mem_of_getElem? (i := 19) rfl), rfl⟩
theorem pX10_count_85 : At cX10_count 85 (.invokevirtual 324) 3 88 := ⟨tX10_count_0_ok (85, .invokevirtual 324, 3) (List.mem_of_getElem? (i := 20) rfl), rfl⟩
theorem pX10_count_88 : At cX10_count 88 (.ireturn) 1 89 := ⟨tX10_count_0_ok (88, .ireturn, 1) (List.mem_of_getElem? (i := 21) rfl), rfl⟩
theorem pX10_count_89 : At cX10_count 89 (.aload_n 0) 1 90 := ⟨tX10_count_0_ok (89, .aload_n 0, 1) (List.mem_of_getElem? (i := 22) rfl), rfl⟩
theorem pX10_count_90 : At cX10_count 90 (.bipush 40) 2 92 := ⟨tX10_count_0_ok (90, .bipush 40, 2) (List.mem_of_getElem? (i := 23) rfl), rfl⟩
theorem pX10_count_92 : At cX10_count 92 (.bipush 40) 2 94 := ⟨tX10_count_0_ok (92, .bipush 40, 2) (List.mem_of_getElem? (i := 24) rfl), rfl⟩
theorem pX10_count_94 : At cX10_count 94 (.invokevirtual 324) 3 97 := ⟨tX10_count_0_ok (94, .invokevirtual 324, 3) (List.mem_of_getElem? (i := 25) rfl), rfl⟩
theorem pX10_count_97 : At cX10_count 97 (.ireturn) 1 98 := ⟨tX10_count_0_ok (97, .ireturn, 1) (List.mem_of_getElem? (i := 26) rfl), rfl⟩
theorem pX10_count_98 : At cX10_count 98 (.aload_n 0) 1 99 := ⟨tX10_count_0_ok (98, .aload_n 0, 1) (List.mem_of_getElem? (i := 27) rfl), rfl⟩
theorem pX10_count_99 : At cX10_count 99 (.bipush 16) 2 101 := ⟨tX10_count_0_ok (99, .bipush 16, 2) (List.mem_of_getElem? (i := 28) rfl), rfl⟩
theorem pX10_count_101 : At cX10_count 101 (.bipush 24) 2 103 := ⟨tX10_count_0_ok (101, .bipush 24, 2) (List.mem_of_getElem? (i := 29) rfl), rfl⟩
theorem pX10_count_103 : At cX10_count 103 (.invokevirtual 324) 3 106 := ⟨tX10_count_0_ok (103, .invokevirtual 324, 3) (List.mem_of_getElem? (i := 30) rfl), rfl⟩
theorem pX10_count_106 : At cX10_count 106 (.ireturn) 1 107 := ⟨tX10_count_0_ok (106, .ireturn, 1) (List.mem_of_getElem? (i := 31) rfl), rfl⟩
theorem pX10_count_107 : At cX10_count 107 (.aload_n 0) 1 108 := ⟨tX10_count_0_ok (107, .aload_n 0, 1) (List.mem_of_getElem? (i := 32) rfl), rfl⟩
theorem pX10_count_108 : At cX10_count 108 (.invokevirtual 219) 3 111 := ⟨tX10_count_0_ok (108, .invokevirtual 219, 3) (List.mem_of_getElem? (i := 33) rfl), rfl⟩
theorem pX10_count_111 : At cX10_count 111 (.ireturn) 1 112 := ⟨tX10_count_0_ok (111, .ireturn, 1) (List.mem_of_getElem? (i := 34) rfl), rfl⟩
theorem pX10_count_112 : At cX10_count 112 (.aload_n 0) 1 113 := ⟨tX10_count_0_ok (112, .aload_n 0, 1) (List.mem_of_getElem? (i := 35) rfl), rfl⟩
theorem pX10_count_113 : At cX10_count 113 (.getfield 9) 3 116 := ⟨tX10_count_0_ok (113, .getfield 9, 3) (List.mem_of_getElem? (i := 36) rfl), rfl⟩
theorem pX10_count_116 : At cX10_count 116 (.bipush 7) 2 118 := ⟨tX10_count_0_ok (116, .bipush 7, 2) (List.mem_of_getElem? (i := 37) rfl), rfl⟩
theorem pX10_count_118 : At cX10_count 118 (.iaload) 1 119 := ⟨tX10_count_0_ok (118, .iaload, 1) (List.mem_of_getElem? (i := 38) rfl), rfl⟩
theorem pX10_count_119 : At cX10_count 119 (.ireturn) 1 120 := ⟨tX10_count_0_ok (119, .ireturn, 1) (List.mem_of_getElem? (i := 39) rfl), rfl⟩
theorem pX10_count_120 : At cX10_count 120 (.aload_n 0) 1 121 := ⟨tX10_count_0_ok (120, .aload_n 0, 1) (List.mem_of_getElem? (i := 40) rfl), rfl⟩
theorem pX10_count_121 : At cX10_count 121 (.getfield 9) 3 124 := ⟨tX10_count_0_ok (121, .getfield 9, 3) (List.mem_of_getElem? (i := 41) rfl), rfl⟩
theorem pX10_count_124 : At cX10_count 124 (.bipush 8) 2 126 := ⟨tX10_count_0_ok (124, .bipush 8, 2) (List.mem_of_getElem? (i := 42) rfl), rfl⟩
theorem pX10_count_126 : At cX10_count 126 (.iaload) 1 127 := ⟨tX10_count_0_ok (126, .iaload, 1) (List.mem_of_getElem? (i := 43) rfl), rfl⟩
theorem pX10_count_127 : At cX10_count 127 (.ireturn) 1 128 := ⟨tX10_count_0_ok (127, .ireturn, 1) (List.mem_of_getElem? (i := 44) rfl), rfl⟩
theorem pX10_count_128 : At cX10_count 128 (.aload_n 0) 1 129 := ⟨tX10_count_0_ok (128, .aload_n 0, 1) (List.mem_of_getElem? (i := 45) rfl), rfl⟩
theorem pX10_count_129 : At cX10_count 129 (.getfield 277) 3 132 := ⟨tX10_count_0_ok (129, .getfield 277, 3) (List.mem_of_getElem? (i := 46) rfl), rfl⟩
theorem pX10_count_132 : At cX10_count 132 (.ireturn) 1 133 := ⟨tX10_count_0_ok (132, .ireturn, 1) (List.mem_of_getElem? (i := 47) rfl), rfl⟩
theorem pX10_count_133 : At cX10_count 133 (.aload_n 0) 1 134 := ⟨tX10_count_0_ok (133, .aload_n 0, 1) (List.mem_of_getElem? (i := 48) rfl), rfl⟩
theorem pX10_count_134 : At cX10_count 134 (.getfield 9) 3 137 := ⟨tX10_count_0_ok (134, .getfield 9, 3) (List.mem_of_getElem? (i := 49) rfl), rfl⟩
theorem pX10_count_137 : At cX10_count 137 (.iconst 5) 1 138 := ⟨tX10_count_0_ok (137, .iconst 5, 1) (List.mem_of_getElem? (i := 50) rfl), rfl⟩
theorem pX10_count_138 : At cX10_count 138 (.iaload) 1 139 := ⟨tX10_count_0_ok (138, .iaload, 1) (List.mem_of_getElem? (i := 51) rfl), rfl⟩
theorem pX10_count_139 : At cX10_count 139 (.ireturn) 1 140 := ⟨tX10_count_0_ok (139, .ireturn, 1) (List.mem_of_getElem? (i := 52) rfl), rfl⟩
theorem pX10_count_140 : At cX10_count 140 (.aload_n 0) 1 141 := ⟨tX10_count_0_ok (140, .aload_n 0, 1) (List.mem_of_getElem? (i := 53) rfl), rfl⟩
theorem pX10_count_141 : At cX10_count 141 (.iconst 1) 1 142 := ⟨tX10_count_0_ok (141, .iconst 1, 1) (List.mem_of_getElem? (i := 54) rfl), rfl⟩
theorem pX10_count_142 : At cX10_count 142 (.invokevirtual 79) 3 145 := ⟨tX10_count_0_ok (142, .invokevirtual 79, 3) (List.mem_of_getElem? (i := 55) rfl), rfl⟩
theorem pX10_count_145 : At cX10_count 145 (.ireturn) 1 146 := ⟨tX10_count_0_ok (145, .ireturn, 1) (List.mem_of_getElem? (i := 56) rfl), rfl⟩
def tX10_told_0 : List (Nat × Instr × Nat) := [(0, .iload_n 1, 1), (1, .i2l, 1), (2, .lconst 1, 1), (3, .ldc2_w 275, 3), (6, .invokestatic 53, 3), (9, .ifCond .eq 12, 3), (12, .aload_n 0, 1), (13, .getfield 16, 3), (16, .iload_n 1, 1), (17, .iaload, 1), (18, .goto 8, 3), (21, .aload_n 0, 1), (22, .iconst 1, 1), (23, .invokevirtual 79, 3), (26, .ireturn, 1)]
theorem tX10_told_0_ok : ∀ q ∈ tX10_told_0, decode cX10_told q.1 = .ok (q.2.1, q.2.2) := by decide +kernel
theorem pX10_told_0 : At cX10_told 0 (.iload_n 1) 1 1 := ⟨tX10_told_0_ok (0, .iload_n 1, 1) (List.mem_of_getElem? (i := 0) rfl), rfl⟩
theorem pX10_told_1 : At cX10_told 1 (.i2l) 1 2 := ⟨tX10_told_0_ok (1, .i2l, 1) (List.mem_of_getElem? (i := 1) rfl), rfl⟩
theorem pX10_told_2 : At cX10_told 2 (.lconst 1) 1 3 := ⟨tX10_told_0_ok (2, .lconst 1, 1) (List.mem_of_getElem? (i := 2) rfl), rfl⟩
theorem pX10_told_3 : At cX10_told 3 (.ldc2_w 275) 3 6 := ⟨tX10_told_0_ok (3, .ldc2_w 275, 3) (List.mem_of_getElem? (i := 3) rfl), rfl⟩
theorem pX10_told_6 : At cX10_told 6 (.invokestatic 53) 3 9 := ⟨tX10_told_0_ok (6, .invokestatic 53, 3) (List.mem_of_getElem? (i := 4) rfl), rfl⟩
theorem pX10_told_9 : Bt cX10_told 9 (.ifCond .eq 12) 12 21 12 := ⟨tX10_told_0_ok (9, .ifCond .eq 12, 3) (List.mem_of_getElem? (i := 5) rfl), by decide, rfl⟩
theorem pX10_told_12 : At cX10_told 12 (.aload_n 0) 1 13 := ⟨tX10_told_0_ok (12, .aload_n 0, 1) (List.mem_of_getElem? (i := 6) rfl), rfl⟩
theorem pX10_told_13 : At cX10_told 13 (.getfield 16) 3 16 := ⟨tX10_told_0_ok (13, .getfield 16, 3) (List.mem_of_getElem? (i := 7) rfl), rfl⟩
theorem pX10_told_16 : At cX10_told 16 (.iload_n 1) 1 17 := ⟨tX10_told_0_ok (16, .iload_n 1, 1) (List.mem_of_getElem? (i := 8) rfl), rfl⟩
theorem pX10_told_17 : At cX10_told 17 (.iaload) 1 18 := ⟨tX10_told_0_ok (17, .iaload, 1) (List.mem_of_getElem? (i := 9) rfl), rfl⟩
theorem pX10_told_18 : Bt cX10_told 18 (.goto 8) 8 26 21 := ⟨tX10_told_0_ok (18, .goto 8, 3) (List.mem_of_getElem? (i := 10) rfl), by decide, rfl⟩
theorem pX10_told_21 : At cX10_told 21 (.aload_n 0) 1 22 := ⟨tX10_told_0_ok (21, .aload_n 0, 1) (List.mem_of_getElem? (i := 11) rfl), rfl⟩
theorem pX10_told_22 : At cX10_told 22 (.iconst 1) 1 23 := ⟨tX10_told_0_ok (22, .iconst 1, 1) (List.mem_of_getElem? (i := 12) rfl), rfl⟩
theorem pX10_told_23 : At cX10_told 23 (.invokevirtual 79) 3 26 := ⟨tX10_told_0_ok (23, .invokevirtual 79, 3) (List.mem_of_getElem? (i := 13) rfl), rfl⟩
theorem pX10_told_26 : At cX10_told 26 (.ireturn) 1 27 := ⟨tX10_told_0_ok (26, .ireturn, 1) (List.mem_of_getElem? (i := 14) rfl), rfl⟩
