def tJ9_min_7cf53_0 : List (Nat × Instr × Nat) := [(0, .iload_n 0, 1), (1, .iload_n 1, 1), (2, .if_icmp .gt 7, 3), (5, .iload_n 0, 1), (6, .goto 4, 3), (9, .iload_n 1, 1), (10, .ireturn, 1)]
theorem tJ9_min_7cf53_0_ok : ∀ q ∈ tJ9_min_7cf53_0, decode cJ9_min_7cf53 q.1 = .ok (q.2.1, q.2.2) := by decide +kernel
theorem pJ9_min_7cf53_0 : At cJ9_min_7cf53 0 (.iload_n 0) 1 1 := ⟨tJ9_min_7cf53_0_ok (0, .iload_n 0, 1) (List.mem_of_getElem? (i := 0) rfl), rfl⟩
theorem pJ9_min_7cf53_1 : At cJ9_min_7cf53 1 (.iload_n 1) 1 2 := ⟨tJ9_min_7cf53_0_ok (1, .iload_n 1, 1) (List.mem_of_getElem? (i := 1) rfl), rfl⟩
theorem pJ9_min_7cf53_2 : Bt cJ9_min_7cf53 2 (.if_icmp .gt 7) 7 9 5 := ⟨tJ9_min_7cf53_0_ok (2, .if_icmp .gt 7, 3) (List.mem_of_getElem? (i := 2) rfl), by decide, rfl⟩
theorem pJ9_min_7cf53_5 : At cJ9_min_7cf53 5 (.iload_n 0) 1 6 := ⟨tJ9_min_7cf53_0_ok (5, .iload_n 0, 1) (List.mem_of_getElem? (i := 3) rfl), rfl⟩
theorem pJ9_min_7cf53_6 : Bt cJ9_min_7cf53 6 (.goto 4) 4 10 9 := ⟨tJ9_min_7cf53_0_ok (6, .goto 4, 3) (List.mem_of_getElem? (i := 4) rfl), by decide, rfl⟩
theorem pJ9_min_7cf53_9 : At cJ9_min_7cf53 9 (.iload_n 1) 1 10 := ⟨tJ9_min_7cf53_0_ok (9, .iload_n 1, 1) (List.mem_of_getElem? (i := 5) rfl), rfl⟩
theorem pJ9_min_7cf53_10 : At cJ9_min_7cf53 10 (.ireturn) 1 11 := ⟨tJ9_min_7cf53_0_ok (10, .ireturn, 1) (List.mem_of_getElem? (i := 6) rfl), rfl⟩
def tJ9_max_7cf53_0 : List (Nat × Instr × Nat) := [(0, .iload_n 0, 1), (1, .iload_n 1, 1), (2, .if_icmp .lt 7, 3), (5, .iload_n 0, 1), (6, .goto 4, 3), (9, .iload_n 1, 1), (10, .ireturn, 1)]
theorem tJ9_max_7cf53_0_ok : ∀ q ∈ tJ9_max_7cf53_0, decode cJ9_max_7cf53 q.1 = .ok (q.2.1, q.2.2) := by decide +kernel
theorem pJ9_max_7cf53_0 : At cJ9_max_7cf53 0 (.iload_n 0) 1 1 := ⟨tJ9_max_7cf53_0_ok (0, .iload_n 0, 1) (List.mem_of_getElem? (i := 0) rfl), rfl⟩
theorem pJ9_max_7cf53_1 : At cJ9_max_7cf53 1 (.iload_n 1) 1 2 := ⟨tJ9_max_7cf53_0_ok (1, .iload_n 1, 1) (List.mem_of_getElem? (i := 1) rfl), rfl⟩
theorem pJ9_max_7cf53_2 : Bt cJ9_max_7cf53 2 (.if_icmp .lt 7) 7 9 5 := ⟨tJ9_max_7cf53_0_ok (2, .if_icmp .lt 7, 3) (List.mem_of_getElem? (i := 2) rfl), by decide, rfl⟩
theorem pJ9_max_7cf53_5 : At cJ9_max_7cf53 5 (.iload_n 0) 1 6 := ⟨tJ9_max_7cf53_0_ok (5, .iload_n 0, 1) (List.mem_of_getElem? (i := 3) rfl), rfl⟩
theorem pJ9_max_7cf53_6 : Bt cJ9_max_7cf53 6 (.goto 4) 4 10 9 := ⟨tJ9_max_7cf53_0_ok (6, .goto 4, 3) (List.mem_of_getElem? (i := 4) rfl), by decide, rfl⟩
theorem pJ9_max_7cf53_9 : At cJ9_max_7cf53 9 (.iload_n 1) 1 10 := ⟨tJ9_max_7cf53_0_ok (9, .iload_n 1, 1) (List.mem_of_getElem? (i := 5) rfl), rfl⟩
theorem pJ9_max_7cf53_10 : At cJ9_max_7cf53 10 (.ireturn) 1 11 := ⟨tJ9_max_7cf53_0_ok (10, .ireturn, 1) (List.mem_of_getElem? (i := 6) rfl), rfl⟩
def tJ9_floorMod_7cf53_0 : List (Nat × Instr × Nat) := [(0, .iload_n 0, 1), (1, .iload_n 1, 1), (2, .irem, 1), (3, .istore_n 2, 1), (4, .iload_n 0, 1), (5, .iload_n 1, 1), (6, .ixor, 1), (7, .ifCond .ge 11, 3), (10, .iload_n 2, 1), (11, .ifCond .eq 7, 3), (14, .iload_n 2, 1), (15, .iload_n 1, 1), (16, .iadd, 1), (17, .ireturn, 1), (18, .iload_n 2, 1), (19, .ireturn, 1)]
theorem tJ9_floorMod_7cf53_0_ok : ∀ q ∈ tJ9_floorMod_7cf53_0, decode cJ9_floorMod_7cf53 q.1 = .ok (q.2.1, q.2.2) := by decide +kernel
theorem pJ9_floorMod_7cf53_0 : At cJ9_floorMod_7cf53 0 (.iload_n 0) 1 1 := ⟨tJ9_floorMod_7cf53_0_ok (0, .iload_n 0, 1) (List.mem_of_getElem? (i := 0) rfl), rfl⟩
theorem pJ9_floorMod_7cf53_1 : At cJ9_floorMod_7cf53 1 (.iload_n 1) 1 2 := ⟨tJ9_floorMod_7cf53_0_ok (1, .iload_n 1, 1) (List.mem_of_getElem? (i := 1) rfl), rfl⟩
theorem pJ9_floorMod_7cf53_2 : At cJ9_floorMod_7cf53 2 (.irem) 1 3 := ⟨tJ9_floorMod_7cf53_0_ok (2, .irem, 1) (List.mem_of_getElem? (i := 2) rfl), rfl⟩
theorem pJ9_floorMod_7cf53_3 : At cJ9_floorMod_7cf53 3 (.istore_n 2) 1 4 := ⟨tJ9_floorMod_7cf53_0_ok (3, .istore_n 2, 1) (List.mem_of_getElem? (i := 3) rfl), rfl⟩
theorem pJ9_floorMod_7cf53_4 : At cJ9_floorMod_7cf53 4 (.iload_n 0) 1 5 := ⟨tJ9_floorMod_7cf53_0_ok (4, .iload_n 0, 1) (List.mem_of_getElem? (i := 4) rfl), rfl⟩
theorem pJ9_floorMod_7cf53_5 : At cJ9_floorMod_7cf53 5 (.iload_n 1) 1 6 := ⟨tJ9_floorMod_7cf53_0_ok (5, .iload_n 1, 1) (List.mem_of_getElem? (i := 5) rfl), rfl⟩
theorem pJ9_floorMod_7cf53_6 : At cJ9_floorMod_7cf53 6 (.ixor) 1 7 := ⟨tJ9_floorMod_7cf53_0_ok (6, .ixor, 1) (List.mem_of_getElem? (i := 6) rfl), rfl⟩
theorem pJ9_floorMod_7cf53_7 : Bt cJ9_floorMod_7cf53 7 (.ifCond .ge 11) 11 18 10 := ⟨tJ9_floorMod_7cf53_0_ok (7, .ifCond .ge 11, 3) (List.mem_of_getElem? (i := 7) rfl), by decide, rfl⟩
theorem pJ9_floorMod_7cf53_10 : At cJ9_floorMod_7cf53 10 (.iload_n 2) 1 11 := ⟨tJ9_floorMod_7cf53_0_ok (10, .iload_n 2, 1) (List.mem_of_getElem? (i := 8) rfl), rfl⟩
theorem pJ9_floorMod_7cf53_11 : Bt cJ9_floorMod_7cf53 11 (.ifCond .eq 7) 7 18 14 := ⟨tJ9_floorMod_7cf53_0_ok (11, .ifCond .eq 7, 3) (List.mem_of_getElem? (i := 9) rfl), by decide, rfl⟩
theorem pJ9_floorMod_7cf53_14 : At cJ9_floorMod_7cf53 14 (.iload_n 2) 1 15 := ⟨tJ9_floorMod_7cf53_0_ok (14, .iload_n 2, 1) (List.mem_of_getElem? (i := 10) rfl), rfl⟩
theorem pJ9_floorMod_7cf53_15 : At cJ9_floorMod_7cf53 15 (.iload_n 1) 1 16 := ⟨tJ9_floorMod_7cf53_0_ok (15, .iload_n 1, 1) (List.mem_of_getElem? (i := 11) rfl), rfl⟩
theorem pJ9_floorMod_7cf53_16 : At cJ9_floorMod_7cf53 16 (.iadd) 1 17 := ⟨tJ9_floorMod_7cf53_0_ok (16, .iadd, 1) (List.mem_of_getElem? (i := 12) rfl), rfl⟩
theorem pJ9_floorMod_7cf53_17 : At cJ9_floorMod_7cf53 17 (.ireturn) 1 18 := ⟨tJ9_floorMod_7cf53_0_ok (17, .ireturn, 1) (List.mem_of_getElem? (i := 13) rfl), rfl⟩
theorem pJ9_floorMod_7cf53_18 : At cJ9_floorMod_7cf53 18 (.iload_n 2) 1 19 := ⟨tJ9_floorMod_7cf53_0_ok (18, .iload_n 2, 1) (List.mem_of_getElem? (i := 14) rfl), rfl⟩
theorem pJ9_floorMod_7cf53_19 : At cJ9_floorMod_7cf53 19 (.ireturn) 1 20 := ⟨tJ9_floorMod_7cf53_0_ok (19, .ireturn, 1) (List.mem_of_getElem? (i := 15) rfl), rfl⟩
def tJ0_isLatin1_aae02_0 : List (Nat × Instr × Nat) := [(0, .getstatic 38, 3), (3, .ifCond .eq 14, 3), (6, .aload_n 0, 1), (7, .getfield 15, 3), (10, .ifCond .ne 7, 3), (13, .iconst 1, 1), (14, .goto 4, 3), (17, .iconst 0, 1), (18, .ireturn, 1)]
theorem tJ0_isLatin1_aae02_0_ok : ∀ q ∈ tJ0_isLatin1_aae02_0, decode cJ0_isLatin1_aae02 q.1 = .ok (q.2.1, q.2.2) := by decide +kernel
theorem pJ0_isLatin1_aae02_0 : At cJ0_isLatin1_aae02 0 (.getstatic 38) 3 3 := ⟨tJ0_isLatin1_aae02_0_ok (0, .getstatic 38, 3) (List.mem_of_getElem? (i := 0) rfl), rfl⟩
theorem pJ0_isLatin1_aae02_3 : Bt cJ0_isLatin1_aae02 3 (.ifCond .eq 14) 14 17 6 := ⟨tJ0_isLatin1_aae02_0_ok (3, .ifCond .eq 14, 3) (List.mem_of_getElem? (i := 1) rfl), by decide, rfl⟩
theorem pJ0_isLatin1_aae02_6 : At cJ0_isLatin1_aae02 6 (.aload_n 0) 1 7 := ⟨tJ0_isLatin1_aae02_0_ok (6, .aload_n 0, 1) (List.mem_of_getElem? (i := 2) rfl), rfl⟩
theorem pJ0_isLatin1_aae02_7 : At cJ0_isLatin1_aae02 7 (.getfield 15) 3 10 := ⟨tJ0_isLatin1_aae02_0_ok (7, .getfield 15, 3) (List.mem_of_getElem? (i := 3) rfl), rfl⟩
theorem pJ0_isLatin1_aae02_10 : Bt cJ0_isLatin1_aae02 10 (.ifCond .ne 7) 7 17 13 := ⟨tJ0_isLatin1_aae02_0_ok (10, .ifCond .ne 7, 3) (List.mem_of_getElem? (i := 4) rfl), by decide, rfl⟩
theorem pJ0_isLatin1_aae02_13 : At cJ0_isLatin1_aae02 13 (.iconst 1) 1 14 := ⟨tJ0_isLatin1_aae02_0_ok (13, .iconst 1, 1) (List.mem_of_getElem? (i := 5) rfl), rfl⟩
theorem pJ0_isLatin1_aae02_14 : Bt cJ0_isLatin1_aae02 14 (.goto 4) 4 18 17 := ⟨tJ0_isLatin1_aae02_0_ok (14, .goto 4, 3) (List.mem_of_getElem? (i := 6) rfl), by decide, rfl⟩
theorem pJ0_isLatin1_aae02_17 : At cJ0_isLatin1_aae02 17 (.iconst 0) 1 18 := ⟨tJ0_isLatin1_aae02_0_ok (17, .iconst 0, 1) (List.mem_of_getElem? (i := 7) rfl), rfl⟩
theorem pJ0_isLatin1_aae02_18 : At cJ0_isLatin1_aae02 18 (.ireturn) 1 19 := ⟨tJ0_isLatin1_aae02_0_ok (18, .ireturn, 1) (List.mem_of_getElem? (i := 8) rfl), rfl⟩
def tJ0_coder_7d493_0 : List (Nat × Instr × Nat) := [(0, .getstatic 38, 3), (3, .ifCond .eq 10, 3), (6, .aload_n 0, 1), (7, .getfield 15, 3), (10, .goto 4, 3), (13, .iconst 1, 1), (14, .ireturn, 1)]
theorem tJ0_coder_7d493_0_ok : ∀ q ∈ tJ0_coder_7d493_0, decode cJ0_coder_7d493 q.1 = .ok (q.2.1, q.2.2) := by decide +kernel
theorem pJ0_coder_7d493_0 : At cJ0_coder_7d493 0 (.getstatic 38) 3 3 := ⟨tJ0_coder_7d493_0_ok (0, .getstatic 38, 3) (List.mem_of_getElem? (i := 0) rfl), rfl⟩
theorem pJ0_coder_7d493_3 : Bt cJ0_coder_7d493 3 (.ifCond .eq 10) 10 13 6 := ⟨tJ0_coder_7d493_0_ok (3, .ifCond .eq 10, 3) (List.mem_of_getElem? (i := 1) rfl), by decide, rfl⟩
theorem pJ0_coder_7d493_6 : At cJ0_coder_7d493 6 (.aload_n 0) 1 7 := ⟨tJ0_coder_7d493_0_ok (6, .aload_n 0, 1) (List.mem_of_getElem? (i := 2) rfl), rfl⟩
theorem pJ0_coder_7d493_7 : At cJ0_coder_7d493 7 (.getfield 15) 3 10 := ⟨tJ0_coder_7d493_0_ok (7, .getfield 15, 3) (List.mem_of_getElem? (i := 3) rfl), rfl⟩
theorem pJ0_coder_7d493_10 : Bt cJ0_coder_7d493 10 (.goto 4) 4 14 13 := ⟨tJ0_coder_7d493_0_ok (10, .goto 4, 3) (List.mem_of_getElem? (i := 4) rfl), by decide, rfl⟩
theorem pJ0_coder_7d493_13 : At cJ0_coder_7d493 13 (.iconst 1) 1 14 := ⟨tJ0_coder_7d493_0_ok (13, .iconst 1, 1) (List.mem_of_getElem? (i := 5) rfl), rfl⟩
theorem pJ0_coder_7d493_14 : At cJ0_coder_7d493 14 (.ireturn) 1 15 := ⟨tJ0_coder_7d493_0_ok (14, .ireturn, 1) (List.mem_of_getElem? (i := 6) rfl), rfl⟩
def tJ0_length_8abf5_0 : List (Nat × Instr × Nat) := [(0, .aload_n 0, 1), (1, .getfield 9, 3), (4, .arraylength, 1), (5, .aload_n 0, 1), (6, .invokevirtual 335, 3), (9, .ishr, 1), (10, .ireturn, 1)]
theorem tJ0_length_8abf5_0_ok : ∀ q ∈ tJ0_length_8abf5_0, decode cJ0_length_8abf5 q.1 = .ok (q.2.1, q.2.2) := by decide +kernel
theorem pJ0_length_8abf5_0 : At cJ0_length_8abf5 0 (.aload_n 0) 1 1 := ⟨tJ0_length_8abf5_0_ok (0, .aload_n 0, 1) (List.mem_of_getElem? (i := 0) rfl), rfl⟩
theorem pJ0_length_8abf5_1 : At cJ0_length_8abf5 1 (.getfield 9) 3 4 := ⟨tJ0_length_8abf5_0_ok (1, .getfield 9, 3) (List.mem_of_getElem? (i := 1) rfl), rfl⟩
theorem pJ0_length_8abf5_4 : At cJ0_length_8abf5 4 (.arraylength) 1 5 := ⟨tJ0_length_8abf5_0_ok (4, .arraylength, 1) (List.mem_of_getElem? (i := 2) rfl), rfl⟩
theorem pJ0_length_8abf5_5 : At cJ0_length_8abf5 5 (.aload_n 0) 1 6 := ⟨tJ0_length_8abf5_0_ok (5, .aload_n 0, 1) (List.mem_of_getElem? (i := 3) rfl), rfl⟩
theorem pJ0_length_8abf5_6 : At cJ0_length_8abf5 6 (.invokevirtual 335) 3 9 := ⟨tJ0_length_8abf5_0_ok (6, .invokevirtual 335, 3) (List.mem_of_getElem? (i := 4) rfl), rfl⟩
theorem pJ0_length_8abf5_9 : At cJ0_length_8abf5 9 (.ishr) 1 10 := ⟨tJ0_length_8abf5_0_ok (9, .ishr, 1) (List.mem_of_getElem? (i := 5) rfl), rfl⟩
theorem pJ0_length_8abf5_10 : At cJ0_length_8abf5 10 (.ireturn) 1 11 := ⟨tJ0_length_8abf5_0_ok (10, .ireturn, 1) (List.mem_of_getElem? (i := 6) rfl), rfl⟩
def tJ1_canEncode_9a6ad_0 : List (Nat × Instr × Nat) := [(0, .iload_n 0, 1), (1, .ifCond .lt 14, 3), (4, .iload_n 0, 1), (5, .sipush 255, 3), (8, .if_icmp .gt 7, 3), (11, .iconst 1, 1), (12, .goto 4, 3), (15, .iconst 0, 1), (16, .ireturn, 1)]
theorem tJ1_canEncode_9a6ad_0_ok : ∀ q ∈ tJ1_canEncode_9a6ad_0, decode cJ1_canEncode_9a6ad q.1 = .ok (q.2.1, q.2.2) := by decide +kernel
theorem pJ1_canEncode_9a6ad_0 : At cJ1_canEncode_9a6ad 0 (.iload_n 0) 1 1 := ⟨tJ1_canEncode_9a6ad_0_ok (0, .iload_n 0, 1) (List.mem_of_getElem? (i := 0) rfl), rfl⟩
theorem pJ1_canEncode_9a6ad_1 : Bt cJ1_canEncode_9a6ad 1 (.ifCond .lt 14) 14 15 4 := ⟨tJ1_canEncode_9a6ad_0_ok (1, .ifCond .lt 14, 3) (List.mem_of_getElem? (i := 1) rfl), by decide, rfl⟩
theorem pJ1_canEncode_9a6ad_4 : At cJ1_canEncode_9a6ad 4 (.iload_n 0) 1 5 := ⟨tJ1_canEncode_9a6ad_0_ok (4, .iload_n 0, 1) (List.mem_of_getElem? (i := 2) rfl), rfl⟩
theorem pJ1_canEncode_9a6ad_5 : At cJ1_canEncode_9a6ad 5 (.sipush 255) 3 8 := ⟨tJ1_canEncode_9a6ad_0_ok (5, .sipush 255, 3) (List.mem_of_getElem? (i := 3) rfl), rfl⟩
theorem pJ1_canEncode_9a6ad_8 : Bt cJ1_canEncode_9a6ad 8 (.if_icmp .gt 7) 7 15 11 := ⟨tJ1_canEncode_9a6ad_0_ok (8, .if_icmp .gt 7, 3) (List.mem_of_getElem? (i := 4) rfl), by decide, rfl⟩
theorem pJ1_canEncode_9a6ad_11 : At cJ1_canEncode_9a6ad 11 (.iconst 1) 1 12 := ⟨tJ1_canEncode_9a6ad_0_ok (11, .iconst 1, 1) (List.mem_of_getElem? (i := 5) rfl), rfl⟩
theorem pJ1_canEncode_9a6ad_12 : Bt cJ1_canEncode_9a6ad 12 (.goto 4) 4 16 15 := ⟨tJ1_canEncode_9a6ad_0_ok (12, .goto 4, 3) (List.mem_of_getElem? (i := 6) rfl), by decide, rfl⟩
theorem pJ1_canEncode_9a6ad_15 : At cJ1_canEncode_9a6ad 15 (.iconst 0) 1 16 := ⟨tJ1_canEncode_9a6ad_0_ok (15, .iconst 0, 1) (List.mem_of_getElem? (i := 7) rfl), rfl⟩
theorem pJ1_canEncode_9a6ad_16 : At cJ1_canEncode_9a6ad 16 (.ireturn) 1 17 := ⟨tJ1_canEncode_9a6ad_0_ok (16, .ireturn, 1) (List.mem_of_getElem? (i := 8) rfl), rfl⟩
def tJ1_indexOfChar_4cfef_0 : List (Nat × Instr × Nat) := [(0, .iload_n 1, 1), (1, .i2b, 1), (2, .istore 4, 2), (4, .iload_n 2, 1), (5, .istore 5, 2), (7, .iload 5, 2), (9, .iload_n 3, 1), (10, .if_icmp .ge 21, 3), (13, .aload_n 0, 1), (14, .iload 5, 2), (16, .baload, 1), (17, .iload 4, 2), (19, .if_icmp .ne 6, 3), (22, .iload 5, 2), (24, .ireturn, 1), (25, .iinc 5 1, 3), (28, .goto (-21), 3), (31, .iconst (-1), 1), (32, .ireturn, 1)]
theorem tJ1_indexOfChar_4cfef_0_ok : ∀ q ∈ tJ1_indexOfChar_4cfef_0, decode cJ1_indexOfChar_4cfef q.1 = .ok (q.2.1, q.2.2) := by decide +kernel
theorem pJ1_indexOfChar_4cfef_0 : At cJ1_indexOfChar_4cfef 0 (.iload_n 1) 1 1 := ⟨tJ1_indexOfChar_4cfef_0_ok (0, .iload_n 1, 1) (List.mem_of_getElem? (i := 0) rfl), rfl⟩
theorem pJ1_indexOfChar_4cfef_1 : At cJ1_indexOfChar_4cfef 1 (.i2b) 1 2 := ⟨tJ1_indexOfChar_4cfef_0_ok (1, .i2b, 1) (List.mem_of_getElem? (i := 1) rfl), rfl⟩
theorem pJ1_indexOfChar_4cfef_2 : At cJ1_indexOfChar_4cfef 2 (.istore 4) 2 4 := ⟨tJ1_indexOfChar_4cfef_0_ok (2, .istore 4, 2) (List.mem_of_getElem? (i := 2) rfl), rfl⟩
theorem pJ1_indexOfChar_4cfef_4 : At cJ1_indexOfChar_4cfef 4 (.iload_n 2) 1 5 := ⟨tJ1_indexOfChar_4cfef_0_ok (4, .iload_n 2, 1) (List.mem_of_getElem? (i := 3) rfl), rfl⟩
theorem pJ1_indexOfChar_4cfef_5 : At cJ1_indexOfChar_4cfef 5 (.istore 5) 2 7 := ⟨tJ1_indexOfChar_4cfef_0_ok (5, .istore 5, 2) (List.mem_of_getElem? (i := 4) rfl), rfl⟩
theorem pJ1_indexOfChar_4cfef_7 : At cJ1_indexOfChar_4cfef 7 (.iload 5) 2 9 := ⟨tJ1_indexOfChar_4cfef_0_ok (7, .iload 5, 2) (List.mem_of_getElem? (i := 5) rfl), rfl⟩
theorem pJ1_indexOfChar_4cfef_9 : At cJ1_indexOfChar_4cfef 9 (.iload_n 3) 1 10 := ⟨tJ1_indexOfChar_4cfef_0_ok (9, .iload_n 3, 1) (List.mem_of_getElem? (i := 6) rfl), rfl⟩
theorem pJ1_indexOfChar_4cfef_10 : Bt cJ1_indexOfChar_4cfef 10 (.if_icmp .ge 21) 21 31 13 := ⟨tJ1_indexOfChar_4cfef_0_ok (10, .if_icmp .ge 21, 3) (List.mem_of_getElem? (i := 7) rfl), by decide, rfl⟩
theorem pJ1_indexOfChar_4cfef_13 : At cJ1_indexOfChar_4cfef 13 (.aload_n 0) 1 14 := ⟨tJ1_indexOfChar_4cfef_0_ok (13, .aload_n 0, 1) (List.mem_of_getElem? (i := 8) rfl), rfl⟩
theorem pJ1_indexOfChar_4cfef_14 : At cJ1_indexOfChar_4cfef 14 (.iload 5) 2 16 := ⟨tJ1_indexOfChar_4cfef_0_ok (14, .iload 5, 2) (List.mem_of_getElem? (i := 9) rfl), rfl⟩
theorem pJ1_indexOfChar_4cfef_16 : At cJ1_indexOfChar_4cfef 16 (.baload) 1 17 := ⟨tJ1_indexOfChar_4cfef_0_ok (16, .baload, 1) (List.mem_of_getElem? (i := 10) rfl), rfl⟩
theorem pJ1_indexOfChar_4cfef_17 : At cJ1_indexOfChar_4cfef 17 (.iload 4) 2 19 := ⟨tJ1_indexOfChar_4cfef_0_ok (17, .iload 4, 2) (List.mem_of_getElem? (i := 11) rfl), rfl⟩
theorem pJ1_indexOfChar_4cfef_19 : Bt cJ1_indexOfChar_4cfef 19 (.if_icmp .ne 6) 6 25 22 := ⟨tJ1_indexOfChar_4cfef_0_ok (19, .if_icmp .ne 6, 3) (List.mem_of_getElem? (i := 12) rfl), by decide, rfl⟩
theorem pJ1_indexOfChar_4cfef_22 : At cJ1_indexOfChar_4cfef 22 (.iload 5) 2 24 := ⟨tJ1_indexOfChar_4cfef_0_ok (22, .iload 5, 2) (List.mem_of_getElem? (i := 13) rfl), rfl⟩
theorem pJ1_indexOfChar_4cfef_24 : At cJ1_indexOfChar_4cfef 24 (.ireturn) 1 25 := ⟨tJ1_indexOfChar_4cfef_0_ok (24, .ireturn, 1) (List.mem_of_getElem? (i := 14) rfl), rfl⟩
theorem pJ1_indexOfChar_4cfef_25 : At cJ1_indexOfChar_4cfef 25 (.iinc 5 1) 3 28 := ⟨tJ1_indexOfChar_4cfef_0_ok (25, .iinc 5 1, 3) (List.mem_of_getElem? (i := 15) rfl), rfl⟩
theorem pJ1_indexOfChar_4cfef_28 : Bt cJ1_indexOfChar_4cfef 28 (.goto (-21)) (-21) 7 31 := ⟨tJ1_indexOfChar_4cfef_0_ok (28, .goto (-21), 3) (List.mem_of_getElem? (i := 16) rfl), by decide, rfl⟩
theorem pJ1_indexOfChar_4cfef_31 : At cJ1_indexOfChar_4cfef 31 (.iconst (-1)) 1 32 := ⟨tJ1_indexOfChar_4cfef_0_ok (31, .iconst (-1), 1) (List.mem_of_getElem? (i := 17) rfl), rfl⟩
theorem pJ1_indexOfChar_4cfef_32 : At cJ1_indexOfChar_4cfef 32 (.ireturn) 1 33 := ⟨tJ1_indexOfChar_4cfef_0_ok (32, .ireturn, 1) (List.mem_of_getElem? (i := 18) rfl), rfl⟩
def tJ1_indexOf_4cfef_0 : List (Nat × Instr × Nat) := [(0, .iload_n 1, 1), (1, .invokestatic 88, 3), (4, .ifCond .ne 5, 3), (7, .iconst (-1), 1), (8, .ireturn, 1), (9, .iload_n 2, 1), (10, .iconst 0, 1), (11, .invokestatic 92, 3), (14, .istore_n 2, 1), (15, .iload_n 3, 1), (16, .aload_n 0, 1), (17, .arraylength, 1), (18, .invokestatic 38, 3), (21, .istore_n 3, 1), (22, .iload_n 2, 1), (23, .iload_n 3, 1), (24, .if_icmp .lt 5, 3), (27, .iconst (-1), 1), (28, .ireturn, 1), (29, .aload_n 0, 1), (30, .iload_n 1, 1), (31, .iload_n 2, 1), (32, .iload_n 3, 1), (33, .invokestatic 95, 3), (36, .ireturn, 1)]
theorem tJ1_indexOf_4cfef_0_ok : ∀ q ∈ tJ1_indexOf_4cfef_0, decode cJ1_indexOf_4cfef q.1 = .ok (q.2.1, q.2.2) := by decide +kernel
theorem pJ1_indexOf_4cfef_0 : At cJ1_indexOf_4cfef 0 (.iload_n 1) 1 1 := ⟨tJ1_indexOf_4cfef_0_ok (0, .iload_n 1, 1) (List.mem_of_getElem? (i := 0) rfl), rfl⟩
theorem pJ1_indexOf_4cfef_1 : At cJ1_indexOf_4cfef 1 (.invokestatic 88) 3 4 := ⟨tJ1_indexOf_4cfef_0_ok (1, .invokestatic 88, 3) (List.mem_of_getElem? (i := 1) rfl), rfl⟩
theorem pJ1_indexOf_4cfef_4 : Bt cJ1_indexOf_4cfef 4 (.ifCond .ne 5) 5 9 7 := ⟨tJ1_indexOf_4cfef_0_ok (4, .ifCond .ne 5, 3) (List.mem_of_getElem? (i := 2) rfl), by decide, rfl⟩
theorem pJ1_indexOf_4cfef_7 : At cJ1_indexOf_4cfef 7 (.iconst (-1)) 1 8 := ⟨tJ1_indexOf_4cfef_0_ok (7, .iconst (-1), 1) (List.mem_of_getElem? (i := 3) rfl), rfl⟩
theorem pJ1_indexOf_4cfef_8 : At cJ1_indexOf_4cfef 8 (.ireturn) 1 9 := ⟨tJ1_indexOf_4cfef_0_ok (8, .ireturn, 1) (List.mem_of_getElem? (i := 4) rfl), rfl⟩
theorem pJ1_indexOf_4cfef_9 : At cJ1_indexOf_4cfef 9 (.iload_n 2) 1 10 := ⟨tJ1_indexOf_4cfef_0_ok (9, .iload_n 2, 1) (List.mem_of_getElem? (i := 5) rfl), rfl⟩
theorem pJ1_indexOf_4cfef_10 : At cJ1_indexOf_4cfef 10 (.iconst 0) 1 11 := ⟨tJ1_indexOf_4cfef_0_ok (10, .iconst 0, 1) (List.mem_of_getElem? (i := 6) rfl), rfl⟩
theorem pJ1_indexOf_4cfef_11 : At cJ1_indexOf_4cfef 11 (.invokestatic 92) 3 14 := ⟨tJ1_indexOf_4cfef_0_ok (11, .invokestatic 92, 3) (List.mem_of_getElem? (i := 7) rfl), rfl⟩
theorem pJ1_indexOf_4cfef_14 : At cJ1_indexOf_4cfef 14 (.istore_n 2) 1 15 := ⟨tJ1_indexOf_4cfef_0_ok (14, .istore_n 2, 1) (List.mem_of_getElem? (i := 8) rfl), rfl⟩
theorem pJ1_indexOf_4cfef_15 : At cJ1_indexOf_4cfef 15 (.iload_n 3) 1 16 := ⟨tJ1_indexOf_4cfef_0_ok (15, .iload_n 3, 1) (List.mem_of_getElem? (i := 9) rfl), rfl⟩
theorem pJ1_indexOf_4cfef_16 : At cJ1_indexOf_4cfef 16 (.aload_n 0) 1 17 := ⟨tJ1_indexOf_4cfef_0_ok (16, .aload_n 0, 1) (List.mem_of_getElem? (i := 10) rfl), rfl⟩
theorem pJ1_indexOf_4cfef_17 : At cJ1_indexOf_4cfef 17 (.arraylength) 1 18 := ⟨tJ1_indexOf_4cfef_0_ok (17, .arraylength, 1) (List.mem_of_getElem? (i := 11) rfl), rfl⟩
theorem pJ1_indexOf_4cfef_18 : At cJ1_indexOf_4cfef 18 (.invokestatic 38) 3 21 := ⟨tJ1_indexOf_4cfef_0_ok (18, .invokestatic 38, 3) (List.mem_of_getElem? (i := 12) rfl), rfl⟩
theorem pJ1_indexOf_4cfef_21 : At cJ1_indexOf_4cfef 21 (.istore_n 3) 1 22 := ⟨tJ1_indexOf_4cfef_0_ok (21, .istore_n 3, 1) (List.mem_of_getElem? (i := 13) rfl), rfl⟩
theorem pJ1_indexOf_4cfef_22 : At cJ1_indexOf_4cfef 22 (.iload_n 2) 1 23 := ⟨tJ1_indexOf_4cfef_0_ok (22, .iload_n 2, 1) (List.mem_of_getElem? (i := 14) rfl), rfl⟩
theorem pJ1_indexOf_4cfef_23 : At cJ1_indexOf_4cfef 23 (.iload_n 3) 1 24 := ⟨tJ1_indexOf_4cfef_0_ok (23, .iload_n 3, 1) (List.mem_of_getElem? (i := 15) rfl), rfl⟩
theorem pJ1_indexOf_4cfef_24 : Bt cJ1_indexOf_4cfef 24 (.if_icmp .lt 5) 5 29 27 := ⟨tJ1_indexOf_4cfef_0_ok (24, .if_icmp .lt 5, 3) (List.mem_of_getElem? (i := 16) rfl), by decide, rfl⟩
theorem pJ1_indexOf_4cfef_27 : At cJ1_indexOf_4cfef 27 (.iconst (-1)) 1 28 := ⟨tJ1_indexOf_4cfef_0_ok (27, .iconst (-1), 1) (List.mem_of_getElem? (i := 17) rfl), rfl⟩
theorem pJ1_indexOf_4cfef_28 : At cJ1_indexOf_4cfef 28 (.ireturn) 1 29 := ⟨tJ1_indexOf_4cfef_0_ok (28, .ireturn, 1) (List.mem_of_getElem? (i := 18) rfl), rfl⟩
theorem pJ1_indexOf_4cfef_29 : At cJ1_indexOf_4cfef 29 (.aload_n 0) 1 30 := ⟨tJ1_indexOf_4cfef_0_ok (29, .aload_n 0, 1) (List.mem_of_getElem? (i := 19) rfl), rfl⟩
theorem pJ1_indexOf_4cfef_30 : At cJ1_indexOf_4cfef 30 (.iload_n 1) 1 31 := ⟨tJ1_indexOf_4cfef_0_ok (30, .iload_n 1, 1) (List.mem_of_getElem? (i := 20) rfl), rfl⟩
theorem pJ1_indexOf_4cfef_31 : At cJ1_indexOf_4cfef 31 (.iload_n 2) 1 32 := ⟨tJ1_indexOf_4cfef_0_ok (31, .iload_n 2, 1) (List.mem_of_getElem? (i := 21) rfl), rfl⟩
theorem pJ1_indexOf_4cfef_32 : At cJ1_indexOf_4cfef 32 (.iload_n 3) 1 33 := ⟨tJ1_indexOf_4cfef_0_ok (32, .iload_n 3, 1) (List.mem_of_getElem? (i := 22) rfl), rfl⟩
theorem pJ1_indexOf_4cfef_33 : At cJ1_indexOf_4cfef 33 (.invokestatic 95) 3 36 := ⟨tJ1_indexOf_4cfef_0_ok (33, .invokestatic 95, 3) (List.mem_of_getElem? (i := 23) rfl), rfl⟩
theorem pJ1_indexOf_4cfef_36 : At cJ1_indexOf_4cfef 36 (.ireturn) 1 37 := ⟨tJ1_indexOf_4cfef_0_ok (36, .ireturn, 1) (List.mem_of_getElem? (i := 24) rfl), rfl⟩
def tJ0_indexOf_7cf53_0 : List (Nat × Instr × Nat) := [(0, .aload_n 0, 1), (1, .invokevirtual 492, 3), (4, .ifCond .eq 19, 3), (7, .aload_n 0, 1), (8, .getfield 9, 3), (11, .iload_n 1, 1), (12, .iload_n 2, 1), (13, .aload_n 0, 1), (14, .invokevirtual 505, 3), (17, .invokestatic 637, 3), (20, .goto 16, 3), (23, .aload_n 0, 1), (24, .getfield 9, 3), (27, .iload_n 1, 1), (28, .iload_n 2, 1), (29, .aload_n 0, 1), (30, .invokevirtual 505, 3), (33, .invokestatic 640, 3), (36, .ireturn, 1)]
theorem tJ0_indexOf_7cf53_0_ok : ∀ q ∈ tJ0_indexOf_7cf53_0, decode cJ0_indexOf_7cf53 q.1 = .ok (q.2.1, q.2.2) := by decide +kernel
theorem pJ0_indexOf_7cf53_0 : At cJ0_indexOf_7cf53 0 (.aload_n 0) 1 1 := ⟨tJ0_indexOf_7cf53_0_ok (0, .aload_n 0, 1) (List.mem_of_getElem? (i := 0) rfl), rfl⟩
theorem pJ0_indexOf_7cf53_1 : At cJ0_indexOf_7cf53 1 (.invokevirtual 492) 3 4 := ⟨tJ0_indexOf_7cf53_0_ok (1, .invokevirtual 492, 3) (List.mem_of_getElem? (i := 1) rfl), rfl⟩
theorem pJ0_indexOf_7cf53_4 : Bt cJ0_indexOf_7cf53 4 (.ifCond .eq 19) 19 23 7 := ⟨tJ0_indexOf_7cf53_0_ok (4, .ifCond .eq 19, 3) (List.mem_of_getElem? (i := 2) rfl), by decide, rfl⟩
theorem pJ0_indexOf_7cf53_7 : At cJ0_indexOf_7cf53 7 (.aload_n 0) 1 8 := ⟨tJ0_indexOf_7cf53_0_ok (7, .aload_n 0, 1) (List.mem_of_getElem? (i := 3) rfl), rfl⟩
theorem pJ0_indexOf_7cf53_8 : At cJ0_indexOf_7cf53 8 (.getfield 9) 3 11 := ⟨tJ0_indexOf_7cf53_0_ok (8, .getfield 9, 3) (List.mem_of_getElem? (i := 4) rfl), rfl⟩
theorem pJ0_indexOf_7cf53_11 : At cJ0_indexOf_7cf53 11 (.iload_n 1) 1 12 := ⟨tJ0_indexOf_7cf53_0_ok (11, .iload_n 1, 1) (List.mem_of_getElem? (i := 5) rfl), rfl⟩
theorem pJ0_indexOf_7cf53_12 : At cJ0_indexOf_7cf53 12 (.iload_n 2) 1 13 := ⟨tJ0_indexOf_7cf53_0_ok (12, .iload_n 2, 1) (List.mem_of_getElem? (i := 6) rfl), rfl⟩
theorem pJ0_indexOf_7cf53_13 : At cJ0_indexOf_7cf53 13 (.aload_n 0) 1 14 := ⟨tJ0_indexOf_7cf53_0_ok (13, .aload_n 0, 1) (List.mem_of_getElem? (i := 7) rfl), rfl⟩
theorem pJ0_indexOf_7cf53_14 : At cJ0_indexOf_7cf53 14 (.invokevirtual 505) 3 17 := ⟨tJ0_indexOf_7cf53_0_ok (14, .invokevirtual 505, 3) (List.mem_of_getElem? (i := 8) rfl), rfl⟩
theorem pJ0_indexOf_7cf53_17 : At cJ0_indexOf_7cf53 17 (.invokestatic 637) 3 20 := ⟨tJ0_indexOf_7cf53_0_ok (17, .invokestatic 637, 3) (List.mem_of_getElem? (i := 9) rfl), rfl⟩
theorem pJ0_indexOf_7cf53_20 : Bt cJ0_indexOf_7cf53 20 (.goto 16) 16 36 23 := ⟨tJ0_indexOf_7cf53_0_ok (20, .goto 16, 3) (List.mem_of_getElem? (i := 10) rfl), by decide, rfl⟩
theorem pJ0_indexOf_7cf53_23 : At cJ0_indexOf_7cf53 23 (.aload_n 0) 1 24 := ⟨tJ0_indexOf_7cf53_0_ok (23, .aload_n 0, 1) (List.mem_of_getElem? (i := 11) rfl), rfl⟩
theorem pJ0_indexOf_7cf53_24 : At cJ0_indexOf_7cf53 24 (.getfield 9) 3 27 := ⟨tJ0_indexOf_7cf53_0_ok (24, .getfield 9, 3) (List.mem_of_getElem? (i := 12) rfl), rfl⟩
theorem pJ0_indexOf_7cf53_27 : At cJ0_indexOf_7cf53 27 (.iload_n 1) 1 28 := ⟨tJ0_indexOf_7cf53_0_ok (27, .iload_n 1, 1) (List.mem_of_getElem? (i := 13) rfl), rfl⟩
theorem pJ0_indexOf_7cf53_28 : At cJ0_indexOf_7cf53 28 (.iload_n 2) 1 29 := ⟨tJ0_indexOf_7cf53_0_ok (28, .iload_n 2, 1) (List.mem_of_getElem? (i := 14) rfl), rfl⟩
theorem pJ0_indexOf_7cf53_29 : At cJ0_indexOf_7cf53 29 (.aload_n 0) 1 30 := ⟨tJ0_indexOf_7cf53_0_ok (29, .aload_n 0, 1) (List.mem_of_getElem? (i := 15) rfl), rfl⟩
theorem pJ0_indexOf_7cf53_30 : At cJ0_indexOf_7cf53 30 (.invokevirtual 505) 3 33 := ⟨tJ0_indexOf_7cf53_0_ok (30, .invokevirtual 505, 3) (List.mem_of_getElem? (i := 16) rfl), rfl⟩
theorem pJ0_indexOf_7cf53_33 : At cJ0_indexOf_7cf53 33 (.invokestatic 640) 3 36 := ⟨tJ0_indexOf_7cf53_0_ok (33, .invokestatic 640, 3) (List.mem_of_getElem? (i := 17) rfl), rfl⟩
theorem pJ0_indexOf_7cf53_36 : At cJ0_indexOf_7cf53 36 (.ireturn) 1 37 := ⟨tJ0_indexOf_7cf53_0_ok (36, .ireturn, 1) (List.mem_of_getElem? (i := 18) rfl), rfl⟩
def tJ0_indexOf_0f7a4_0 : List (Nat × Instr × Nat) := [(0, .aload_n 0, 1), (1, .iload_n 1, 1), (2, .iconst 0, 1), (3, .invokevirtual 633, 3), (6, .ireturn, 1)]
theorem tJ0_indexOf_0f7a4_0_ok : ∀ q ∈ tJ0_indexOf_0f7a4_0, decode cJ0_indexOf_0f7a4 q.1 = .ok (q.2.1, q.2.2) := by decide +kernel
theorem pJ0_indexOf_0f7a4_0 : At cJ0_indexOf_0f7a4 0 (.aload_n 0) 1 1 := ⟨tJ0_indexOf_0f7a4_0_ok (0, .aload_n 0, 1) (List.mem_of_getElem? (i := 0) rfl), rfl⟩
theorem pJ0_indexOf_0f7a4_1 : At cJ0_indexOf_0f7a4 1 (.iload_n 1) 1 2 := ⟨tJ0_indexOf_0f7a4_0_ok (1, .iload_n 1, 1) (List.mem_of_getElem? (i := 1) rfl), rfl⟩
theorem pJ0_indexOf_0f7a4_2 : At cJ0_indexOf_0f7a4 2 (.iconst 0) 1 3 := ⟨tJ0_indexOf_0f7a4_0_ok (2, .iconst 0, 1) (List.mem_of_getElem? (i := 2) rfl), rfl⟩
theorem pJ0_indexOf_0f7a4_3 : At cJ0_indexOf_0f7a4 3 (.invokevirtual 633) 3 6 := ⟨tJ0_indexOf_0f7a4_0_ok (3, .invokevirtual 633, 3) (List.mem_of_getElem? (i := 3) rfl), rfl⟩
theorem pJ0_indexOf_0f7a4_6 : At cJ0_indexOf_0f7a4 6 (.ireturn) 1 7 := ⟨tJ0_indexOf_0f7a4_0_ok (6, .ireturn, 1) (List.mem_of_getElem? (i := 4) rfl), rfl⟩
def tJ7_fill_031fb_0 : List (Nat × Instr × Nat) := [(0, .iconst 0, 1), (1, .istore_n 2, 1), (2, .aload_n 0, 1), (3, .arraylength, 1), (4, .istore_n 3, 1), (5, .iload_n 2, 1), (6, .iload_n 3, 1), (7, .if_icmp .ge 13, 3), (10, .aload_n 0, 1), (11, .iload_n 2, 1), (12, .iload_n 1, 1), (13, .bastore, 1), (14, .iinc 2 1, 3), (17, .goto (-12), 3), (20, .return_, 1)]
theorem tJ7_fill_031fb_0_ok : ∀ q ∈ tJ7_fill_031fb_0, decode cJ7_fill_031fb q.1 = .ok (q.2.1, q.2.2) := by decide +kernel
theorem pJ7_fill_031fb_0 : At cJ7_fill_031fb 0 (.iconst 0) 1 1 := ⟨tJ7_fill_031fb_0_ok (0, .iconst 0, 1) (List.mem_of_getElem? (i := 0) rfl), rfl⟩
theorem pJ7_fill_031fb_1 : At cJ7_fill_031fb 1 (.istore_n 2) 1 2 := ⟨tJ7_fill_031fb_0_ok (1, .istore_n 2, 1) (List.mem_of_getElem? (i := 1) rfl), rfl⟩
theorem pJ7_fill_031fb_2 : At cJ7_fill_031fb 2 (.aload_n 0) 1 3 := ⟨tJ7_fill_031fb_0_ok (2, .aload_n 0, 1) (List.mem_of_getElem? (i := 2) rfl), rfl⟩
theorem pJ7_fill_031fb_3 : At cJ7_fill_031fb 3 (.arraylength) 1 4 := ⟨tJ7_fill_031fb_0_ok (3, .arraylength, 1) (List.mem_of_getElem? (i := 3) rfl), rfl⟩
theorem pJ7_fill_031fb_4 : At cJ7_fill_031fb 4 (.istore_n 3) 1 5 := ⟨tJ7_fill_031fb_0_ok (4, .istore_n 3, 1) (List.mem_of_getElem? (i := 4) rfl), rfl⟩
theorem pJ7_fill_031fb_5 : At cJ7_fill_031fb 5 (.iload_n 2) 1 6 := ⟨tJ7_fill_031fb_0_ok (5, .iload_n 2, 1) (List.mem_of_getElem? (i := 5) rfl), rfl⟩
theorem pJ7_fill_031fb_6 : At cJ7_fill_031fb 6 (.iload_n 3) 1 7 := ⟨tJ7_fill_031fb_0_ok (6, .iload_n 3, 1) (List.mem_of_getElem? (i := 6) rfl), rfl⟩
theorem pJ7_fill_031fb_7 : Bt cJ7_fill_031fb 7 (.if_icmp .ge 13) 13 20 10 := ⟨tJ7_fill_031fb_0_ok (7, .if_icmp .ge 13, 3) (List.mem_of_getElem? (i := 7) rfl), by decide, rfl⟩
theorem pJ7_fill_031fb_10 : At cJ7_fill_031fb 10 (.aload_n 0) 1 11 := ⟨tJ7_fill_031fb_0_ok (10, .aload_n 0, 1) (List.mem_of_getElem? (i := 8) rfl), rfl⟩
theorem pJ7_fill_031fb_11 : At cJ7_fill_031fb 11 (.iload_n 2) 1 12 := ⟨tJ7_fill_031fb_0_ok (11, .iload_n 2, 1) (List.mem_of_getElem? (i := 9) rfl), rfl⟩
theorem pJ7_fill_031fb_12 : At cJ7_fill_031fb 12 (.iload_n 1) 1 13 := ⟨tJ7_fill_031fb_0_ok (12, .iload_n 1, 1) (List.mem_of_getElem? (i := 10) rfl), rfl⟩
theorem pJ7_fill_031fb_13 : At cJ7_fill_031fb 13 (.bastore) 1 14 := ⟨tJ7_fill_031fb_0_ok (13, .bastore, 1) (List.mem_of_getElem? (i := 11) rfl), rfl⟩
theorem pJ7_fill_031fb_14 : At cJ7_fill_031fb 14 (.iinc 2 1) 3 17 := ⟨tJ7_fill_031fb_0_ok (14, .iinc 2 1, 3) (List.mem_of_getElem? (i := 12) rfl), rfl⟩
theorem pJ7_fill_031fb_17 : Bt cJ7_fill_031fb 17 (.goto (-12)) (-12) 5 20 := ⟨tJ7_fill_031fb_0_ok (17, .goto (-12), 3) (List.mem_of_getElem? (i := 13) rfl), by decide, rfl⟩
theorem pJ7_fill_031fb_20 : At cJ7_fill_031fb 20 (.return_) 1 21 := ⟨tJ7_fill_031fb_0_ok (20, .return_, 1) (List.mem_of_getElem? (i := 14) rfl), rfl⟩
def tJ7_fill_53178_0 : List (Nat × Instr × Nat) := [(0, .iconst 0, 1), (1, .istore_n 2, 1), (2, .aload_n 0, 1), (3, .arraylength, 1), (4, .istore_n 3, 1), (5, .iload_n 2, 1), (6, .iload_n 3, 1), (7, .if_icmp .ge 13, 3), (10, .aload_n 0, 1), (11, .iload_n 2, 1), (12, .iload_n 1, 1), (13, .iastore, 1), (14, .iinc 2 1, 3), (17, .goto (-12), 3), (20, .return_, 1)]
theorem tJ7_fill_53178_0_ok : ∀ q ∈ tJ7_fill_53178_0, decode cJ7_fill_53178 q.1 = .ok (q.2.1, q.2.2) := by decide +kernel
theorem pJ7_fill_53178_0 : At cJ7_fill_53178 0 (.iconst 0) 1 1 := ⟨tJ7_fill_53178_0_ok (0, .iconst 0, 1) (List.mem_of_getElem? (i := 0) rfl), rfl⟩
theorem pJ7_fill_53178_1 : At cJ7_fill_53178 1 (.istore_n 2) 1 2 := ⟨tJ7_fill_53178_0_ok (1, .istore_n 2, 1) (List.mem_of_getElem? (i := 1) rfl), rfl⟩
theorem pJ7_fill_53178_2 : At cJ7_fill_53178 2 (.aload_n 0) 1 3 := ⟨tJ7_fill_53178_0_ok (2, .aload_n 0, 1) (List.mem_of_getElem? (i := 2) rfl), rfl⟩
theorem pJ7_fill_53178_3 : At cJ7_fill_53178 3 (.arraylength) 1 4 := ⟨tJ7_fill_53178_0_ok (3, .arraylength, 1) (List.mem_of_getElem? (i := 3) rfl), rfl⟩
theorem pJ7_fill_53178_4 : At cJ7_fill_53178 4 (.istore_n 3) 1 5 := ⟨tJ7_fill_53178_0_ok (4, .istore_n 3, 1) (List.mem_of_getElem? (i := 4) rfl), rfl⟩
theorem pJ7_fill_53178_5 : At cJ7_fill_53178 5 (.iload_n 2) 1 6 := ⟨tJ7_fill_53178_0_ok (5, .iload_n 2, 1) (List.mem_of_getElem? (i := 5) rfl), rfl⟩
theorem pJ7_fill_53178_6 : At cJ7_fill_53178 6 (.iload_n 3) 1 7 := ⟨tJ7_fill_53178_0_ok (6, .iload_n 3, 1) (List.mem_of_getElem? (i := 6) rfl), rfl⟩
theorem pJ7_fill_53178_7 : Bt cJ7_fill_53178 7 (.if_icmp .ge 13) 13 20 10 := ⟨tJ7_fill_53178_0_ok (7, .if_icmp .ge 13, 3) (List.mem_of_getElem? (i := 7) rfl), by decide, rfl⟩
theorem pJ7_fill_53178_10 : At cJ7_fill_53178 10 (.aload_n 0) 1 11 := ⟨tJ7_fill_53178_0_ok (10, .aload_n 0, 1) (List.mem_of_getElem? (i := 8) rfl), rfl⟩
theorem pJ7_fill_53178_11 : At cJ7_fill_53178 11 (.iload_n 2) 1 12 := ⟨tJ7_fill_53178_0_ok (11, .iload_n 2, 1) (List.mem_of_getElem? (i := 9) rfl), rfl⟩
theorem pJ7_fill_53178_12 : At cJ7_fill_53178 12 (.iload_n 1) 1 13 := ⟨tJ7_fill_53178_0_ok (12, .iload_n 1, 1) (List.mem_of_getElem? (i := 10) rfl), rfl⟩
theorem pJ7_fill_53178_13 : At cJ7_fill_53178 13 (.iastore) 1 14 := ⟨tJ7_fill_53178_0_ok (13, .iastore, 1) (List.mem_of_getElem? (i := 11) rfl), rfl⟩
theorem pJ7_fill_53178_14 : At cJ7_fill_53178 14 (.iinc 2 1) 3 17 := ⟨tJ7_fill_53178_0_ok (14, .iinc 2 1, 3) (List.mem_of_getElem? (i := 12) rfl), rfl⟩
theorem pJ7_fill_53178_17 : Bt cJ7_fill_53178 17 (.goto (-12)) (-12) 5 20 := ⟨tJ7_fill_53178_0_ok (17, .goto (-12), 3) (List.mem_of_getElem? (i := 13) rfl), by decide, rfl⟩
theorem pJ7_fill_53178_20 : At cJ7_fill_53178 20 (.return_) 1 21 := ⟨tJ7_fill_53178_0_ok (20, .return_, 1) (List.mem_of_getElem? (i := 14) rfl), rfl⟩
def tJ9_abs_0f7a4_0 : List (Nat × Instr × Nat) := [(0, .iload_n 0, 1), (1, .ifCond .ge 8, 3), (4, .iload_n 0, 1), (5, .ineg, 1), (6, .goto 4, 3), (9, .iload_n 0, 1), (10, .ireturn, 1)]
theorem tJ9_abs_0f7a4_0_ok : ∀ q ∈ tJ9_abs_0f7a4_0, decode cJ9_abs_0f7a4 q.1 = .ok (q.2.1, q.2.2) := by decide +kernel
theorem pJ9_abs_0f7a4_0 : At cJ9_abs_0f7a4 0 (.iload_n 0) 1 1 := ⟨tJ9_abs_0f7a4_0_ok (0, .iload_n 0, 1) (List.mem_of_getElem? (i := 0) rfl), rfl⟩
theorem pJ9_abs_0f7a4_1 : Bt cJ9_abs_0f7a4 1 (.ifCond .ge 8) 8 9 4 := ⟨tJ9_abs_0f7a4_0_ok (1, .ifCond .ge 8, 3) (List.mem_of_getElem? (i := 1) rfl), by decide, rfl⟩
theorem pJ9_abs_0f7a4_4 : At cJ9_abs_0f7a4 4 (.iload_n 0) 1 5 := ⟨tJ9_abs_0f7a4_0_ok (4, .iload_n 0, 1) (List.mem_of_getElem? (i := 2) rfl), rfl⟩
theorem pJ9_abs_0f7a4_5 : At cJ9_abs_0f7a4 5 (.ineg) 1 6 := ⟨tJ9_abs_0f7a4_0_ok (5, .ineg, 1) (List.mem_of_getElem? (i := 3) rfl), rfl⟩
theorem pJ9_abs_0f7a4_6 : Bt cJ9_abs_0f7a4 6 (.goto 4) 4 10 9 := ⟨tJ9_abs_0f7a4_0_ok (6, .goto 4, 3) (List.mem_of_getElem? (i := 4) rfl), by decide, rfl⟩
theorem pJ9_abs_0f7a4_9 : At cJ9_abs_0f7a4 9 (.iload_n 0) 1 10 := ⟨tJ9_abs_0f7a4_0_ok (9, .iload_n 0, 1) (List.mem_of_getElem? (i := 5) rfl), rfl⟩
theorem pJ9_abs_0f7a4_10 : At cJ9_abs_0f7a4 10 (.ireturn) 1 11 := ⟨tJ9_abs_0f7a4_0_ok (10, .ireturn, 1) (List.mem_of_getElem? (i := 6) rfl), rfl⟩
def tJ6_bitCount_0f7a4_0 : List (Nat × Instr × Nat) := [(0, .iload_n 0, 1), (1, .iload_n 0, 1), (2, .iconst 1, 1), (3, .iushr, 1), (4, .ldc_w 265, 3), (7, .iand, 1), (8, .isub, 1), (9, .istore_n 0, 1), (10, .iload_n 0, 1), (11, .ldc_w 266, 3), (14, .iand, 1), (15, .iload_n 0, 1), (16, .iconst 2, 1), (17, .iushr, 1), (18, .ldc_w 266, 3), (21, .iand, 1), (22, .iadd, 1), (23, .istore_n 0, 1), (24, .iload_n 0, 1), (25, .iload_n 0, 1), (26, .iconst 4, 1), (27, .iushr, 1), (28, .iadd, 1), (29, .ldc_w 267, 3), (32, .iand, 1), (33, .istore_n 0, 1), (34, .iload_n 0, 1), (35, .iload_n 0, 1), (36, .bipush 8, 2), (38, .iushr, 1), (39, .iadd, 1), (40, .istore_n 0, 1), (41, .iload_n 0, 1), (42, .iload_n 0, 1), (43, .bipush 16, 2), (45, .iushr, 1), (46, .iadd, 1), (47, .istore_n 0, 1), (48, .iload_n 0, 1), (49, .bipush 63, 2), (51, .iand, 1), (52, .ireturn, 1)]
theorem tJ6_bitCount_0f7a4_0_ok : ∀ q ∈ tJ6_bitCount_0f7a4_0, decode cJ6_bitCount_0f7a4 q.1 = .ok (q.2.1, q.2.2) := by decide +kernel
theorem pJ6_bitCount_0f7a4_0 : At cJ6_bitCount_0f7a4 0 (.iload_n 0) 1 1 := ⟨tJ6_bitCount_0f7a4_0_ok (0, .iload_n 0, 1) (List.mem_of_getElem? (i := 0) rfl), rfl⟩
theorem pJ6_bitCount_0f7a4_1 : At cJ6_bitCount_0f7a4 1 (.iload_n 0) 1 2 := ⟨tJ6_bitCount_0f7a4_0_ok (1, .iload_n 0, 1) (List.mem_of_getElem? (i := 1) rfl), rfl⟩
theorem pJ6_bitCount_0f7a4_2 : At cJ6_bitCount_0f7a4 2 (.iconst 1) 1 3 := ⟨tJ6_bitCount_0f7a4_0_ok (2, .iconst 1, 1) (List.mem_of_getElem? (i := 2) rfl), rfl⟩
theorem pJ6_bitCount_0f7a4_3 : At cJ6_bitCount_0f7a4 3 (.iushr) 1 4 := ⟨tJ6_bitCount_0f7a4_0_ok (3, .iushr, 1) (List.mem_of_getElem? (i := 3) rfl), rfl⟩
theorem pJ6_bitCount_0f7a4_4 : At cJ6_bitCount_0f7a4 4 (.ldc_w 265) 3 7 := ⟨tJ6_bitCount_0f7a4_0_ok (4, .ldc_w 265, 3) (List.mem_of_getElem? (i := 4) rfl), rfl⟩
theorem pJ6_bitCount_0f7a4_7 : At cJ6_bitCount_0f7a4 7 (.iand) 1 8 := ⟨tJ6_bitCount_0f7a4_0_ok (7, .iand, 1) (List.mem_of_getElem? (i := 5) rfl), rfl⟩
theorem pJ6_bitCount_0f7a4_8 : At cJ6_bitCount_0f7a4 8 (.isub) 1 9 := ⟨tJ6_bitCount_0f7a4_0_ok (8, .isub, 1) (List.mem_of_getElem? (i := 6) rfl), rfl⟩
theorem pJ6_bitCount_0f7a4_9 : At cJ6_bitCount_0f7a4 9 (.istore_n 0) 1 10 := ⟨tJ6_bitCount_0f7a4_0_ok (9, .istore_n 0, 1) (List.mem_of_getElem? (i := 7) rfl), rfl⟩
theorem pJ6_bitCount_0f7a4_10 : At cJ6_bitCount_0f7a4 10 (.iload_n 0) 1 11 := ⟨tJ6_bitCount_0f7a4_0_ok (10, .iload_n 0, 1) (List.mem_of_getElem? (i := 8) rfl), rfl⟩
theorem pJ6_bitCount_0f7a4_11 : At cJ6_bitCount_0f7a4 11 (.ldc_w 266) 3 14 := ⟨tJ6_bitCount_0f7a4_0_ok (11, .ldc_w 266, 3) (List.mem_of_getElem? (i := 9) rfl), rfl⟩
theorem pJ6_bitCount_0f7a4_14 : At cJ6_bitCount_0f7a4 14 (.iand) 1 15 := ⟨tJ6_bitCount_0f7a4_0_ok (14, .iand, 1) (List.mem_of_getElem? (i := 10) rfl), rfl⟩
theorem pJ6_bitCount_0f7a4_15 : At cJ6_bitCount_0f7a4 15 (.iload_n 0) 1 16 := ⟨tJ6_bitCount_0f7a4_0_ok (15, .iload_n 0, 1) (List.mem_of_getElem? (i := 11) rfl), rfl⟩
theorem pJ6_bitCount_0f7a4_16 : At cJ6_bitCount_0f7a4 16 (.iconst 2) 1 17 := ⟨tJ6_bitCount_0f7a4_0_ok (16, .iconst 2, 1) (List.mem_of_getElem? (i := 12) rfl), rfl⟩
theorem pJ6_bitCount_0f7a4_17 : At cJ6_bitCount_0f7a4 17 (.iushr) 1 18 := ⟨tJ6_bitCount_0f7a4_0_ok (17, .iushr, 1) (List.mem_of_getElem? (i := 13) rfl), rfl⟩
theorem pJ6_bitCount_0f7a4_18 : At cJ6_bitCount_0f7a4 18 (.ldc_w 266) 3 21 := ⟨tJ6_bitCount_0f7a4_0_ok (18, .ldc_w 266, 3) (List.mem_of_getElem? (i := 14) rfl), rfl⟩
theorem pJ6_bitCount_0f7a4_21 : At cJ6_bitCount_0f7a4 21 (.iand) 1 22 := ⟨tJ6_bitCount_0f7a4_0_ok (21, .iand, 1) (List.mem_of_getElem? (i := 15) rfl), rfl⟩
theorem pJ6_bitCount_0f7a4_22 : At cJ6_bitCount_0f7a4 22 (.iadd) 1 23 := ⟨tJ6_bitCount_0f7a4_0_ok (22, .iadd, 1) (List.mem_of_getElem? (i := 16) rfl), rfl⟩
theorem pJ6_bitCount_0f7a4_23 : At cJ6_bitCount_0f7a4 23 (.istore_n 0) 1 24 := ⟨tJ6_bitCount_0f7a4_0_ok (23, .istore_n 0, 1) (List.mem_of_getElem? (i := 17) rfl), rfl⟩
theorem pJ6_bitCount_0f7a4_24 : At cJ6_bitCount_0f7a4 24 (.iload_n 0) 1 25 := ⟨tJ6_bitCount_0f7a4_0_ok (24, .iload_n 0, 1) (List.mem_of_getElem? (i := 18) rfl), rfl⟩
theorem pJ6_bitCount_0f7a4_25 : At cJ6_bitCount_0f7a4 25 (.iload_n 0) 1 26 := ⟨tJ6_bitCount_0f7a4_0_ok (25, .iload_n 0, 1) (List.mem_of_getElem? (i := 19) rfl), rfl⟩
theorem pJ6_bitCount_0f7a4_26 : At cJ6_bitCount_0f7a4 26 (.iconst 4) 1 27 := ⟨tJ6_bitCount_0f7a4_0_ok (26, .iconst 4, 1) (List.mem_of_getElem? (i := 20) rfl), rfl⟩
theorem pJ6_bitCount_0f7a4_27 : At cJ6_bitCount_0f7a4 27 (.iushr) 1 28 := ⟨tJ6_bitCount_0f7a4_0_ok (27, .iushr, 1) (List.mem_of_getElem? (i := 21) rfl), rfl⟩
theorem pJ6_bitCount_0f7a4_28 : At cJ6_bitCount_0f7a4 28 (.iadd) 1 29 := ⟨tJ6_bitCount_0f7a4_0_ok (28, .iadd, 1) (List.mem_of_getElem? (i := 22) rfl), rfl⟩
theorem pJ6_bitCount_0f7a4_29 : At cJ6_bitCount_0f7a4 29 (.ldc_w 267) 3 32 := ⟨tJ6_bitCount_0f7a4_0_ok (29, .ldc_w 267, 3) (List.mem_of_getElem? (i := 23) rfl), rfl⟩
theorem pJ6_bitCount_0f7a4_32 : At cJ6_bitCount_0f7a4 32 (.iand) 1 33 := ⟨tJ6_bitCount_0f7a4_0_ok (32, .iand, 1) (List.mem_of_getElem? (i := 24) rfl), rfl⟩
theorem pJ6_bitCount_0f7a4_33 : At cJ6_bitCount_0f7a4 33 (.istore_n 0) 1 34 := ⟨tJ6_bitCount_0f7a4_0_ok (33, .istore_n 0, 1) (List.mem_of_getElem? (i := 25) rfl), rfl⟩
theorem pJ6_bitCount_0f7a4_34 : At cJ6_bitCount_0f7a4 34 (.iload_n 0) 1 35 := ⟨tJ6_bitCount_0f7a4_0_ok (34, .iload_n 0, 1) (List.mem_of_getElem? (i := 26) rfl), rfl⟩
theorem pJ6_bitCount_0f7a4_35 : At cJ6_bitCount_0f7a4 35 (.iload_n 0) 1 36 := ⟨tJ6_bitCount_0f7a4_0_ok (35, .iload_n 0, 1) (List.mem_of_getElem? (i := 27) rfl), rfl⟩
theorem pJ6_bitCount_0f7a4_36 : At cJ6_bitCount_0f7a4 36 (.bipush 8) 2 38 := ⟨tJ6_bitCount_0f7a4_0_ok (36, .bipush 8, 2) (List.mem_of_getElem? (i := 28) rfl), rfl⟩
theorem pJ6_bitCount_0f7a4_38 : At cJ6_bitCount_0f7a4 38 (.iushr) 1 39 := ⟨tJ6_bitCount_0f7a4_0_ok (38, .iushr, 1) (List.mem_of_getElem? (i := 29) rfl), rfl⟩
theorem pJ6_bitCount_0f7a4_39 : At cJ6_bitCount_0f7a4 39 (.iadd) 1 40 := ⟨tJ6_bitCount_0f7a4_0_ok (39, .iadd, 1) (List.mem_of_getElem? (i := 30) rfl), rfl⟩
theorem pJ6_bitCount_0f7a4_40 : At cJ6_bitCount_0f7a4 40 (.istore_n 0) 1 41 := ⟨tJ6_bitCount_0f7a4_0_ok (40, .istore_n 0, 1) (List.mem_of_getElem? (i := 31) rfl), rfl⟩
theorem pJ6_bitCount_0f7a4_41 : At cJ6_bitCount_0f7a4 41 (.iload_n 0) 1 42 := ⟨tJ6_bitCount_0f7a4_0_ok (41, .iload_n 0, 1) (List.mem_of_getElem? (i := 32) rfl), rfl⟩
theorem pJ6_bitCount_0f7a4_42 : At cJ6_bitCount_0f7a4 42 (.iload_n 0) 1 43 := ⟨tJ6_bitCount_0f7a4_0_ok (42, .iload_n 0, 1) (List.mem_of_getElem? (i := 33) rfl), rfl⟩
theorem pJ6_bitCount_0f7a4_43 : At cJ6_bitCount_0f7a4 43 (.bipush 16) 2 45 := ⟨tJ6_bitCount_0f7a4_0_ok (43, .bipush 16, 2) (List.mem_of_getElem? (i := 34) rfl), rfl⟩
theorem pJ6_bitCount_0f7a4_45 : At cJ6_bitCount_0f7a4 45 (.iushr) 1 46 := ⟨tJ6_bitCount_0f7a4_0_ok (45, .iushr, 1) (List.mem_of_getElem? (i := 35) rfl), rfl⟩
theorem pJ6_bitCount_0f7a4_46 : At cJ6_bitCount_0f7a4 46 (.iadd) 1 47 := ⟨tJ6_bitCount_0f7a4_0_ok (46, .iadd, 1) (List.mem_of_getElem? (i := 36) rfl), rfl⟩
theorem pJ6_bitCount_0f7a4_47 : At cJ6_bitCount_0f7a4 47 (.istore_n 0) 1 48 := ⟨tJ6_bitCount_0f7a4_0_ok (47, .istore_n 0, 1) (List.mem_of_getElem? (i := 37) rfl), rfl⟩
theorem pJ6_bitCount_0f7a4_48 : At cJ6_bitCount_0f7a4 48 (.iload_n 0) 1 49 := ⟨tJ6_bitCount_0f7a4_0_ok (48, .iload_n 0, 1) (List.mem_of_getElem? (i := 38) rfl), rfl⟩
theorem pJ6_bitCount_0f7a4_49 : At cJ6_bitCount_0f7a4 49 (.bipush 63) 2 51 := ⟨tJ6_bitCount_0f7a4_0_ok (49, .bipush 63, 2) (List.mem_of_getElem? (i := 39) rfl), rfl⟩
theorem pJ6_bitCount_0f7a4_51 : At cJ6_bitCount_0f7a4 51 (.iand) 1 52 := ⟨tJ6_bitCount_0f7a4_0_ok (51, .iand, 1) (List.mem_of_getElem? (i := 40) rfl), rfl⟩
theorem pJ6_bitCount_0f7a4_52 : At cJ6_bitCount_0f7a4 52 (.ireturn) 1 53 := ⟨tJ6_bitCount_0f7a4_0_ok (52, .ireturn, 1) (List.mem_of_getElem? (i := 41) rfl), rfl⟩
