/-! CODE of the methods, by number: pc, instruction, length (printed of the program). -/
def code_46_0 : List (Nat × Instr × Nat) := [(0, .iconst 0, 1), (1, .istore_n 2, 1), (2, .iconst 1, 1), (3, .istore_n 3, 1), (4, .iconst 0, 1), (5, .istore 4, 2), (7, .iload 4, 2), (9, .aload_n 0, 1), (10, .getfield 82, 3), (13, .if_icmp .ge 40, 3), (16, .aload_n 0, 1), (17, .iload 4, 2), (19, .invokevirtual 92, 3), (22, .ifCond .eq 25, 3), (25, .iload_n 2, 1), (26, .iload_n 1, 1), (27, .iload 4, 2), (29, .ishr, 1), (30, .iconst 1, 1), (31, .iand, 1), (32, .iconst 1, 1), (33, .if_icmp .ne 7, 3), (36, .iload_n 3, 1), (37, .goto 4, 3), (40, .iconst 0, 1), (41, .ior, 1), (42, .istore_n 2, 1), (43, .iload_n 3, 1), (44, .iconst 1, 1), (45, .ishl, 1), (46, .istore_n 3, 1), (47, .iinc 4 1, 3), (50, .goto (-43), 3), (53, .iload_n 2, 1), (54, .ireturn, 1)]
theorem okc_46_0 : ∀ e ∈ code_46_0, decode (mB 46) e.1 = .ok (e.2.1, e.2.2) := by decide +kernel
def code_46 : List (Nat × Instr × Nat) := code_46_0
theorem okc_46 : ∀ e ∈ code_46, decode (mB 46) e.1 = .ok (e.2.1, e.2.2) := okc_46_0
def code_47_0 : List (Nat × Instr × Nat) := [(0, .iconst 0, 1), (1, .istore_n 2, 1), (2, .iload_n 2, 1), (3, .aload_n 0, 1), (4, .iload_n 1, 1), (5, .invokevirtual 74, 3), (8, .if_icmp .ge 20, 3), (11, .aload_n 0, 1), (12, .iload_n 1, 1), (13, .iload_n 2, 1), (14, .invokevirtual 67, 3), (17, .ifCond .ne 5, 3), (20, .iconst 1, 1), (21, .ireturn, 1), (22, .iinc 2 1, 3), (25, .goto (-23), 3), (28, .iconst 0, 1), (29, .ireturn, 1)]
theorem okc_47_0 : ∀ e ∈ code_47_0, decode (mB 47) e.1 = .ok (e.2.1, e.2.2) := by decide +kernel
def code_47 : List (Nat × Instr × Nat) := code_47_0
theorem okc_47 : ∀ e ∈ code_47, decode (mB 47) e.1 = .ok (e.2.1, e.2.2) := okc_47_0
def code_48_0 : List (Nat × Instr × Nat) := [(0, .iload_n 1, 1), (1, .ifCond .lt 20, 3), (4, .iload_n 1, 1), (5, .aload_n 0, 1), (6, .getfield 37, 3), (9, .if_icmp .ge 12, 3), (12, .aload_n 0, 1), (13, .getfield 21, 3), (16, .iload_n 1, 1), (17, .iaload, 1), (18, .goto 4, 3), (21, .iconst 0, 1), (22, .ireturn, 1)]
theorem okc_48_0 : ∀ e ∈ code_48_0, decode (mB 48) e.1 = .ok (e.2.1, e.2.2) := by decide +kernel
def code_48 : List (Nat × Instr × Nat) := code_48_0
theorem okc_48 : ∀ e ∈ code_48, decode (mB 48) e.1 = .ok (e.2.1, e.2.2) := okc_48_0
def code_49_0 : List (Nat × Instr × Nat) := [(0, .aload_n 0, 1), (1, .iload_n 1, 1), (2, .iload_n 2, 1), (3, .invokevirtual 63, 3), (6, .ifCond .eq 16, 3), (9, .aload_n 0, 1), (10, .getfield 27, 3), (13, .iload_n 1, 1), (14, .iconst 3, 1), (15, .imul, 1), (16, .iload_n 2, 1), (17, .iadd, 1), (18, .iaload, 1), (19, .goto 4, 3), (22, .iconst 2, 1), (23, .ireturn, 1)]
theorem okc_49_0 : ∀ e ∈ code_49_0, decode (mB 49) e.1 = .ok (e.2.1, e.2.2) := by decide +kernel
def code_49 : List (Nat × Instr × Nat) := code_49_0
theorem okc_49 : ∀ e ∈ code_49, decode (mB 49) e.1 = .ok (e.2.1, e.2.2) := okc_49_0
def code_50_0 : List (Nat × Instr × Nat) := [(0, .iload_n 1, 1), (1, .ifCond .lt 29, 3), (4, .iload_n 1, 1), (5, .aload_n 0, 1), (6, .getfield 37, 3), (9, .if_icmp .ge 21, 3), (12, .iload_n 2, 1), (13, .ifCond .lt 17, 3), (16, .iload_n 2, 1), (17, .aload_n 0, 1), (18, .getfield 21, 3), (21, .iload_n 1, 1), (22, .iaload, 1), (23, .if_icmp .ge 7, 3), (26, .iconst 1, 1), (27, .goto 4, 3), (30, .iconst 0, 1), (31, .ireturn, 1)]
theorem okc_50_0 : ∀ e ∈ code_50_0, decode (mB 50) e.1 = .ok (e.2.1, e.2.2) := by decide +kernel
def code_50 : List (Nat × Instr × Nat) := code_50_0
theorem okc_50 : ∀ e ∈ code_50, decode (mB 50) e.1 = .ok (e.2.1, e.2.2) := okc_50_0
def code_51_0 : List (Nat × Instr × Nat) := [(0, .aload_n 0, 1), (1, .iconst 0, 1), (2, .putfield 13, 3), (5, .return_, 1)]
theorem okc_51_0 : ∀ e ∈ code_51_0, decode (mB 51) e.1 = .ok (e.2.1, e.2.2) := by decide +kernel
def code_51 : List (Nat × Instr × Nat) := code_51_0
theorem okc_51 : ∀ e ∈ code_51, decode (mB 51) e.1 = .ok (e.2.1, e.2.2) := okc_51_0
def code_52_0 : List (Nat × Instr × Nat) := [(0, .aload_n 0, 1), (1, .getfield 68, 3), (4, .ifCond .eq 14, 3), (7, .aload_n 0, 1), (8, .getfield 29, 3), (11, .iload_n 1, 1), (12, .invokevirtual 86, 3), (15, .ifCond .ne 5, 3), (18, .iconst (-1), 1), (19, .ireturn, 1), (20, .iload_n 2, 1), (21, .ifCond .ne 20, 3), (24, .aload_n 0, 1), (25, .getfield 76, 3), (28, .iload_n 1, 1), (29, .invokestatic 90, 3), (32, .ifCond .eq 7, 3), (35, .iconst 1, 1), (36, .goto 4, 3), (39, .iconst 0, 1), (40, .ireturn, 1), (41, .iload_n 2, 1), (42, .iconst 1, 1), (43, .if_icmp .lt 20, 3), (46, .iload_n 2, 1), (47, .iconst 3, 1), (48, .if_icmp .gt 15, 3), (51, .aload_n 0, 1), (52, .getfield 29, 3), (55, .iload_n 1, 1), (56, .iload_n 2, 1), (57, .iconst 1, 1), (58, .isub, 1), (59, .invokevirtual 96, 3), (62, .ireturn, 1), (63, .iload_n 2, 1), (64, .iconst 4, 1), (65, .if_icmp .lt 21, 3), (68, .iload_n 2, 1), (69, .bipush 6, 2), (71, .if_icmp .gt 15, 3), (74, .aload_n 0, 1), (75, .getfield 76, 3), (78, .iload_n 2, 1), (79, .iconst 4, 1), (80, .isub, 1), (81, .iload_n 1, 1), (82, .invokestatic 100, 3)]
theorem okc_52_0 : ∀ e ∈ code_52_0, decode (mB 52) e.1 = .ok (e.2.1, e.2.2) := by decide +kernel
def code_52_1 : List (Nat × Instr × Nat) := [(85, .ireturn, 1), (86, .iload_n 2, 1), (87, .bipush 7, 2), (89, .if_icmp .ne 19, 3), (92, .aload_n 0, 1), (93, .getfield 29, 3), (96, .iload_n 1, 1), (97, .aload_n 0, 1), (98, .getfield 76, 3), (101, .iload_n 1, 1), (102, .invokevirtual 104, 3), (105, .goto 4, 3), (108, .iconst (-1), 1), (109, .ireturn, 1)]
theorem okc_52_1 : ∀ e ∈ code_52_1, decode (mB 52) e.1 = .ok (e.2.1, e.2.2) := by decide +kernel
def code_52 : List (Nat × Instr × Nat) := code_52_0 ++ (code_52_1)
theorem okc_52 : ∀ e ∈ code_52, decode (mB 52) e.1 = .ok (e.2.1, e.2.2) := (memP_app okc_52_0 okc_52_1)
def code_53_0 : List (Nat × Instr × Nat) := [(0, .iload_n 1, 1), (1, .ifCond .lt 15, 3), (4, .iload_n 1, 1), (5, .aload_n 0, 1), (6, .getfield 33, 3), (9, .if_icmp .ge 7, 3), (12, .iconst 1, 1), (13, .goto 4, 3), (16, .iconst 0, 1), (17, .ireturn, 1)]
theorem okc_53_0 : ∀ e ∈ code_53_0, decode (mB 53) e.1 = .ok (e.2.1, e.2.2) := by decide +kernel
def code_53 : List (Nat × Instr × Nat) := code_53_0
theorem okc_53 : ∀ e ∈ code_53, decode (mB 53) e.1 = .ok (e.2.1, e.2.2) := okc_53_0
def code_54_0 : List (Nat × Instr × Nat) := [(0, .lload_n 0, 1), (1, .invokestatic 23, 3), (4, .iload_n 2, 1), (5, .ishr, 1), (6, .iconst 1, 1), (7, .iand, 1), (8, .iconst 1, 1), (9, .if_icmp .ne 7, 3), (12, .iconst 1, 1), (13, .goto 4, 3), (16, .iconst 0, 1), (17, .ireturn, 1)]
theorem okc_54_0 : ∀ e ∈ code_54_0, decode (mB 54) e.1 = .ok (e.2.1, e.2.2) := by decide +kernel
def code_54 : List (Nat × Instr × Nat) := code_54_0
theorem okc_54 : ∀ e ∈ code_54, decode (mB 54) e.1 = .ok (e.2.1, e.2.2) := okc_54_0
def code_55_0 : List (Nat × Instr × Nat) := [(0, .lload_n 0, 1), (1, .bipush 36, 2), (3, .lushr, 1), (4, .l2i, 1), (5, .bipush 7, 2), (7, .iand, 1), (8, .ireturn, 1)]
theorem okc_55_0 : ∀ e ∈ code_55_0, decode (mB 55) e.1 = .ok (e.2.1, e.2.2) := by decide +kernel
def code_55 : List (Nat × Instr × Nat) := code_55_0
theorem okc_55 : ∀ e ∈ code_55, decode (mB 55) e.1 = .ok (e.2.1, e.2.2) := okc_55_0
def code_56_0 : List (Nat × Instr × Nat) := [(0, .iload_n 1, 1), (1, .ifCond .lt 20, 3), (4, .iload_n 1, 1), (5, .aload_n 0, 1), (6, .getfield 33, 3), (9, .if_icmp .ge 12, 3), (12, .iload_n 2, 1), (13, .ifCond .lt 8, 3), (16, .iload_n 2, 1), (17, .iconst 3, 1), (18, .if_icmp .lt 5, 3), (21, .iconst 0, 1), (22, .ireturn, 1), (23, .aload_n 0, 1), (24, .getfield 17, 3), (27, .iload_n 1, 1), (28, .iconst 3, 1), (29, .imul, 1), (30, .iload_n 2, 1), (31, .iadd, 1), (32, .iaload, 1), (33, .ireturn, 1)]
theorem okc_56_0 : ∀ e ∈ code_56_0, decode (mB 56) e.1 = .ok (e.2.1, e.2.2) := by decide +kernel
def code_56 : List (Nat × Instr × Nat) := code_56_0
theorem okc_56 : ∀ e ∈ code_56, decode (mB 56) e.1 = .ok (e.2.1, e.2.2) := okc_56_0
def code_57_0 : List (Nat × Instr × Nat) := [(0, .lload_n 0, 1), (1, .bipush 12, 2), (3, .iload_n 2, 1), (4, .imul, 1), (5, .iconst 3, 1), (6, .iload_n 3, 1), (7, .imul, 1), (8, .iadd, 1), (9, .lushr, 1), (10, .l2i, 1), (11, .bipush 7, 2), (13, .iand, 1), (14, .ireturn, 1)]
theorem okc_57_0 : ∀ e ∈ code_57_0, decode (mB 57) e.1 = .ok (e.2.1, e.2.2) := by decide +kernel
def code_57 : List (Nat × Instr × Nat) := code_57_0
theorem okc_57 : ∀ e ∈ code_57, decode (mB 57) e.1 = .ok (e.2.1, e.2.2) := okc_57_0
def code_58_0 : List (Nat × Instr × Nat) := [(0, .iload_n 1, 1), (1, .ifCond .lt 11, 3), (4, .iload_n 1, 1), (5, .aload_n 0, 1), (6, .getfield 33, 3), (9, .if_icmp .lt 5, 3), (12, .iconst 0, 1), (13, .ireturn, 1), (14, .iload_n 1, 1), (15, .iconst 3, 1), (16, .imul, 1), (17, .istore 5, 2), (19, .lload_n 2, 1), (20, .iconst 3, 1), (21, .iload 4, 2), (23, .imul, 1), (24, .lushr, 1), (25, .lstore 6, 2), (27, .iconst 0, 1), (28, .istore 8, 2), (30, .iconst 0, 1), (31, .istore 9, 2), (33, .iload 9, 2), (35, .iconst 3, 1), (36, .if_icmp .ge 38, 3), (39, .iload 8, 2), (41, .aload_n 0, 1), (42, .getfield 17, 3), (45, .iload 5, 2), (47, .iload 9, 2), (49, .iadd, 1), (50, .iaload, 1), (51, .lload 6, 2), (53, .l2i, 1), (54, .bipush 7, 2), (56, .iand, 1), (57, .imul, 1), (58, .iadd, 1), (59, .istore 8, 2), (61, .lload 6, 2), (63, .bipush 12, 2), (65, .lushr, 1), (66, .lstore 6, 2), (68, .iinc 9 1, 3), (71, .goto (-38), 3), (74, .iload 8, 2), (76, .ireturn, 1)]
theorem okc_58_0 : ∀ e ∈ code_58_0, decode (mB 58) e.1 = .ok (e.2.1, e.2.2) := by decide +kernel
def code_58 : List (Nat × Instr × Nat) := code_58_0
theorem okc_58 : ∀ e ∈ code_58, decode (mB 58) e.1 = .ok (e.2.1, e.2.2) := okc_58_0
def code_59_0 : List (Nat × Instr × Nat) := [(0, .aload_n 0, 1), (1, .getfield 68, 3), (4, .ifCond .eq 15, 3), (7, .aload_n 0, 1), (8, .getfield 29, 3), (11, .iload_n 1, 1), (12, .iload_n 2, 1), (13, .invokevirtual 108, 3), (16, .ifCond .ne 5, 3), (19, .iconst (-1), 1), (20, .ireturn, 1), (21, .iload_n 3, 1), (22, .tableswitch 56 0 2 #[26, 36, 46], 26), (48, .aload_n 0, 1), (49, .getfield 29, 3), (52, .iload_n 1, 1), (53, .iload_n 2, 1), (54, .invokevirtual 112, 3), (57, .ireturn, 1), (58, .aload_n 0, 1), (59, .getfield 29, 3), (62, .iload_n 1, 1), (63, .iload_n 2, 1), (64, .invokevirtual 115, 3), (67, .ireturn, 1), (68, .aload_n 0, 1), (69, .getfield 29, 3), (72, .iload_n 1, 1), (73, .iload_n 2, 1), (74, .invokevirtual 118, 3), (77, .ireturn, 1), (78, .iconst (-1), 1), (79, .ireturn, 1)]
theorem okc_59_0 : ∀ e ∈ code_59_0, decode (mB 59) e.1 = .ok (e.2.1, e.2.2) := by decide +kernel
def code_59 : List (Nat × Instr × Nat) := code_59_0
theorem okc_59 : ∀ e ∈ code_59, decode (mB 59) e.1 = .ok (e.2.1, e.2.2) := okc_59_0
def code_60_0 : List (Nat × Instr × Nat) := [(0, .aload_n 0, 1), (1, .iload_n 1, 1), (2, .iload_n 2, 1), (3, .invokevirtual 63, 3), (6, .ifCond .eq 16, 3), (9, .aload_n 0, 1), (10, .getfield 24, 3), (13, .iload_n 1, 1), (14, .iconst 3, 1), (15, .imul, 1), (16, .iload_n 2, 1), (17, .iadd, 1), (18, .iaload, 1), (19, .goto 4, 3), (22, .iconst 0, 1), (23, .ireturn, 1)]
theorem okc_60_0 : ∀ e ∈ code_60_0, decode (mB 60) e.1 = .ok (e.2.1, e.2.2) := by decide +kernel
def code_60 : List (Nat × Instr × Nat) := code_60_0
theorem okc_60 : ∀ e ∈ code_60, decode (mB 60) e.1 = .ok (e.2.1, e.2.2) := okc_60_0
def code_61_0 : List (Nat × Instr × Nat) := [(0, .aload_n 0, 1), (1, .iload_n 1, 1), (2, .iload_n 2, 1), (3, .invokevirtual 63, 3), (6, .ifCond .eq 16, 3), (9, .aload_n 0, 1), (10, .getfield 30, 3), (13, .iload_n 1, 1), (14, .iconst 3, 1), (15, .imul, 1), (16, .iload_n 2, 1), (17, .iadd, 1), (18, .iaload, 1), (19, .goto 4, 3), (22, .iconst (-1), 1), (23, .ireturn, 1)]
theorem okc_61_0 : ∀ e ∈ code_61_0, decode (mB 61) e.1 = .ok (e.2.1, e.2.2) := by decide +kernel
def code_61 : List (Nat × Instr × Nat) := code_61_0
theorem okc_61 : ∀ e ∈ code_61, decode (mB 61) e.1 = .ok (e.2.1, e.2.2) := okc_61_0
def code_62_0 : List (Nat × Instr × Nat) := [(0, .aload_n 0, 1), (1, .getfield 76, 3), (4, .invokestatic 121, 3), (7, .istore_n 2, 1), (8, .aload_n 0, 1), (9, .getfield 68, 3), (12, .ifCond .eq 23, 3), (15, .aload_n 0, 1), (16, .getfield 41, 3), (19, .iconst (-1), 1), (20, .if_icmp .ne 15, 3), (23, .aload_n 0, 1), (24, .getfield 29, 3), (27, .iload_n 2, 1), (28, .iload_n 1, 1), (29, .invokevirtual 108, 3), (32, .ifCond .ne 5, 3), (35, .iconst (-1), 1), (36, .ireturn, 1), (37, .aload_n 0, 1), (38, .aload_n 0, 1), (39, .getfield 29, 3), (42, .iload_n 2, 1), (43, .iload_n 1, 1), (44, .invokevirtual 125, 3), (47, .putfield 41, 3), (50, .aload_n 0, 1), (51, .aload_n 0, 1), (52, .getfield 29, 3), (55, .aload_n 0, 1), (56, .getfield 76, 3), (59, .iload_n 2, 1), (60, .iload_n 1, 1), (61, .invokevirtual 128, 3), (64, .putfield 76, 3), (67, .aload_n 0, 1), (68, .getfield 76, 3), (71, .invokestatic 121, 3), (74, .ireturn, 1)]
theorem okc_62_0 : ∀ e ∈ code_62_0, decode (mB 62) e.1 = .ok (e.2.1, e.2.2) := by decide +kernel
def code_62 : List (Nat × Instr × Nat) := code_62_0
theorem okc_62 : ∀ e ∈ code_62, decode (mB 62) e.1 = .ok (e.2.1, e.2.2) := okc_62_0
def code_63_0 : List (Nat × Instr × Nat) := [(0, .lload_n 0, 1), (1, .bipush 39, 2), (3, .lushr, 1), (4, .l2i, 1), (5, .bipush 7, 2), (7, .iand, 1), (8, .ireturn, 1)]
theorem okc_63_0 : ∀ e ∈ code_63_0, decode (mB 63) e.1 = .ok (e.2.1, e.2.2) := by decide +kernel
def code_63 : List (Nat × Instr × Nat) := code_63_0
theorem okc_63 : ∀ e ∈ code_63, decode (mB 63) e.1 = .ok (e.2.1, e.2.2) := okc_63_0
def code_64_0 : List (Nat × Instr × Nat) := [(0, .aload_n 0, 1), (1, .iload_n 1, 1), (2, .iload_n 2, 1), (3, .invokevirtual 67, 3), (6, .ifCond .ne 12, 3), (9, .aload_n 0, 1), (10, .iload_n 1, 1), (11, .iload_n 2, 1), (12, .invokevirtual 71, 3), (15, .goto 4, 3), (18, .iconst (-1), 1), (19, .ireturn, 1)]
theorem okc_64_0 : ∀ e ∈ code_64_0, decode (mB 64) e.1 = .ok (e.2.1, e.2.2) := by decide +kernel
def code_64 : List (Nat × Instr × Nat) := code_64_0
theorem okc_64 : ∀ e ∈ code_64, decode (mB 64) e.1 = .ok (e.2.1, e.2.2) := okc_64_0
def code_65_0 : List (Nat × Instr × Nat) := [(0, .lload_n 1, 1), (1, .ldc2_w 88, 3), (4, .ladd, 1), (5, .lstore 5, 2), (7, .aload_n 0, 1), (8, .iload_n 3, 1), (9, .iload 4, 2), (11, .invokevirtual 67, 3), (14, .iconst 1, 1), (15, .if_icmp .ne 21, 3), (18, .lload 5, 2), (20, .lconst 1, 1), (21, .bipush 36, 2), (23, .aload_n 0, 1), (24, .iload_n 3, 1), (25, .iload 4, 2), (27, .invokevirtual 71, 3), (30, .iadd, 1), (31, .lshl, 1), (32, .lor, 1), (33, .goto 5, 3), (36, .lload 5, 2), (38, .lreturn, 1)]
theorem okc_65_0 : ∀ e ∈ code_65_0, decode (mB 65) e.1 = .ok (e.2.1, e.2.2) := by decide +kernel
def code_65 : List (Nat × Instr × Nat) := code_65_0
theorem okc_65 : ∀ e ∈ code_65, decode (mB 65) e.1 = .ok (e.2.1, e.2.2) := okc_65_0
def code_66_0 : List (Nat × Instr × Nat) := [(0, .aload_n 0, 1), (1, .getfield 41, 3), (4, .iconst (-1), 1), (5, .if_icmp .eq 25, 3), (8, .aload_n 0, 1), (9, .getfield 29, 3), (12, .aload_n 0, 1), (13, .getfield 76, 3), (16, .iload_n 1, 1), (17, .aload_n 0, 1), (18, .getfield 29, 3), (21, .getfield 132, 3), (24, .invokevirtual 135, 3), (27, .ifCond .ne 5, 3), (30, .iconst 0, 1), (31, .ireturn, 1), (32, .aload_n 0, 1), (33, .aload_n 0, 1), (34, .getfield 76, 3), (37, .aload_n 0, 1), (38, .getfield 41, 3), (41, .iload_n 1, 1), (42, .invokestatic 139, 3), (45, .putfield 76, 3), (48, .aload_n 0, 1), (49, .iconst (-1), 1), (50, .putfield 41, 3), (53, .iconst 1, 1), (54, .ireturn, 1)]
theorem okc_66_0 : ∀ e ∈ code_66_0, decode (mB 66) e.1 = .ok (e.2.1, e.2.2) := by decide +kernel
def code_66 : List (Nat × Instr × Nat) := code_66_0
theorem okc_66 : ∀ e ∈ code_66, decode (mB 66) e.1 = .ok (e.2.1, e.2.2) := okc_66_0
def code_67_0 : List (Nat × Instr × Nat) := [(0, .iload_n 3, 1), (1, .iconst 3, 1), (2, .if_icmp .ne 18, 3), (5, .lload_n 1, 1), (6, .invokestatic 90, 3), (9, .iload 4, 2), (11, .if_icmp .ge 7, 3), (14, .iconst 1, 1), (15, .goto 4, 3), (18, .iconst 0, 1), (19, .ireturn, 1), (20, .aload_n 0, 1), (21, .iload_n 3, 1), (22, .invokevirtual 94, 3), (25, .ifCond .eq 15, 3), (28, .lload_n 1, 1), (29, .iload_n 3, 1), (30, .invokestatic 98, 3), (33, .ifCond .eq 7, 3), (36, .iconst 1, 1), (37, .goto 4, 3), (40, .iconst 0, 1), (41, .ireturn, 1)]
theorem okc_67_0 : ∀ e ∈ code_67_0, decode (mB 67) e.1 = .ok (e.2.1, e.2.2) := by decide +kernel
def code_67 : List (Nat × Instr × Nat) := code_67_0
theorem okc_67 : ∀ e ∈ code_67, decode (mB 67) e.1 = .ok (e.2.1, e.2.2) := okc_67_0
def code_68_0 : List (Nat × Instr × Nat) := [(0, .lload_n 0, 1), (1, .iconst 3, 1), (2, .invokestatic 19, 3), (5, .ireturn, 1)]
theorem okc_68_0 : ∀ e ∈ code_68_0, decode (mB 68) e.1 = .ok (e.2.1, e.2.2) := by decide +kernel
def code_68 : List (Nat × Instr × Nat) := code_68_0
theorem okc_68 : ∀ e ∈ code_68, decode (mB 68) e.1 = .ok (e.2.1, e.2.2) := okc_68_0
def code_69_0 : List (Nat × Instr × Nat) := [(0, .lload_n 0, 1), (1, .iconst 0, 1), (2, .iload_n 2, 1), (3, .invokestatic 15, 3), (6, .lload_n 0, 1), (7, .iconst 1, 1), (8, .iload_n 2, 1), (9, .invokestatic 15, 3), (12, .iadd, 1), (13, .lload_n 0, 1), (14, .iconst 2, 1), (15, .iload_n 2, 1), (16, .invokestatic 15, 3), (19, .iadd, 1), (20, .ireturn, 1)]
theorem okc_69_0 : ∀ e ∈ code_69_0, decode (mB 69) e.1 = .ok (e.2.1, e.2.2) := by decide +kernel
def code_69 : List (Nat × Instr × Nat) := code_69_0
theorem okc_69 : ∀ e ∈ code_69, decode (mB 69) e.1 = .ok (e.2.1, e.2.2) := okc_69_0
def code_70_0 : List (Nat × Instr × Nat) := [(0, .lload_n 0, 1), (1, .iload_n 2, 1), (2, .iload_n 3, 1), (3, .invokestatic 11, 3), (6, .ladd, 1), (7, .lreturn, 1)]
theorem okc_70_0 : ∀ e ∈ code_70_0, decode (mB 70) e.1 = .ok (e.2.1, e.2.2) := by decide +kernel
def code_70 : List (Nat × Instr × Nat) := code_70_0
theorem okc_70 : ∀ e ∈ code_70, decode (mB 70) e.1 = .ok (e.2.1, e.2.2) := okc_70_0
def code_71_0 : List (Nat × Instr × Nat) := [(0, .lconst 1, 1), (1, .bipush 12, 2), (3, .iload_n 0, 1), (4, .imul, 1), (5, .iconst 3, 1), (6, .iload_n 1, 1), (7, .imul, 1), (8, .iadd, 1), (9, .lshl, 1), (10, .lreturn, 1)]
theorem okc_71_0 : ∀ e ∈ code_71_0, decode (mB 71) e.1 = .ok (e.2.1, e.2.2) := by decide +kernel
def code_71 : List (Nat × Instr × Nat) := code_71_0
theorem okc_71 : ∀ e ∈ code_71, decode (mB 71) e.1 = .ok (e.2.1, e.2.2) := okc_71_0
def code_72_0 : List (Nat × Instr × Nat) := [(0, .aload_n 0, 1), (1, .iload_n 1, 1), (2, .invokevirtual 142, 3), (5, .ifCond .eq 10, 3), (8, .aload_n 0, 1), (9, .invokevirtual 145, 3), (12, .ifCond .le 6, 3), (15, .ldc 149, 2), (17, .ireturn, 1), (18, .aload_n 0, 1), (19, .getfield 37, 3), (22, .iload_n 1, 1), (23, .aload_n 0, 1), (24, .getfield 29, 3), (27, .getfield 150, 3), (30, .invokevirtual 153, 3), (33, .aload_n 0, 1), (34, .getfield 76, 3), (37, .invokevirtual 157, 3), (40, .l2i, 1), (41, .ireturn, 1)]
theorem okc_72_0 : ∀ e ∈ code_72_0, decode (mB 72) e.1 = .ok (e.2.1, e.2.2) := by decide +kernel
def code_72 : List (Nat × Instr × Nat) := code_72_0
theorem okc_72 : ∀ e ∈ code_72, decode (mB 72) e.1 = .ok (e.2.1, e.2.2) := okc_72_0
def code_73_0 : List (Nat × Instr × Nat) := [(0, .aload_n 0, 1), (1, .getfield 68, 3), (4, .ifCond .eq 22, 3), (7, .iload_n 1, 1), (8, .invokestatic 163, 3), (11, .ifCond .eq 15, 3), (14, .aload_n 0, 1), (15, .getfield 41, 3), (18, .iconst (-1), 1), (19, .if_icmp .ne 7, 3), (22, .iconst 1, 1), (23, .goto 4, 3), (26, .iconst 0, 1), (27, .ireturn, 1)]
theorem okc_73_0 : ∀ e ∈ code_73_0, decode (mB 73) e.1 = .ok (e.2.1, e.2.2) := by decide +kernel
def code_73 : List (Nat × Instr × Nat) := code_73_0
theorem okc_73 : ∀ e ∈ code_73, decode (mB 73) e.1 = .ok (e.2.1, e.2.2) := okc_73_0
def code_74_0 : List (Nat × Instr × Nat) := [(0, .iload_n 0, 1), (1, .ifCond .lt 12, 3), (4, .iload_n 0, 1), (5, .iconst 3, 1), (6, .if_icmp .ge 7, 3), (9, .iconst 1, 1), (10, .goto 4, 3), (13, .iconst 0, 1), (14, .ireturn, 1)]
theorem okc_74_0 : ∀ e ∈ code_74_0, decode (mB 74) e.1 = .ok (e.2.1, e.2.2) := by decide +kernel
def code_74 : List (Nat × Instr × Nat) := code_74_0
theorem okc_74 : ∀ e ∈ code_74, decode (mB 74) e.1 = .ok (e.2.1, e.2.2) := okc_74_0
def code_75_0 : List (Nat × Instr × Nat) := [(0, .aload_n 0, 1), (1, .getfield 29, 3), (4, .getfield 228, 3), (7, .aload_n 0, 1), (8, .getfield 76, 3), (11, .invokestatic 121, 3), (14, .isub, 1), (15, .ireturn, 1)]
theorem okc_75_0 : ∀ e ∈ code_75_0, decode (mB 75) e.1 = .ok (e.2.1, e.2.2) := by decide +kernel
def code_75 : List (Nat × Instr × Nat) := code_75_0
theorem okc_75 : ∀ e ∈ code_75, decode (mB 75) e.1 = .ok (e.2.1, e.2.2) := okc_75_0
def code_76_0 : List (Nat × Instr × Nat) := [(0, .iload_n 1, 1), (1, .iconst 3, 1), (2, .imul, 1), (3, .istore_n 3, 1), (4, .iconst 0, 1), (5, .istore 4, 2), (7, .iload 4, 2), (9, .iload_n 2, 1), (10, .if_icmp .gt 33, 3), (13, .aload_n 0, 1), (14, .getfield 33, 3), (17, .iload_n 3, 1), (18, .iload 4, 2), (20, .iadd, 1), (21, .aaload, 1), (22, .getfield 60, 3), (25, .aload_n 0, 1), (26, .getfield 18, 3), (29, .invokevirtual 70, 3), (32, .ldc 74, 2), (34, .invokevirtual 75, 3), (37, .iinc 4 1, 3), (40, .goto (-33), 3), (43, .aload_n 0, 1), (44, .getfield 33, 3), (47, .iload_n 3, 1), (48, .iload_n 2, 1), (49, .iadd, 1), (50, .aaload, 1), (51, .areturn, 1)]
theorem okc_76_0 : ∀ e ∈ code_76_0, decode (mB 76) e.1 = .ok (e.2.1, e.2.2) := by decide +kernel
def code_76 : List (Nat × Instr × Nat) := code_76_0
theorem okc_76 : ∀ e ∈ code_76, decode (mB 76) e.1 = .ok (e.2.1, e.2.2) := okc_76_0
def code_77_0 : List (Nat × Instr × Nat) := [(0, .aload_n 0, 1), (1, .getfield 37, 3), (4, .aload_n 0, 1), (5, .getfield 70, 3), (8, .iconst 1, 1), (9, .iadd, 1), (10, .iaload, 1), (11, .aload_n 0, 1), (12, .getfield 37, 3), (15, .aload_n 0, 1), (16, .getfield 70, 3), (19, .iaload, 1), (20, .isub, 1), (21, .aload_n 0, 1), (22, .getfield 71, 3), (25, .imul, 1), (26, .ireturn, 1)]
theorem okc_77_0 : ∀ e ∈ code_77_0, decode (mB 77) e.1 = .ok (e.2.1, e.2.2) := by decide +kernel
def code_77 : List (Nat × Instr × Nat) := code_77_0
theorem okc_77 : ∀ e ∈ code_77, decode (mB 77) e.1 = .ok (e.2.1, e.2.2) := okc_77_0
def code_78_0 : List (Nat × Instr × Nat) := [(0, .aload_n 0, 1), (1, .getfield 13, 3), (4, .ifCond .eq 4, 3), (7, .return_, 1), (8, .iload_n 1, 1), (9, .aload_n 0, 1), (10, .getfield 9, 3), (13, .arraylength, 1), (14, .if_icmp .le 24, 3), (17, .aload_n 0, 1), (18, .iload_n 1, 1), (19, .iconst 2, 1), (20, .aload_n 0, 1), (21, .getfield 9, 3), (24, .arraylength, 1), (25, .imul, 1), (26, .iload_n 2, 1), (27, .invokestatic 17, 3), (30, .invokestatic 23, 3), (33, .newarray .long, 2), (35, .putfield 9, 3), (38, .aload_n 0, 1), (39, .getfield 9, 3), (42, .ldc2_w 26, 3), (45, .invokestatic 28, 3), (48, .aload_n 0, 1), (49, .iconst 1, 1), (50, .putfield 13, 3), (53, .return_, 1)]
theorem okc_78_0 : ∀ e ∈ code_78_0, decode (mB 78) e.1 = .ok (e.2.1, e.2.2) := by decide +kernel
def code_78 : List (Nat × Instr × Nat) := code_78_0
theorem okc_78 : ∀ e ∈ code_78, decode (mB 78) e.1 = .ok (e.2.1, e.2.2) := okc_78_0
def code_79_0 : List (Nat × Instr × Nat) := [(0, .iconst 0, 1), (1, .istore_n 3, 1), (2, .aload_n 0, 1), (3, .arraylength, 1), (4, .istore 4, 2), (6, .iload_n 3, 1), (7, .iload 4, 2), (9, .if_icmp .ge 13, 3), (12, .aload_n 0, 1), (13, .iload_n 3, 1), (14, .lload_n 1, 1), (15, .lastore, 1), (16, .iinc 3 1, 3), (19, .goto (-13), 3), (22, .return_, 1)]
theorem okc_79_0 : ∀ e ∈ code_79_0, decode (mB 79) e.1 = .ok (e.2.1, e.2.2) := by decide +kernel
def code_79 : List (Nat × Instr × Nat) := code_79_0
theorem okc_79 : ∀ e ∈ code_79, decode (mB 79) e.1 = .ok (e.2.1, e.2.2) := okc_79_0
def code_80_0 : List (Nat × Instr × Nat) := [(0, .aload_n 0, 1), (1, .getfield 22, 3), (4, .lload_n 1, 1), (5, .invokevirtual 34, 3), (8, .istore_n 3, 1), (9, .aload_n 0, 1), (10, .getfield 12, 3), (13, .iload_n 3, 1), (14, .invokevirtual 40, 3), (17, .lstore 4, 2), (19, .lload 4, 2), (21, .ldc2_w 44, 3), (24, .lcmp, 1), (25, .ifCond .ne 20, 3), (28, .aload_n 0, 1), (29, .lload_n 1, 1), (30, .invokevirtual 46, 3), (33, .lstore 4, 2), (35, .aload_n 0, 1), (36, .getfield 12, 3), (39, .iload_n 3, 1), (40, .lload 4, 2), (42, .invokevirtual 50, 3), (45, .lload 4, 2), (47, .lreturn, 1)]
theorem okc_80_0 : ∀ e ∈ code_80_0, decode (mB 80) e.1 = .ok (e.2.1, e.2.2) := by decide +kernel
def code_80 : List (Nat × Instr × Nat) := code_80_0
theorem okc_80 : ∀ e ∈ code_80, decode (mB 80) e.1 = .ok (e.2.1, e.2.2) := okc_80_0
def code_81_0 : List (Nat × Instr × Nat) := [(0, .aload_n 0, 1), (1, .lload_n 1, 1), (2, .aload_n 0, 1), (3, .getfield 34, 3), (6, .aload_n 0, 1), (7, .getfield 70, 3), (10, .iaload, 1), (11, .invokevirtual 102, 3), (14, .istore_n 3, 1), (15, .iload_n 3, 1), (16, .iconst (-1), 1), (17, .if_icmp .ne 7, 3), (20, .iconst (-1), 1), (21, .goto 15, 3), (24, .iload_n 3, 1), (25, .aload_n 0, 1), (26, .getfield 71, 3), (29, .imul, 1), (30, .aload_n 0, 1), (31, .lload_n 1, 1), (32, .invokevirtual 106, 3), (35, .iadd, 1), (36, .ireturn, 1)]
theorem okc_81_0 : ∀ e ∈ code_81_0, decode (mB 81) e.1 = .ok (e.2.1, e.2.2) := by decide +kernel
def code_81 : List (Nat × Instr × Nat) := code_81_0
theorem okc_81 : ∀ e ∈ code_81, decode (mB 81) e.1 = .ok (e.2.1, e.2.2) := okc_81_0
def code_82_0 : List (Nat × Instr × Nat) := [(0, .aload_n 0, 1), (1, .getfield 15, 3), (4, .lload_n 1, 1), (5, .l2i, 1), (6, .sipush 4095, 3), (9, .iand, 1), (10, .iaload, 1), (11, .istore 4, 2), (13, .aload_n 0, 1), (14, .getfield 15, 3), (17, .lload_n 1, 1), (18, .bipush 12, 2), (20, .lushr, 1), (21, .l2i, 1), (22, .sipush 4095, 3), (25, .iand, 1), (26, .iaload, 1), (27, .istore 5, 2), (29, .aload_n 0, 1), (30, .getfield 15, 3), (33, .lload_n 1, 1), (34, .bipush 24, 2), (36, .lushr, 1), (37, .l2i, 1), (38, .sipush 4095, 3), (41, .iand, 1), (42, .iaload, 1), (43, .istore 6, 2), (45, .iload 4, 2), (47, .ifCond .lt 40, 3), (50, .iload 5, 2), (52, .ifCond .lt 35, 3), (55, .iload 6, 2), (57, .ifCond .lt 30, 3), (60, .aload_n 0, 1), (61, .getfield 19, 3), (64, .iload 4, 2), (66, .iaload, 1), (67, .aload_n 0, 1), (68, .getfield 19, 3), (71, .iload 5, 2), (73, .iaload, 1), (74, .iadd, 1), (75, .aload_n 0, 1), (76, .getfield 19, 3), (79, .iload 6, 2), (81, .iaload, 1), (82, .iadd, 1)]
theorem okc_82_0 : ∀ e ∈ code_82_0, decode (mB 82) e.1 = .ok (e.2.1, e.2.2) := by decide +kernel
def code_82_1 : List (Nat × Instr × Nat) := [(83, .iload_n 3, 1), (84, .if_icmp .le 5, 3), (87, .iconst (-1), 1), (88, .ireturn, 1), (89, .aload_n 0, 1), (90, .getfield 28, 3), (93, .iload_n 3, 1), (94, .sipush 210, 3), (97, .imul, 1), (98, .iload 4, 2), (100, .iadd, 1), (101, .iaload, 1), (102, .aload_n 0, 1), (103, .getfield 25, 3), (106, .iload_n 3, 1), (107, .aload_n 0, 1), (108, .getfield 19, 3), (111, .iload 4, 2), (113, .iaload, 1), (114, .isub, 1), (115, .sipush 210, 3), (118, .imul, 1), (119, .iload 5, 2), (121, .iadd, 1), (122, .iaload, 1), (123, .iadd, 1), (124, .iload 6, 2), (126, .iadd, 1), (127, .ireturn, 1)]
theorem okc_82_1 : ∀ e ∈ code_82_1, decode (mB 82) e.1 = .ok (e.2.1, e.2.2) := by decide +kernel
def code_82 : List (Nat × Instr × Nat) := code_82_0 ++ (code_82_1)
theorem okc_82 : ∀ e ∈ code_82, decode (mB 82) e.1 = .ok (e.2.1, e.2.2) := (memP_app okc_82_0 okc_82_1)
def code_83_0 : List (Nat × Instr × Nat) := [(0, .aload_n 0, 1), (1, .getfield 40, 3), (4, .lload_n 1, 1), (5, .invokestatic 95, 3), (8, .iaload, 1), (9, .ireturn, 1)]
theorem okc_83_0 : ∀ e ∈ code_83_0, decode (mB 83) e.1 = .ok (e.2.1, e.2.2) := by decide +kernel
def code_83 : List (Nat × Instr × Nat) := code_83_0
theorem okc_83 : ∀ e ∈ code_83, decode (mB 83) e.1 = .ok (e.2.1, e.2.2) := okc_83_0
def code_84_0 : List (Nat × Instr × Nat) := [(0, .iload_n 1, 1), (1, .ifCond .lt 21, 3), (4, .iload_n 1, 1), (5, .aload_n 0, 1), (6, .getfield 9, 3), (9, .arraylength, 1), (10, .if_icmp .ge 12, 3), (13, .aload_n 0, 1), (14, .getfield 9, 3), (17, .iload_n 1, 1), (18, .laload, 1), (19, .goto 6, 3), (22, .ldc2_w 26, 3), (25, .lreturn, 1)]
theorem okc_84_0 : ∀ e ∈ code_84_0, decode (mB 84) e.1 = .ok (e.2.1, e.2.2) := by decide +kernel
def code_84 : List (Nat × Instr × Nat) := code_84_0
theorem okc_84 : ∀ e ∈ code_84, decode (mB 84) e.1 = .ok (e.2.1, e.2.2) := okc_84_0
def code_85_0 : List (Nat × Instr × Nat) := [(0, .lload_n 1, 1), (1, .invokestatic 54, 3), (4, .istore_n 3, 1), (5, .iload_n 3, 1), (6, .iconst (-1), 1), (7, .if_icmp .eq 10, 3), (10, .aload_n 0, 1), (11, .lload_n 1, 1), (12, .iload_n 3, 1), (13, .invokevirtual 59, 3), (16, .lreturn, 1), (17, .aload_n 0, 1), (18, .getfield 30, 3), (21, .ifnull 13, 3), (24, .aload_n 0, 1), (25, .lload_n 1, 1), (26, .aload_n 0, 1), (27, .getfield 30, 3), (30, .invokevirtual 63, 3), (33, .lreturn, 1), (34, .aload_n 0, 1), (35, .getfield 26, 3), (38, .ifCond .ne 13, 3), (41, .aload_n 0, 1), (42, .getfield 18, 3), (45, .lload_n 1, 1), (46, .invokestatic 67, 3), (49, .i2l, 1), (50, .lreturn, 1), (51, .aload_n 0, 1), (52, .getfield 26, 3), (55, .iconst 1, 1), (56, .if_icmp .ne 16, 3), (59, .aload_n 0, 1), (60, .getfield 18, 3), (63, .lload_n 1, 1), (64, .invokestatic 73, 3), (67, .ineg, 1), (68, .i2l, 1), (69, .goto 12, 3), (72, .aload_n 0, 1), (73, .getfield 18, 3), (76, .lload_n 1, 1), (77, .invokestatic 76, 3), (80, .i2l, 1), (81, .lreturn, 1)]
theorem okc_85_0 : ∀ e ∈ code_85_0, decode (mB 85) e.1 = .ok (e.2.1, e.2.2) := by decide +kernel
def code_85 : List (Nat × Instr × Nat) := code_85_0
theorem okc_85 : ∀ e ∈ code_85, decode (mB 85) e.1 = .ok (e.2.1, e.2.2) := okc_85_0
def code_86_0 : List (Nat × Instr × Nat) := [(0, .iconst 0, 1), (1, .istore_n 2, 1), (2, .iload_n 2, 1), (3, .iconst 3, 1), (4, .if_icmp .ge 20, 3), (7, .lload_n 0, 1), (8, .iload_n 2, 1), (9, .iconst 3, 1), (10, .invokestatic 15, 3), (13, .ifCond .le 5, 3), (16, .iload_n 2, 1), (17, .ireturn, 1), (18, .iinc 2 1, 3), (21, .goto (-19), 3), (24, .iconst (-1), 1), (25, .ireturn, 1)]
theorem okc_86_0 : ∀ e ∈ code_86_0, decode (mB 86) e.1 = .ok (e.2.1, e.2.2) := by decide +kernel
def code_86 : List (Nat × Instr × Nat) := code_86_0
theorem okc_86 : ∀ e ∈ code_86, decode (mB 86) e.1 = .ok (e.2.1, e.2.2) := okc_86_0
def code_87_0 : List (Nat × Instr × Nat) := [(0, .lload_n 1, 1), (1, .iload_n 3, 1), (2, .iconst 3, 1), (3, .invokestatic 79, 3), (6, .lsub, 1), (7, .lstore 4, 2), (9, .ldc2_w 44, 3), (12, .lstore 6, 2), (14, .iconst 0, 1), (15, .istore 8, 2), (17, .iload 8, 2), (19, .aload_n 0, 1), (20, .getfield 18, 3), (23, .getfield 83, 3), (26, .if_icmp .ge 37, 3), (29, .lload_n 1, 1), (30, .iload 8, 2), (32, .invokestatic 88, 3), (35, .ifCond .eq 22, 3), (38, .lload 6, 2), (40, .aload_n 0, 1), (41, .lload 4, 2), (43, .iload_n 3, 1), (44, .iload 8, 2), (46, .invokestatic 92, 3), (49, .invokevirtual 96, 3), (52, .invokestatic 99, 3), (55, .lstore 6, 2), (57, .iinc 8 1, 3), (60, .goto (-43), 3), (63, .lload 6, 2), (65, .lreturn, 1)]
theorem okc_87_0 : ∀ e ∈ code_87_0, decode (mB 87) e.1 = .ok (e.2.1, e.2.2) := by decide +kernel
def code_87 : List (Nat × Instr × Nat) := code_87_0
theorem okc_87 : ∀ e ∈ code_87, decode (mB 87) e.1 = .ok (e.2.1, e.2.2) := okc_87_0
def code_88_0 : List (Nat × Instr × Nat) := [(0, .aload_n 3, 1), (1, .lload_n 1, 1), (2, .invokevirtual 96, 3), (5, .lstore 4, 2), (7, .iconst 0, 1), (8, .istore 6, 2), (10, .iload 6, 2), (12, .iconst 3, 1), (13, .if_icmp .ge 58, 3), (16, .iconst 0, 1), (17, .istore 7, 2), (19, .iload 7, 2), (21, .aload_n 0, 1), (22, .getfield 18, 3), (25, .getfield 83, 3), (28, .if_icmp .ge 37, 3), (31, .lload_n 1, 1), (32, .iload 6, 2), (34, .iload 7, 2), (36, .invokestatic 105, 3), (39, .ifCond .le 20, 3), (42, .lload 4, 2), (44, .aload_n 0, 1), (45, .lload_n 1, 1), (46, .iload 6, 2), (48, .iload 7, 2), (50, .aload_n 3, 1), (51, .invokevirtual 109, 3), (54, .invokestatic 99, 3), (57, .lstore 4, 2), (59, .iinc 7 1, 3), (62, .goto (-43), 3), (65, .iinc 6 1, 3), (68, .goto (-58), 3), (71, .lload 4, 2), (73, .lreturn, 1)]
theorem okc_88_0 : ∀ e ∈ code_88_0, decode (mB 88) e.1 = .ok (e.2.1, e.2.2) := by decide +kernel
def code_88 : List (Nat × Instr × Nat) := code_88_0
theorem okc_88 : ∀ e ∈ code_88, decode (mB 88) e.1 = .ok (e.2.1, e.2.2) := okc_88_0
def code_89_0 : List (Nat × Instr × Nat) := [(0, .lload_n 1, 1), (1, .iload_n 3, 1), (2, .iload 4, 2), (4, .invokestatic 79, 3), (7, .lsub, 1), (8, .lstore 6, 2), (10, .ldc2_w 44, 3), (13, .lstore 8, 2), (15, .iconst 0, 1), (16, .istore 10, 2), (18, .iload 10, 2), (20, .aload_n 0, 1), (21, .getfield 18, 3), (24, .getfield 83, 3), (27, .if_icmp .ge 45, 3), (30, .iload 10, 2), (32, .iload 4, 2), (34, .if_icmp .eq 32, 3), (37, .lload_n 1, 1), (38, .iload 10, 2), (40, .invokestatic 88, 3), (43, .ifCond .eq 23, 3), (46, .lload 8, 2), (48, .aload 5, 2), (50, .lload 6, 2), (52, .iload_n 3, 1), (53, .iload 10, 2), (55, .invokestatic 92, 3), (58, .invokevirtual 96, 3), (61, .invokestatic 99, 3), (64, .lstore 8, 2), (66, .iinc 10 1, 3), (69, .goto (-51), 3), (72, .lload 8, 2), (74, .lreturn, 1)]
theorem okc_89_0 : ∀ e ∈ code_89_0, decode (mB 89) e.1 = .ok (e.2.1, e.2.2) := by decide +kernel
def code_89 : List (Nat × Instr × Nat) := code_89_0
theorem okc_89 : ∀ e ∈ code_89, decode (mB 89) e.1 = .ok (e.2.1, e.2.2) := okc_89_0
def code_90_0 : List (Nat × Instr × Nat) := [(0, .lload_n 1, 1), (1, .invokestatic 9, 3), (4, .invokestatic 15, 3), (7, .istore_n 3, 1), (8, .iconst (-1), 1), (9, .istore 4, 2), (11, .iconst 0, 1), (12, .istore 5, 2), (14, .iload 5, 2), (16, .aload_n 0, 1), (17, .getfield 21, 3), (20, .if_icmp .ge 108, 3), (23, .lload_n 1, 1), (24, .iload 5, 2), (26, .invokestatic 27, 3), (29, .ifCond .eq 93, 3), (32, .iconst 0, 1), (33, .istore 6, 2), (35, .iconst 0, 1), (36, .istore 7, 2), (38, .iload 7, 2), (40, .aload_n 0, 1), (41, .getfield 21, 3), (44, .if_icmp .ge 23, 3), (47, .iload 6, 2), (49, .aload_n 0, 1), (50, .iload 5, 2), (52, .lload_n 1, 1), (53, .iload 7, 2), (55, .invokevirtual 31, 3), (58, .iadd, 1), (59, .istore 6, 2), (61, .iinc 7 1, 3), (64, .goto (-26), 3), (67, .aload_n 0, 1), (68, .iload 5, 2), (70, .lload_n 1, 1), (71, .iload 5, 2), (73, .invokevirtual 31, 3), (76, .istore 7, 2), (78, .iload 6, 2), (80, .ifCond .ne 9, 3), (83, .sipush 1000, 3), (86, .goto 14, 3), (89, .iload 7, 2), (91, .iload_n 3, 1), (92, .imul, 1), (93, .sipush 1000, 3)]
theorem okc_90_0 : ∀ e ∈ code_90_0, decode (mB 90) e.1 = .ok (e.2.1, e.2.2) := by decide +kernel
def code_90_1 : List (Nat × Instr × Nat) := [(96, .imul, 1), (97, .iload 6, 2), (99, .idiv, 1), (100, .istore 8, 2), (102, .iload 4, 2), (104, .iconst (-1), 1), (105, .if_icmp .ne 8, 3), (108, .iload 8, 2), (110, .goto 10, 3), (113, .iload 4, 2), (115, .iload 8, 2), (117, .invokestatic 37, 3), (120, .istore 4, 2), (122, .iinc 5 1, 3), (125, .goto (-111), 3), (128, .iload 4, 2), (130, .ireturn, 1)]
theorem okc_90_1 : ∀ e ∈ code_90_1, decode (mB 90) e.1 = .ok (e.2.1, e.2.2) := by decide +kernel
def code_90 : List (Nat × Instr × Nat) := code_90_0 ++ (code_90_1)
theorem okc_90 : ∀ e ∈ code_90, decode (mB 90) e.1 = .ok (e.2.1, e.2.2) := (memP_app okc_90_0 okc_90_1)
def code_91_0 : List (Nat × Instr × Nat) := [(0, .iload_n 0, 1), (1, .iload_n 0, 1), (2, .iconst 1, 1), (3, .iushr, 1), (4, .ldc_w 265, 3), (7, .iand, 1), (8, .isub, 1), (9, .istore_n 0, 1), (10, .iload_n 0, 1), (11, .ldc_w 266, 3), (14, .iand, 1), (15, .iload_n 0, 1), (16, .iconst 2, 1), (17, .iushr, 1), (18, .ldc_w 266, 3), (21, .iand, 1), (22, .iadd, 1), (23, .istore_n 0, 1), (24, .iload_n 0, 1), (25, .iload_n 0, 1), (26, .iconst 4, 1), (27, .iushr, 1), (28, .iadd, 1), (29, .ldc_w 267, 3), (32, .iand, 1), (33, .istore_n 0, 1), (34, .iload_n 0, 1), (35, .iload_n 0, 1), (36, .bipush 8, 2), (38, .iushr, 1), (39, .iadd, 1), (40, .istore_n 0, 1), (41, .iload_n 0, 1), (42, .iload_n 0, 1), (43, .bipush 16, 2), (45, .iushr, 1), (46, .iadd, 1), (47, .istore_n 0, 1), (48, .iload_n 0, 1), (49, .bipush 63, 2), (51, .iand, 1), (52, .ireturn, 1)]
theorem okc_91_0 : ∀ e ∈ code_91_0, decode (mB 91) e.1 = .ok (e.2.1, e.2.2) := by decide +kernel
def code_91 : List (Nat × Instr × Nat) := code_91_0
theorem okc_91 : ∀ e ∈ code_91, decode (mB 91) e.1 = .ok (e.2.1, e.2.2) := okc_91_0
def code_92_0 : List (Nat × Instr × Nat) := [(0, .iconst 0, 1), (1, .istore_n 3, 1), (2, .iconst 0, 1), (3, .istore 4, 2), (5, .iload 4, 2), (7, .aload_n 0, 1), (8, .getfield 21, 3), (11, .if_icmp .ge 66, 3), (14, .iconst 0, 1), (15, .istore 5, 2), (17, .iload 5, 2), (19, .aload_n 0, 1), (20, .getfield 21, 3), (23, .if_icmp .ge 48, 3), (26, .iload 4, 2), (28, .iload 5, 2), (30, .if_icmp .eq 35, 3), (33, .lload_n 1, 1), (34, .iload 4, 2), (36, .invokestatic 27, 3), (39, .ifCond .eq 26, 3), (42, .lload_n 1, 1), (43, .iload 5, 2), (45, .invokestatic 27, 3), (48, .ifCond .eq 17, 3), (51, .iload_n 3, 1), (52, .aload_n 0, 1), (53, .lload_n 1, 1), (54, .iload 4, 2), (56, .iload 5, 2), (58, .invokestatic 43, 3), (61, .invokestatic 47, 3), (64, .istore_n 3, 1), (65, .iinc 5 1, 3), (68, .goto (-51), 3), (71, .iinc 4 1, 3), (74, .goto (-69), 3), (77, .iload_n 3, 1), (78, .ireturn, 1)]
theorem okc_92_0 : ∀ e ∈ code_92_0, decode (mB 92) e.1 = .ok (e.2.1, e.2.2) := by decide +kernel
def code_92 : List (Nat × Instr × Nat) := code_92_0
theorem okc_92 : ∀ e ∈ code_92, decode (mB 92) e.1 = .ok (e.2.1, e.2.2) := okc_92_0
def code_93_0 : List (Nat × Instr × Nat) := [(0, .aload_n 0, 1), (1, .iload_n 3, 1), (2, .lload_n 1, 1), (3, .iload 4, 2), (5, .invokevirtual 31, 3), (8, .aload_n 0, 1), (9, .iload_n 3, 1), (10, .lload_n 1, 1), (11, .iload_n 3, 1), (12, .invokevirtual 31, 3), (15, .isub, 1), (16, .istore 5, 2), (18, .lload_n 1, 1), (19, .lstore 6, 2), (21, .iconst 0, 1), (22, .istore 8, 2), (24, .iload 5, 2), (26, .ifCond .le 106, 3), (29, .iload 8, 2), (31, .bipush 6, 2), (33, .if_icmp .ge 99, 3), (36, .iconst (-1), 1), (37, .istore 9, 2), (39, .iconst 0, 1), (40, .istore 10, 2), (42, .iload 10, 2), (44, .iconst 3, 1), (45, .if_icmp .ge 48, 3), (48, .lload 6, 2), (50, .iload 10, 2), (52, .iload 4, 2), (54, .invokestatic 50, 3), (57, .ifCond .le 30, 3), (60, .iload 9, 2), (62, .iconst (-1), 1), (63, .if_icmp .eq 20, 3), (66, .aload_n 0, 1), (67, .iload_n 3, 1), (68, .iload 10, 2), (70, .invokevirtual 54, 3), (73, .aload_n 0, 1), (74, .iload_n 3, 1), (75, .iload 9, 2), (77, .invokevirtual 54, 3), (80, .if_icmp .le 7, 3), (83, .iload 10, 2), (85, .istore 9, 2), (87, .iinc 10 1, 3)]
theorem okc_93_0 : ∀ e ∈ code_93_0, decode (mB 93) e.1 = .ok (e.2.1, e.2.2) := by decide +kernel
def code_93_1 : List (Nat × Instr × Nat) := [(90, .goto (-48), 3), (93, .iload 9, 2), (95, .iconst (-1), 1), (96, .if_icmp .ne 6, 3), (99, .iload 8, 2), (101, .ireturn, 1), (102, .lload 6, 2), (104, .iload 9, 2), (106, .iload 4, 2), (108, .invokestatic 57, 3), (111, .lsub, 1), (112, .lstore 6, 2), (114, .iload 5, 2), (116, .aload_n 0, 1), (117, .iload_n 3, 1), (118, .iload 9, 2), (120, .invokevirtual 54, 3), (123, .isub, 1), (124, .istore 5, 2), (126, .iinc 8 1, 3), (129, .goto (-105), 3), (132, .iload 8, 2), (134, .ireturn, 1)]
theorem okc_93_1 : ∀ e ∈ code_93_1, decode (mB 93) e.1 = .ok (e.2.1, e.2.2) := by decide +kernel
def code_93 : List (Nat × Instr × Nat) := code_93_0 ++ (code_93_1)
theorem okc_93 : ∀ e ∈ code_93, decode (mB 93) e.1 = .ok (e.2.1, e.2.2) := (memP_app okc_93_0 okc_93_1)
def code_94_0 : List (Nat × Instr × Nat) := [(0, .iconst 0, 1), (1, .istore_n 3, 1), (2, .iconst 0, 1), (3, .istore 4, 2), (5, .iload 4, 2), (7, .aload_n 0, 1), (8, .getfield 21, 3), (11, .if_icmp .ge 30, 3), (14, .lload_n 1, 1), (15, .iload 4, 2), (17, .invokestatic 27, 3), (20, .ifCond .eq 15, 3), (23, .iload_n 3, 1), (24, .aload_n 0, 1), (25, .iload 4, 2), (27, .lload_n 1, 1), (28, .iload 4, 2), (30, .invokevirtual 31, 3), (33, .iadd, 1), (34, .istore_n 3, 1), (35, .iinc 4 1, 3), (38, .goto (-33), 3), (41, .iload_n 3, 1), (42, .ireturn, 1)]
theorem okc_94_0 : ∀ e ∈ code_94_0, decode (mB 94) e.1 = .ok (e.2.1, e.2.2) := by decide +kernel
def code_94 : List (Nat × Instr × Nat) := code_94_0
theorem okc_94 : ∀ e ∈ code_94, decode (mB 94) e.1 = .ok (e.2.1, e.2.2) := okc_94_0
def code_95_0 : List (Nat × Instr × Nat) := [(0, .iload_n 1, 1), (1, .ifCond .lt 19, 3), (4, .iload_n 1, 1), (5, .aload_n 0, 1), (6, .getfield 9, 3), (9, .arraylength, 1), (10, .if_icmp .ge 10, 3), (13, .aload_n 0, 1), (14, .getfield 9, 3), (17, .iload_n 1, 1), (18, .lload_n 2, 1), (19, .lastore, 1), (20, .return_, 1)]
theorem okc_95_0 : ∀ e ∈ code_95_0, decode (mB 95) e.1 = .ok (e.2.1, e.2.2) := by decide +kernel
def code_95 : List (Nat × Instr × Nat) := code_95_0
theorem okc_95 : ∀ e ∈ code_95, decode (mB 95) e.1 = .ok (e.2.1, e.2.2) := okc_95_0
def code_96_0 : List (Nat × Instr × Nat) := [(0, .aload_n 0, 1), (1, .getfield 68, 3), (4, .ifCond .eq 10, 3), (7, .iload_n 1, 1), (8, .invokestatic 163, 3), (11, .ifCond .ne 6, 3), (14, .ldc 149, 2), (16, .ireturn, 1), (17, .aload_n 0, 1), (18, .iload_n 1, 1), (19, .iload_n 2, 1), (20, .ifCond .eq 7, 3), (23, .iconst 1, 1), (24, .goto 4, 3), (27, .iconst 0, 1), (28, .invokevirtual 168, 3), (31, .lstore_n 3, 1), (32, .iload_n 2, 1), (33, .ifCond .eq 11, 3), (36, .aload_n 0, 1), (37, .lload_n 3, 1), (38, .invokevirtual 172, 3), (41, .goto 5, 3), (44, .lload_n 3, 1), (45, .l2i, 1), (46, .ireturn, 1)]
theorem okc_96_0 : ∀ e ∈ code_96_0, decode (mB 96) e.1 = .ok (e.2.1, e.2.2) := by decide +kernel
def code_96 : List (Nat × Instr × Nat) := code_96_0
theorem okc_96 : ∀ e ∈ code_96, decode (mB 96) e.1 = .ok (e.2.1, e.2.2) := okc_96_0
def code_97_0 : List (Nat × Instr × Nat) := [(0, .aload_n 0, 1), (1, .getfield 37, 3), (4, .iload_n 1, 1), (5, .iload_n 2, 1), (6, .invokevirtual 175, 3), (9, .astore_n 3, 1), (10, .aload_n 0, 1), (11, .getfield 41, 3), (14, .iconst (-1), 1), (15, .if_icmp .ne 14, 3), (18, .aload_n 3, 1), (19, .aload_n 0, 1), (20, .getfield 76, 3), (23, .invokevirtual 237, 3), (26, .goto 15, 3), (29, .aload_n 3, 1), (30, .aload_n 0, 1), (31, .getfield 76, 3), (34, .aload_n 0, 1), (35, .getfield 41, 3), (38, .invokevirtual 239, 3), (41, .lreturn, 1)]
theorem okc_97_0 : ∀ e ∈ code_97_0, decode (mB 97) e.1 = .ok (e.2.1, e.2.2) := by decide +kernel
def code_97 : List (Nat × Instr × Nat) := code_97_0
theorem okc_97 : ∀ e ∈ code_97, decode (mB 97) e.1 = .ok (e.2.1, e.2.2) := okc_97_0
def code_98_0 : List (Nat × Instr × Nat) := [(0, .aload_n 0, 1), (1, .getfield 42, 3), (4, .iload_n 1, 1), (5, .iconst 4, 1), (6, .imul, 1), (7, .iload_n 2, 1), (8, .iadd, 1), (9, .aaload, 1), (10, .astore_n 3, 1), (11, .aload_n 3, 1), (12, .getfield 69, 3), (15, .aload_n 0, 1), (16, .getfield 18, 3), (19, .invokevirtual 79, 3), (22, .ldc 82, 2), (24, .invokevirtual 75, 3), (27, .aload_n 3, 1), (28, .aload_n 0, 1), (29, .iload_n 1, 1), (30, .aload_n 0, 1), (31, .getfield 9, 3), (34, .getfield 83, 3), (37, .iload_n 2, 1), (38, .iconst 3, 1), (39, .if_icmp .ne 7, 3), (42, .iconst 1, 1), (43, .goto 4, 3), (46, .iconst 0, 1), (47, .iadd, 1), (48, .invokevirtual 89, 3), (51, .invokevirtual 92, 3), (54, .aload_n 3, 1), (55, .areturn, 1)]
theorem okc_98_0 : ∀ e ∈ code_98_0, decode (mB 98) e.1 = .ok (e.2.1, e.2.2) := by decide +kernel
def code_98 : List (Nat × Instr × Nat) := code_98_0
theorem okc_98 : ∀ e ∈ code_98, decode (mB 98) e.1 = .ok (e.2.1, e.2.2) := okc_98_0
def code_99_0 : List (Nat × Instr × Nat) := [(0, .aload_n 0, 1), (1, .getfield 37, 3), (4, .aload_n 0, 1), (5, .getfield 70, 3), (8, .iaload, 1), (9, .aload_n 0, 1), (10, .getfield 71, 3), (13, .imul, 1), (14, .ireturn, 1)]
theorem okc_99_0 : ∀ e ∈ code_99_0, decode (mB 99) e.1 = .ok (e.2.1, e.2.2) := by decide +kernel
def code_99 : List (Nat × Instr × Nat) := code_99_0
theorem okc_99 : ∀ e ∈ code_99, decode (mB 99) e.1 = .ok (e.2.1, e.2.2) := okc_99_0
def code_100_0 : List (Nat × Instr × Nat) := [(0, .aload_n 0, 1), (1, .aload_n 1, 1), (2, .putfield 30, 3), (5, .return_, 1)]
theorem okc_100_0 : ∀ e ∈ code_100_0, decode (mB 100) e.1 = .ok (e.2.1, e.2.2) := by decide +kernel
def code_100 : List (Nat × Instr × Nat) := code_100_0
theorem okc_100 : ∀ e ∈ code_100, decode (mB 100) e.1 = .ok (e.2.1, e.2.2) := okc_100_0
def code_101_0 : List (Nat × Instr × Nat) := [(0, .lload_n 1, 1), (1, .invokestatic 34, 3), (4, .istore_n 3, 1), (5, .iload_n 3, 1), (6, .aload_n 0, 1), (7, .getfield 18, 3), (10, .getfield 40, 3), (13, .if_icmp .lt 12, 3), (16, .aload_n 0, 1), (17, .getfield 30, 3), (20, .lload_n 1, 1), (21, .invokevirtual 45, 3), (24, .lreturn, 1), (25, .aload_n 0, 1), (26, .getfield 22, 3), (29, .lload_n 1, 1), (30, .invokevirtual 51, 3), (33, .istore 4, 2), (35, .aload_n 0, 1), (36, .getfield 12, 3), (39, .iload 4, 2), (41, .invokevirtual 56, 3), (44, .lstore 5, 2), (46, .lload 5, 2), (48, .ldc2_w 60, 3), (51, .lcmp, 1), (52, .ifCond .ne 39, 3), (55, .aload_n 0, 1), (56, .getfield 26, 3), (59, .iconst 1, 1), (60, .if_icmp .ne 12, 3), (63, .aload_n 0, 1), (64, .lload_n 1, 1), (65, .iload_n 3, 1), (66, .invokevirtual 62, 3), (69, .goto 9, 3), (72, .aload_n 0, 1), (73, .lload_n 1, 1), (74, .iload_n 3, 1), (75, .invokevirtual 66, 3), (78, .lstore 5, 2), (80, .aload_n 0, 1), (81, .getfield 12, 3), (84, .iload 4, 2), (86, .lload 5, 2), (88, .invokevirtual 69, 3), (91, .lload 5, 2), (93, .lreturn, 1)]
theorem okc_101_0 : ∀ e ∈ code_101_0, decode (mB 101) e.1 = .ok (e.2.1, e.2.2) := by decide +kernel
def code_101 : List (Nat × Instr × Nat) := code_101_0
theorem okc_101 : ∀ e ∈ code_101, decode (mB 101) e.1 = .ok (e.2.1, e.2.2) := okc_101_0
def code_102_0 : List (Nat × Instr × Nat) := [(0, .lload_n 1, 1), (1, .invokestatic 99, 3), (4, .istore_n 3, 1), (5, .iload_n 3, 1), (6, .aload_n 0, 1), (7, .getfield 70, 3), (10, .if_icmp .le 5, 3), (13, .iconst (-1), 1), (14, .ireturn, 1), (15, .aload_n 0, 1), (16, .lload_n 1, 1), (17, .aload_n 0, 1), (18, .getfield 34, 3), (21, .iload_n 3, 1), (22, .iaload, 1), (23, .invokevirtual 102, 3), (26, .istore 4, 2), (28, .iload 4, 2), (30, .iconst (-1), 1), (31, .if_icmp .ne 7, 3), (34, .iconst (-1), 1), (35, .goto 23, 3), (38, .aload_n 0, 1), (39, .getfield 37, 3), (42, .iload_n 3, 1), (43, .iaload, 1), (44, .iload 4, 2), (46, .iadd, 1), (47, .aload_n 0, 1), (48, .getfield 71, 3), (51, .imul, 1), (52, .aload_n 0, 1), (53, .lload_n 1, 1), (54, .invokevirtual 106, 3), (57, .iadd, 1), (58, .ireturn, 1)]
theorem okc_102_0 : ∀ e ∈ code_102_0, decode (mB 102) e.1 = .ok (e.2.1, e.2.2) := by decide +kernel
def code_102 : List (Nat × Instr × Nat) := code_102_0
theorem okc_102 : ∀ e ∈ code_102, decode (mB 102) e.1 = .ok (e.2.1, e.2.2) := okc_102_0
def code_103_0 : List (Nat × Instr × Nat) := [(0, .lconst 0, 1), (1, .lstore 4, 2), (3, .iconst 0, 1), (4, .istore 6, 2), (6, .iload 6, 2), (8, .aload_n 0, 1), (9, .getfield 18, 3), (12, .iload_n 3, 1), (13, .invokevirtual 73, 3), (16, .if_icmp .ge 34, 3), (19, .lload 4, 2), (21, .aload_n 0, 1), (22, .getfield 18, 3), (25, .iload_n 3, 1), (26, .iload 6, 2), (28, .invokevirtual 77, 3), (31, .i2l, 1), (32, .aload_n 0, 1), (33, .lload_n 1, 1), (34, .iload_n 3, 1), (35, .iload 6, 2), (37, .invokevirtual 81, 3), (40, .lmul, 1), (41, .ladd, 1), (42, .lstore 4, 2), (44, .iinc 6 1, 3), (47, .goto (-41), 3), (50, .lload 4, 2), (52, .lreturn, 1)]
theorem okc_103_0 : ∀ e ∈ code_103_0, decode (mB 103) e.1 = .ok (e.2.1, e.2.2) := by decide +kernel
def code_103 : List (Nat × Instr × Nat) := code_103_0
theorem okc_103 : ∀ e ∈ code_103, decode (mB 103) e.1 = .ok (e.2.1, e.2.2) := okc_103_0
def code_104_0 : List (Nat × Instr × Nat) := [(0, .aload_n 0, 1), (1, .getfield 18, 3), (4, .iload_n 3, 1), (5, .iload 4, 2), (7, .invokevirtual 93, 3), (10, .istore 5, 2), (12, .aload_n 0, 1), (13, .getfield 18, 3), (16, .lload_n 1, 1), (17, .iload_n 3, 1), (18, .iload 4, 2), (20, .invokevirtual 96, 3), (23, .lstore 6, 2), (25, .iload 5, 2), (27, .iconst (-1), 1), (28, .if_icmp .ne 12, 3), (31, .aload_n 0, 1), (32, .lload 6, 2), (34, .invokevirtual 99, 3), (37, .goto 11, 3), (40, .aload_n 0, 1), (41, .lload 6, 2), (43, .iload 5, 2), (45, .invokevirtual 102, 3), (48, .lreturn, 1)]
theorem okc_104_0 : ∀ e ∈ code_104_0, decode (mB 104) e.1 = .ok (e.2.1, e.2.2) := by decide +kernel
def code_104 : List (Nat × Instr × Nat) := code_104_0
theorem okc_104 : ∀ e ∈ code_104, decode (mB 104) e.1 = .ok (e.2.1, e.2.2) := okc_104_0
def code_105_0 : List (Nat × Instr × Nat) := [(0, .ldc2_w 60, 3), (3, .lstore 4, 2), (5, .iconst 0, 1), (6, .istore 6, 2), (8, .iload 6, 2), (10, .iconst 3, 1), (11, .if_icmp .gt 44, 3), (14, .aload_n 0, 1), (15, .getfield 18, 3), (18, .lload_n 1, 1), (19, .iload 6, 2), (21, .aload_n 0, 1), (22, .invokevirtual 105, 3), (25, .invokevirtual 109, 3), (28, .ifCond .eq 21, 3), (31, .lload 4, 2), (33, .aload_n 0, 1), (34, .lload_n 1, 1), (35, .iload_n 3, 1), (36, .iload 6, 2), (38, .invokestatic 113, 3), (41, .invokevirtual 99, 3), (44, .invokestatic 116, 3), (47, .lstore 4, 2), (49, .iinc 6 1, 3), (52, .goto (-44), 3), (55, .lload 4, 2), (57, .lreturn, 1)]
theorem okc_105_0 : ∀ e ∈ code_105_0, decode (mB 105) e.1 = .ok (e.2.1, e.2.2) := by decide +kernel
def code_105 : List (Nat × Instr × Nat) := code_105_0
theorem okc_105 : ∀ e ∈ code_105, decode (mB 105) e.1 = .ok (e.2.1, e.2.2) := okc_105_0
def code_106_0 : List (Nat × Instr × Nat) := [(0, .aload_n 0, 1), (1, .getfield 26, 3), (4, .iconst 2, 1), (5, .if_icmp .ne 15, 3), (8, .aload_n 0, 1), (9, .getfield 18, 3), (12, .getfield 119, 3), (15, .iconst 1, 1), (16, .iadd, 1), (17, .goto 10, 3), (20, .aload_n 0, 1), (21, .getfield 18, 3), (24, .getfield 119, 3), (27, .ireturn, 1)]
theorem okc_106_0 : ∀ e ∈ code_106_0, decode (mB 106) e.1 = .ok (e.2.1, e.2.2) := by decide +kernel
def code_106 : List (Nat × Instr × Nat) := code_106_0
theorem okc_106 : ∀ e ∈ code_106, decode (mB 106) e.1 = .ok (e.2.1, e.2.2) := okc_106_0
def code_107_0 : List (Nat × Instr × Nat) := [(0, .ldc2_w 85, 3), (3, .lstore 4, 2), (5, .iconst 0, 1), (6, .istore 6, 2), (8, .iload 6, 2), (10, .aload_n 0, 1), (11, .getfield 18, 3), (14, .iload_n 3, 1), (15, .invokevirtual 73, 3), (18, .if_icmp .ge 24, 3), (21, .lload 4, 2), (23, .aload_n 0, 1), (24, .lload_n 1, 1), (25, .iload_n 3, 1), (26, .iload 6, 2), (28, .invokevirtual 81, 3), (31, .invokestatic 87, 3), (34, .lstore 4, 2), (36, .iinc 6 1, 3), (39, .goto (-31), 3), (42, .lload 4, 2), (44, .lreturn, 1)]
theorem okc_107_0 : ∀ e ∈ code_107_0, decode (mB 107) e.1 = .ok (e.2.1, e.2.2) := by decide +kernel
def code_107 : List (Nat × Instr × Nat) := code_107_0
theorem okc_107 : ∀ e ∈ code_107, decode (mB 107) e.1 = .ok (e.2.1, e.2.2) := okc_107_0
