set_option maxRecDepth 20000 in
theorem ggX9_init_X2_init : GoodIn wsX9_init wsX2_init := goodIn_r _ [34, 35, 2, 3, 36, 37, 38, 39, 40, 90, 91, 92, 93] rfl (by decide +kernel)
set_option maxRecDepth 20000 in
theorem gX9_init_X2_init_n11 : GoodIn wsX9_init (wsX2_init) := ggX9_init_X2_init
set_option maxRecDepth 20000 in
theorem ggX9_init_X3_init : GoodIn wsX9_init wsX3_init := goodIn_r _ [43, 44, 2, 3, 36, 45, 46, 47, 48, 49, 50, 51, 52, 53, 54, 55, 56, 57, 58, 59, 60, 105, 106, 107, 108, 109, 110, 111, 112, 113, 114, 115, 116] rfl (by decide +kernel)
set_option maxRecDepth 20000 in
theorem gX9_init_X3_init : GoodIn wsX9_init (wsX3_init) := ggX9_init_X3_init
set_option maxRecDepth 20000 in
theorem ggX9_init_X5_init : GoodIn wsX9_init wsX5_init := goodIn_r _ [62, 63, 2, 3, 36, 64, 65, 66, 117, 118, 119] rfl (by decide +kernel)
set_option maxRecDepth 20000 in
theorem gX9_init_X5_init_n27 : GoodIn wsX9_init (wsX5_init) := ggX9_init_X5_init
set_option maxRecDepth 20000 in
theorem ggX9_init_X0_init : GoodIn wsX9_init wsX0_init := goodIn_r _ [68, 69, 2, 3, 36, 70, 71, 72, 73, 74, 75, 76, 120, 121, 122, 123, 124, 125, 126] rfl (by decide +kernel)
set_option maxRecDepth 20000 in
theorem gX9_init_X0_init_n34 : GoodIn wsX9_init (wsX0_init) := ggX9_init_X0_init
set_option maxRecDepth 20000 in
theorem ggX9_init_X7_init : GoodIn wsX9_init wsX7_init := goodIn_r _ [78, 79, 2, 3, 36, 80, 81, 82, 83, 127, 128, 129, 130] rfl (by decide +kernel)
set_option maxRecDepth 20000 in
theorem gX9_init_X7_init_n41 : GoodIn wsX9_init (wsX7_init) := ggX9_init_X7_init
set_option maxRecDepth 20000 in
theorem ggX9_init_X6_init : GoodIn wsX9_init wsX6_init := goodIn_r _ [85, 86, 2, 3, 36, 87, 88, 89, 131, 132, 133] rfl (by decide +kernel)
set_option maxRecDepth 20000 in
theorem gX9_init_X6_init_n48 : GoodIn wsX9_init (wsX6_init) := ggX9_init_X6_init
set_option maxRecDepth 100000 in
theorem DX8_isDigit_0 : ∀ x ∈ ([(0, .iload_n 0, 1), (1, .bipush 48, 2), (3, .if_icmp .lt 13, 3), (6, .iload_n 0, 1), (7, .bipush 57, 2), (9, .if_icmp .gt 7, 3), (12, .iconst 1, 1), (13, .goto 4, 3), (16, .iconst 0, 1), (17, .ireturn, 1)] : List (Nat × Instr × Nat)), decode cX8_isDigit x.1 = .ok (x.2.1, x.2.2) := by decide +kernel
theorem dX8_isDigit_0 : decode cX8_isDigit 0 = .ok (.iload_n 0, 1) := DX8_isDigit_0 (0, .iload_n 0, 1) (List.mem_of_getElem? (i := 0) rfl)
theorem dX8_isDigit_1 : decode cX8_isDigit 1 = .ok (.bipush 48, 2) := DX8_isDigit_0 (1, .bipush 48, 2) (List.mem_of_getElem? (i := 1) rfl)
theorem dX8_isDigit_3 : decode cX8_isDigit 3 = .ok (.if_icmp .lt 13, 3) := DX8_isDigit_0 (3, .if_icmp .lt 13, 3) (List.mem_of_getElem? (i := 2) rfl)
theorem dX8_isDigit_6 : decode cX8_isDigit 6 = .ok (.iload_n 0, 1) := DX8_isDigit_0 (6, .iload_n 0, 1) (List.mem_of_getElem? (i := 3) rfl)
theorem dX8_isDigit_7 : decode cX8_isDigit 7 = .ok (.bipush 57, 2) := DX8_isDigit_0 (7, .bipush 57, 2) (List.mem_of_getElem? (i := 4) rfl)
theorem dX8_isDigit_9 : decode cX8_isDigit 9 = .ok (.if_icmp .gt 7, 3) := DX8_isDigit_0 (9, .if_icmp .gt 7, 3) (List.mem_of_getElem? (i := 5) rfl)
theorem dX8_isDigit_12 : decode cX8_isDigit 12 = .ok (.iconst 1, 1) := DX8_isDigit_0 (12, .iconst 1, 1) (List.mem_of_getElem? (i := 6) rfl)
theorem dX8_isDigit_13 : decode cX8_isDigit 13 = .ok (.goto 4, 3) := DX8_isDigit_0 (13, .goto 4, 3) (List.mem_of_getElem? (i := 7) rfl)
theorem dX8_isDigit_16 : decode cX8_isDigit 16 = .ok (.iconst 0, 1) := DX8_isDigit_0 (16, .iconst 0, 1) (List.mem_of_getElem? (i := 8) rfl)
theorem dX8_isDigit_17 : decode cX8_isDigit 17 = .ok (.ireturn, 1) := DX8_isDigit_0 (17, .ireturn, 1) (List.mem_of_getElem? (i := 9) rfl)
set_option maxRecDepth 100000 in
theorem DX9_init_0 : ∀ x ∈ ([(0, .aload_n 0, 1), (1, .invokespecial 3, 3), (4, .aload_n 0, 1), (5, .new 9, 3), (8, .dup, 1), (9, .invokespecial 11, 3), (12, .putfield 12, 3), (15, .aload_n 0, 1), (16, .new 18, 3), (19, .dup, 1), (20, .invokespecial 20, 3), (23, .putfield 21, 3), (26, .aload_n 0, 1), (27, .new 25, 3), (30, .dup, 1), (31, .invokespecial 27, 3), (34, .putfield 28, 3), (37, .aload_n 0, 1), (38, .new 32, 3), (41, .dup, 1), (42, .invokespecial 34, 3), (45, .putfield 35, 3), (48, .aload_n 0, 1), (49, .new 39, 3), (52, .dup, 1), (53, .invokespecial 41, 3), (56, .putfield 42, 3), (59, .aload_n 0, 1), (60, .new 46, 3), (63, .dup, 1), (64, .invokespecial 48, 3), (67, .putfield 49, 3), (70, .aload_n 0, 1), (71, .iconst 1, 1), (72, .putfield 53, 3), (75, .aload_n 0, 1), (76, .iconst 0, 1), (77, .putfield 57, 3), (80, .aload_n 0, 1), (81, .iconst 0, 1)] : List (Nat × Instr × Nat)), decode cX9_init x.1 = .ok (x.2.1, x.2.2) := by decide +kernel
theorem dX9_init_0 : decode cX9_init 0 = .ok (.aload_n 0, 1) := DX9_init_0 (0, .aload_n 0, 1) (List.mem_of_getElem? (i := 0) rfl)
theorem dX9_init_1 : decode cX9_init 1 = .ok (.invokespecial 3, 3) := DX9_init_0 (1, .invokespecial 3, 3) (List.mem_of_getElem? (i := 1) rfl)
theorem dX9_init_4 : decode cX9_init 4 = .ok (.aload_n 0, 1) := DX9_init_0 (4, .aload_n 0, 1) (List.mem_of_getElem? (i := 2) rfl)
theorem dX9_init_5 : decode cX9_init 5 = .ok (.new 9, 3) := DX9_init_0 (5, .new 9, 3) (List.mem_of_getElem? (i := 3) rfl)
theorem dX9_init_8 : decode cX9_init 8 = .ok (.dup, 1) := DX9_init_0 (8, .dup, 1) (List.mem_of_getElem? (i := 4) rfl)
theorem dX9_init_9 : decode cX9_init 9 = .ok (.invokespecial 11, 3) := DX9_init_0 (9, .invokespecial 11, 3) (List.mem_of_getElem? (i := 5) rfl)
theorem dX9_init_12 : decode cX9_init 12 = .ok (.putfield 12, 3) := DX9_init_0 (12, .putfield 12, 3) (List.mem_of_getElem? (i := 6) rfl)
theorem dX9_init_15 : decode cX9_init 15 = .ok (.aload_n 0, 1) := DX9_init_0 (15, .aload_n 0, 1) (List.mem_of_getElem? (i := 7) rfl)
theorem dX9_init_16 : decode cX9_init 16 = .ok (.new 18, 3) := DX9_init_0 (16, .new 18, 3) (List.mem_of_getElem? (i := 8) rfl)
theorem dX9_init_19 : decode cX9_init 19 = .ok (.dup, 1) := DX9_init_0 (19, .dup, 1) (List.mem_of_getElem? (i := 9) rfl)
theorem dX9_init_20 : decode cX9_init 20 = .ok (.invokespecial 20, 3) := DX9_init_0 (20, .invokespecial 20, 3) (List.mem_of_getElem? (i := 10) rfl)
theorem dX9_init_23 : decode cX9_init 23 = .ok (.putfield 21, 3) := DX9_init_0 (23, .putfield 21, 3) (List.mem_of_getElem? (i := 11) rfl)
theorem dX9_init_26 : decode cX9_init 26 = .ok (.aload_n 0, 1) := DX9_init_0 (26, .aload_n 0, 1) (List.mem_of_getElem? (i := 12) rfl)
theorem dX9_init_27 : decode cX9_init 27 = .ok (.new 25, 3) := DX9_init_0 (27, .new 25, 3) (List.mem_of_getElem? (i := 13) rfl)
theorem dX9_init_30 : decode cX9_init 30 = .ok (.dup, 1) := DX9_init_0 (30, .dup, 1) (List.mem_of_getElem? (i := 14) rfl)
theorem dX9_init_31 : decode cX9_init 31 = .ok (.invokespecial 27, 3) := DX9_init_0 (31, .invokespecial 27, 3) (List.mem_of_getElem? (i := 15) rfl)
theorem dX9_init_34 : decode cX9_init 34 = .ok (.putfield 28, 3) := DX9_init_0 (34, .putfield 28, 3) (List.mem_of_getElem? (i := 16) rfl)
theorem dX9_init_37 : decode cX9_init 37 = .ok (.aload_n 0, 1) := DX9_init_0 (37, .aload_n 0, 1) (List.mem_of_getElem? (i := 17) rfl)
theorem dX9_init_38 : decode cX9_init 38 = .ok (.new 32, 3) := DX9_init_0 (38, .new 32, 3) (List.mem_of_getElem? (i := 18) rfl)
theorem dX9_init_41 : decode cX9_init 41 = .ok (.dup, 1) := DX9_init_0 (41, .dup, 1) (List.mem_of_getElem? (i := 19) rfl)
theorem dX9_init_42 : decode cX9_init 42 = .ok (.invokespecial 34, 3) := DX9_init_0 (42, .invokespecial 34, 3) (List.mem_of_getElem? (i := 20) rfl)
theorem dX9_init_45 : decode cX9_init 45 = .ok (.putfield 35, 3) := DX9_init_0 (45, .putfield 35, 3) (List.mem_of_getElem? (i := 21) rfl)
theorem dX9_init_48 : decode cX9_init 48 = .ok (.aload_n 0, 1) := DX9_init_0 (48, .aload_n 0, 1) (List.mem_of_getElem? (i := 22) rfl)
theorem dX9_init_49 : decode cX9_init 49 = .ok (.new 39, 3) := DX9_init_0 (49, .new 39, 3) (List.mem_of_getElem? (i := 23) rfl)
theorem dX9_init_52 : decode cX9_init 52 = .ok (.dup, 1) := DX9_init_0 (52, .dup, 1) (List.mem_of_getElem? (i := 24) rfl)
theorem dX9_init_53 : decode cX9_init 53 = .ok (.invokespecial 41, 3) := DX9_init_0 (53, .invokespecial 41, 3) (List.mem_of_getElem? (i := 25) rfl)
theorem dX9_init_56 : decode cX9_init 56 = .ok (.putfield 42, 3) := DX9_init_0 (56, .putfield 42, 3) (List.mem_of_getElem? (i := 26) rfl)
theorem dX9_init_59 : decode cX9_init 59 = .ok (.aload_n 0, 1) := DX9_init_0 (59, .aload_n 0, 1) (List.mem_of_getElem? (i := 27) rfl)
theorem dX9_init_60 : decode cX9_init 60 = .ok (.new 46, 3) := DX9_init_0 (60, .new 46, 3) (List.mem_of_getElem? (i := 28) rfl)
theorem dX9_init_63 : decode cX9_init 63 = .ok (.dup, 1) := DX9_init_0 (63, .dup, 1) (List.mem_of_getElem? (i := 29) rfl)
theorem dX9_init_64 : decode cX9_init 64 = .ok (.invokespecial 48, 3) := DX9_init_0 (64, .invokespecial 48, 3) (List.mem_of_getElem? (i := 30) rfl)
theorem dX9_init_67 : decode cX9_init 67 = .ok (.putfield 49, 3) := DX9_init_0 (67, .putfield 49, 3) (List.mem_of_getElem? (i := 31) rfl)
theorem dX9_init_70 : decode cX9_init 70 = .ok (.aload_n 0, 1) := DX9_init_0 (70, .aload_n 0, 1) (List.mem_of_getElem? (i := 32) rfl)
theorem dX9_init_71 : decode cX9_init 71 = .ok (.iconst 1, 1) := DX9_init_0 (71, .iconst 1, 1) (List.mem_of_getElem? (i := 33) rfl)
theorem dX9_init_72 : decode cX9_init 72 = .ok (.putfield 53, 3) := DX9_init_0 (72, .putfield 53, 3) (List.mem_of_getElem? (i := 34) rfl)
theorem dX9_init_75 : decode cX9_init 75 = .ok (.aload_n 0, 1) := DX9_init_0 (75, .aload_n 0, 1) (List.mem_of_getElem? (i := 35) rfl)
theorem dX9_init_76 : decode cX9_init 76 = .ok (.iconst 0, 1) := DX9_init_0 (76, .iconst 0, 1) (List.mem_of_getElem? (i := 36) rfl)
theorem dX9_init_77 : decode cX9_init 77 = .ok (.putfield 57, 3) := DX9_init_0 (77, .putfield 57, 3) (List.mem_of_getElem? (i := 37) rfl)
theorem dX9_init_80 : decode cX9_init 80 = .ok (.aload_n 0, 1) := DX9_init_0 (80, .aload_n 0, 1) (List.mem_of_getElem? (i := 38) rfl)
theorem dX9_init_81 : decode cX9_init 81 = .ok (.iconst 0, 1) := DX9_init_0 (81, .iconst 0, 1) (List.mem_of_getElem? (i := 39) rfl)
set_option maxRecDepth 100000 in
theorem DX9_init_40 : ∀ x ∈ ([(82, .putfield 61, 3), (85, .aload_n 0, 1), (86, .iconst 0, 1), (87, .putfield 64, 3), (90, .aload_n 0, 1), (91, .iconst 0, 1), (92, .putfield 67, 3), (95, .return_, 1)] : List (Nat × Instr × Nat)), decode cX9_init x.1 = .ok (x.2.1, x.2.2) := by decide +kernel
theorem dX9_init_82 : decode cX9_init 82 = .ok (.putfield 61, 3) := DX9_init_40 (82, .putfield 61, 3) (List.mem_of_getElem? (i := 0) rfl)
theorem dX9_init_85 : decode cX9_init 85 = .ok (.aload_n 0, 1) := DX9_init_40 (85, .aload_n 0, 1) (List.mem_of_getElem? (i := 1) rfl)
theorem dX9_init_86 : decode cX9_init 86 = .ok (.iconst 0, 1) := DX9_init_40 (86, .iconst 0, 1) (List.mem_of_getElem? (i := 2) rfl)
theorem dX9_init_87 : decode cX9_init 87 = .ok (.putfield 64, 3) := DX9_init_40 (87, .putfield 64, 3) (List.mem_of_getElem? (i := 3) rfl)
theorem dX9_init_90 : decode cX9_init 90 = .ok (.aload_n 0, 1) := DX9_init_40 (90, .aload_n 0, 1) (List.mem_of_getElem? (i := 4) rfl)
theorem dX9_init_91 : decode cX9_init 91 = .ok (.iconst 0, 1) := DX9_init_40 (91, .iconst 0, 1) (List.mem_of_getElem? (i := 5) rfl)
theorem dX9_init_92 : decode cX9_init 92 = .ok (.putfield 67, 3) := DX9_init_40 (92, .putfield 67, 3) (List.mem_of_getElem? (i := 6) rfl)
theorem dX9_init_95 : decode cX9_init 95 = .ok (.return_, 1) := DX9_init_40 (95, .return_, 1) (List.mem_of_getElem? (i := 7) rfl)
set_option maxRecDepth 20000 in
theorem ggX9_isRunning_X10_isParty : GoodIn wsX9_isRunning wsX10_isParty := goodIn_r _ [5] rfl (by decide +kernel)
set_option maxRecDepth 20000 in
theorem gX9_isRunning_X10_isParty_n73 : GoodIn wsX9_isRunning (wsX10_isParty) := ggX9_isRunning_X10_isParty
set_option maxRecDepth 100000 in
theorem DX9_isFull_0 : ∀ x ∈ ([(0, .aload_n 0, 1), (1, .getfield 12, 3), (4, .getfield 70, 3), (7, .sipush 3500, 3), (10, .if_icmp .le 7, 3), (13, .iconst 1, 1), (14, .goto 4, 3), (17, .iconst 0, 1), (18, .ireturn, 1)] : List (Nat × Instr × Nat)), decode cX9_isFull x.1 = .ok (x.2.1, x.2.2) := by decide +kernel
theorem dX9_isFull_0 : decode cX9_isFull 0 = .ok (.aload_n 0, 1) := DX9_isFull_0 (0, .aload_n 0, 1) (List.mem_of_getElem? (i := 0) rfl)
theorem dX9_isFull_1 : decode cX9_isFull 1 = .ok (.getfield 12, 3) := DX9_isFull_0 (1, .getfield 12, 3) (List.mem_of_getElem? (i := 1) rfl)
theorem dX9_isFull_4 : decode cX9_isFull 4 = .ok (.getfield 70, 3) := DX9_isFull_0 (4, .getfield 70, 3) (List.mem_of_getElem? (i := 2) rfl)
theorem dX9_isFull_7 : decode cX9_isFull 7 = .ok (.sipush 3500, 3) := DX9_isFull_0 (7, .sipush 3500, 3) (List.mem_of_getElem? (i := 3) rfl)
theorem dX9_isFull_10 : decode cX9_isFull 10 = .ok (.if_icmp .le 7, 3) := DX9_isFull_0 (10, .if_icmp .le 7, 3) (List.mem_of_getElem? (i := 4) rfl)
theorem dX9_isFull_13 : decode cX9_isFull 13 = .ok (.iconst 1, 1) := DX9_isFull_0 (13, .iconst 1, 1) (List.mem_of_getElem? (i := 5) rfl)
theorem dX9_isFull_14 : decode cX9_isFull 14 = .ok (.goto 4, 3) := DX9_isFull_0 (14, .goto 4, 3) (List.mem_of_getElem? (i := 6) rfl)
theorem dX9_isFull_17 : decode cX9_isFull 17 = .ok (.iconst 0, 1) := DX9_isFull_0 (17, .iconst 0, 1) (List.mem_of_getElem? (i := 7) rfl)
theorem dX9_isFull_18 : decode cX9_isFull 18 = .ok (.ireturn, 1) := DX9_isFull_0 (18, .ireturn, 1) (List.mem_of_getElem? (i := 8) rfl)
set_option maxRecDepth 20000 in
theorem ggX9_finish_X2_seal : GoodIn wsX9_finish wsX2_seal := goodIn_r _ [8, 9, 10, 11, 26, 27, 28, 29] rfl (by decide +kernel)
set_option maxRecDepth 20000 in
theorem gX9_finish_X2_seal : GoodIn wsX9_finish (wsV RX9 81 RX2 yX2_seal wsX2_seal) := goodIn_app (goodIn_of _ (by decide +kernel)) ggX9_finish_X2_seal
set_option maxRecDepth 100000 in
theorem DX9_isRunning_0 : ∀ x ∈ ([(0, .iload_n 1, 1), (1, .invokestatic 73, 3), (4, .ifCond .eq 20, 3), (7, .aload_n 0, 1), (8, .getfield 28, 3), (11, .getfield 77, 3), (14, .iload_n 1, 1), (15, .iaload, 1), (16, .iconst 1, 1), (17, .if_icmp .ne 7, 3), (20, .iconst 1, 1), (21, .goto 4, 3), (24, .iconst 0, 1), (25, .ireturn, 1)] : List (Nat × Instr × Nat)), decode cX9_isRunning x.1 = .ok (x.2.1, x.2.2) := by decide +kernel
theorem dX9_isRunning_0 : decode cX9_isRunning 0 = .ok (.iload_n 1, 1) := DX9_isRunning_0 (0, .iload_n 1, 1) (List.mem_of_getElem? (i := 0) rfl)
theorem dX9_isRunning_1 : decode cX9_isRunning 1 = .ok (.invokestatic 73, 3) := DX9_isRunning_0 (1, .invokestatic 73, 3) (List.mem_of_getElem? (i := 1) rfl)
theorem dX9_isRunning_4 : decode cX9_isRunning 4 = .ok (.ifCond .eq 20, 3) := DX9_isRunning_0 (4, .ifCond .eq 20, 3) (List.mem_of_getElem? (i := 2) rfl)
theorem dX9_isRunning_7 : decode cX9_isRunning 7 = .ok (.aload_n 0, 1) := DX9_isRunning_0 (7, .aload_n 0, 1) (List.mem_of_getElem? (i := 3) rfl)
theorem dX9_isRunning_8 : decode cX9_isRunning 8 = .ok (.getfield 28, 3) := DX9_isRunning_0 (8, .getfield 28, 3) (List.mem_of_getElem? (i := 4) rfl)
theorem dX9_isRunning_11 : decode cX9_isRunning 11 = .ok (.getfield 77, 3) := DX9_isRunning_0 (11, .getfield 77, 3) (List.mem_of_getElem? (i := 5) rfl)
theorem dX9_isRunning_14 : decode cX9_isRunning 14 = .ok (.iload_n 1, 1) := DX9_isRunning_0 (14, .iload_n 1, 1) (List.mem_of_getElem? (i := 6) rfl)
theorem dX9_isRunning_15 : decode cX9_isRunning 15 = .ok (.iaload, 1) := DX9_isRunning_0 (15, .iaload, 1) (List.mem_of_getElem? (i := 7) rfl)
theorem dX9_isRunning_16 : decode cX9_isRunning 16 = .ok (.iconst 1, 1) := DX9_isRunning_0 (16, .iconst 1, 1) (List.mem_of_getElem? (i := 8) rfl)
theorem dX9_isRunning_17 : decode cX9_isRunning 17 = .ok (.if_icmp .ne 7, 3) := DX9_isRunning_0 (17, .if_icmp .ne 7, 3) (List.mem_of_getElem? (i := 9) rfl)
theorem dX9_isRunning_20 : decode cX9_isRunning 20 = .ok (.iconst 1, 1) := DX9_isRunning_0 (20, .iconst 1, 1) (List.mem_of_getElem? (i := 10) rfl)
theorem dX9_isRunning_21 : decode cX9_isRunning 21 = .ok (.goto 4, 3) := DX9_isRunning_0 (21, .goto 4, 3) (List.mem_of_getElem? (i := 11) rfl)
theorem dX9_isRunning_24 : decode cX9_isRunning 24 = .ok (.iconst 0, 1) := DX9_isRunning_0 (24, .iconst 0, 1) (List.mem_of_getElem? (i := 12) rfl)
theorem dX9_isRunning_25 : decode cX9_isRunning 25 = .ok (.ireturn, 1) := DX9_isRunning_0 (25, .ireturn, 1) (List.mem_of_getElem? (i := 13) rfl)
set_option maxRecDepth 20000 in
theorem ggX9_note_X2_start : GoodIn wsX9_note wsX2_start := goodIn_r _ [8, 9, 10, 11, 12, 13, 7, 14, 15, 39, 40, 41, 42] rfl (by decide +kernel)
set_option maxRecDepth 20000 in
theorem gX9_note_X2_start : GoodIn wsX9_note (wsV RX9 88 RX2 yX2_start wsX2_start) := goodIn_app (goodIn_of _ (by decide +kernel)) ggX9_note_X2_start
set_option maxRecDepth 20000 in
theorem ggX9_note_X9_finish : GoodIn wsX9_note wsX9_finish := goodIn_r _ [20, 1, 2, 3, 21, 22, 23, 7, 24, 9, 10, 15, 25, 26, 27, 28, 29, 30, 31, 32, 33, 34, 35, 36, 37, 38, 39, 40, 41, 42] rfl (by decide +kernel)
set_option maxRecDepth 20000 in
theorem gX9_note_X9_finish : GoodIn wsX9_note (wsV RX9 92 RX9 yX9_finish wsX9_finish) := goodIn_app (goodIn_of _ (by decide +kernel)) ggX9_note_X9_finish
set_option maxRecDepth 100000 in
theorem DX9_finish_0 : ∀ x ∈ ([(0, .aload_n 0, 1), (1, .getfield 12, 3), (4, .invokevirtual 81, 3), (7, .istore_n 2, 1), (8, .aload_n 0, 1), (9, .getfield 28, 3), (12, .getfield 85, 3), (15, .iload_n 1, 1), (16, .iload_n 2, 1), (17, .iastore, 1), (18, .iload_n 2, 1), (19, .ireturn, 1)] : List (Nat × Instr × Nat)), decode cX9_finish x.1 = .ok (x.2.1, x.2.2) := by decide +kernel
theorem dX9_finish_0 : decode cX9_finish 0 = .ok (.aload_n 0, 1) := DX9_finish_0 (0, .aload_n 0, 1) (List.mem_of_getElem? (i := 0) rfl)
theorem dX9_finish_1 : decode cX9_finish 1 = .ok (.getfield 12, 3) := DX9_finish_0 (1, .getfield 12, 3) (List.mem_of_getElem? (i := 1) rfl)
theorem dX9_finish_4 : decode cX9_finish 4 = .ok (.invokevirtual 81, 3) := DX9_finish_0 (4, .invokevirtual 81, 3) (List.mem_of_getElem? (i := 2) rfl)
theorem dX9_finish_7 : decode cX9_finish 7 = .ok (.istore_n 2, 1) := DX9_finish_0 (7, .istore_n 2, 1) (List.mem_of_getElem? (i := 3) rfl)
theorem dX9_finish_8 : decode cX9_finish 8 = .ok (.aload_n 0, 1) := DX9_finish_0 (8, .aload_n 0, 1) (List.mem_of_getElem? (i := 4) rfl)
theorem dX9_finish_9 : decode cX9_finish 9 = .ok (.getfield 28, 3) := DX9_finish_0 (9, .getfield 28, 3) (List.mem_of_getElem? (i := 5) rfl)
theorem dX9_finish_12 : decode cX9_finish 12 = .ok (.getfield 85, 3) := DX9_finish_0 (12, .getfield 85, 3) (List.mem_of_getElem? (i := 6) rfl)
theorem dX9_finish_15 : decode cX9_finish 15 = .ok (.iload_n 1, 1) := DX9_finish_0 (15, .iload_n 1, 1) (List.mem_of_getElem? (i := 7) rfl)
theorem dX9_finish_16 : decode cX9_finish 16 = .ok (.iload_n 2, 1) := DX9_finish_0 (16, .iload_n 2, 1) (List.mem_of_getElem? (i := 8) rfl)
theorem dX9_finish_17 : decode cX9_finish 17 = .ok (.iastore, 1) := DX9_finish_0 (17, .iastore, 1) (List.mem_of_getElem? (i := 9) rfl)
theorem dX9_finish_18 : decode cX9_finish 18 = .ok (.iload_n 2, 1) := DX9_finish_0 (18, .iload_n 2, 1) (List.mem_of_getElem? (i := 10) rfl)
theorem dX9_finish_19 : decode cX9_finish 19 = .ok (.ireturn, 1) := DX9_finish_0 (19, .ireturn, 1) (List.mem_of_getElem? (i := 11) rfl)
set_option maxRecDepth 20000 in
theorem ggX9_endOf_X9_note : GoodIn wsX9_endOf wsX9_note := goodIn_r _ [7, 8, 1, 9, 10, 11, 12, 13, 14, 15, 16, 17, 18, 19, 20, 21, 22, 23, 24, 6, 25, 26, 27, 28, 29, 52, 53, 54, 55, 56, 57, 58, 59, 60, 61, 62, 63, 64, 65, 66, 67, 68, 69] rfl (by decide +kernel)
set_option maxRecDepth 20000 in
theorem gX9_endOf_X9_note : GoodIn wsX9_endOf (wsV RX9 96 RX9 yX9_note wsX9_note) := goodIn_app (goodIn_of _ (by decide +kernel)) ggX9_endOf_X9_note
set_option maxRecDepth 20000 in
theorem ggX9_endOf_X5_remove : GoodIn wsX9_endOf wsX5_remove := goodIn_r _ [34, 35, 36, 37, 63, 64, 65] rfl (by decide +kernel)
set_option maxRecDepth 20000 in
theorem gX9_endOf_X5_remove : GoodIn wsX9_endOf (wsV RX9 100 RX5 yX5_remove wsX5_remove) := goodIn_app (goodIn_of _ (by decide +kernel)) ggX9_endOf_X5_remove
set_option maxRecDepth 20000 in
theorem ggX9_endOf_X0_forget : GoodIn wsX9_endOf wsX0_forget := goodIn_r _ [42, 43, 44, 45, 46, 47, 48, 41, 49, 50, 51, 70, 71, 72, 73, 74, 75, 76] rfl (by decide +kernel)
set_option maxRecDepth 20000 in
theorem gX9_endOf_X0_forget : GoodIn wsX9_endOf (wsV RX9 104 RX0 yX0_forget wsX0_forget) := goodIn_app (goodIn_of _ (by decide +kernel)) ggX9_endOf_X0_forget
set_option maxRecDepth 100000 in
theorem DX9_note_0 : ∀ x ∈ ([(0, .aload_n 0, 1), (1, .getfield 12, 3), (4, .iload_n 2, 1), (5, .iload_n 1, 1), (6, .aload_n 0, 1), (7, .getfield 28, 3), (10, .getfield 85, 3), (13, .iload_n 1, 1), (14, .iaload, 1), (15, .invokevirtual 88, 3), (18, .aload_n 0, 1), (19, .iload_n 1, 1), (20, .invokevirtual 92, 3), (23, .ireturn, 1)] : List (Nat × Instr × Nat)), decode cX9_note x.1 = .ok (x.2.1, x.2.2) := by decide +kernel
theorem dX9_note_0 : decode cX9_note 0 = .ok (.aload_n 0, 1) := DX9_note_0 (0, .aload_n 0, 1) (List.mem_of_getElem? (i := 0) rfl)
theorem dX9_note_1 : decode cX9_note 1 = .ok (.getfield 12, 3) := DX9_note_0 (1, .getfield 12, 3) (List.mem_of_getElem? (i := 1) rfl)
theorem dX9_note_4 : decode cX9_note 4 = .ok (.iload_n 2, 1) := DX9_note_0 (4, .iload_n 2, 1) (List.mem_of_getElem? (i := 2) rfl)
theorem dX9_note_5 : decode cX9_note 5 = .ok (.iload_n 1, 1) := DX9_note_0 (5, .iload_n 1, 1) (List.mem_of_getElem? (i := 3) rfl)
theorem dX9_note_6 : decode cX9_note 6 = .ok (.aload_n 0, 1) := DX9_note_0 (6, .aload_n 0, 1) (List.mem_of_getElem? (i := 4) rfl)
theorem dX9_note_7 : decode cX9_note 7 = .ok (.getfield 28, 3) := DX9_note_0 (7, .getfield 28, 3) (List.mem_of_getElem? (i := 5) rfl)
theorem dX9_note_10 : decode cX9_note 10 = .ok (.getfield 85, 3) := DX9_note_0 (10, .getfield 85, 3) (List.mem_of_getElem? (i := 6) rfl)
theorem dX9_note_13 : decode cX9_note 13 = .ok (.iload_n 1, 1) := DX9_note_0 (13, .iload_n 1, 1) (List.mem_of_getElem? (i := 7) rfl)
theorem dX9_note_14 : decode cX9_note 14 = .ok (.iaload, 1) := DX9_note_0 (14, .iaload, 1) (List.mem_of_getElem? (i := 8) rfl)
theorem dX9_note_15 : decode cX9_note 15 = .ok (.invokevirtual 88, 3) := DX9_note_0 (15, .invokevirtual 88, 3) (List.mem_of_getElem? (i := 9) rfl)
theorem dX9_note_18 : decode cX9_note 18 = .ok (.aload_n 0, 1) := DX9_note_0 (18, .aload_n 0, 1) (List.mem_of_getElem? (i := 10) rfl)
theorem dX9_note_19 : decode cX9_note 19 = .ok (.iload_n 1, 1) := DX9_note_0 (19, .iload_n 1, 1) (List.mem_of_getElem? (i := 11) rfl)
theorem dX9_note_20 : decode cX9_note 20 = .ok (.invokevirtual 92, 3) := DX9_note_0 (20, .invokevirtual 92, 3) (List.mem_of_getElem? (i := 12) rfl)
theorem dX9_note_23 : decode cX9_note 23 = .ok (.ireturn, 1) := DX9_note_0 (23, .ireturn, 1) (List.mem_of_getElem? (i := 13) rfl)
set_option maxRecDepth 20000 in
theorem ggX9_begin_X10_isParty : GoodIn wsX9_begin wsX10_isParty := goodIn_r _ [6] rfl (by decide +kernel)
set_option maxRecDepth 20000 in
theorem gX9_begin_X10_isParty_n73 : GoodIn wsX9_begin (wsX10_isParty) := ggX9_begin_X10_isParty
set_option maxRecDepth 20000 in
theorem ggX9_begin_X9_isFull : GoodIn wsX9_begin wsX9_isFull := goodIn_r _ [11, 12, 13, 39, 40, 41, 42, 43, 44, 45, 46, 47, 48, 49, 53, 54, 55, 56] rfl (by decide +kernel)
set_option maxRecDepth 20000 in
theorem gX9_begin_X9_isFull : GoodIn wsX9_begin (wsV RX9 107 RX9 yX9_isFull wsX9_isFull) := goodIn_app (goodIn_of _ (by decide +kernel)) ggX9_begin_X9_isFull
set_option maxRecDepth 20000 in
theorem ggX9_begin_X9_note : GoodIn wsX9_begin wsX9_note := goodIn_r _ [17, 12, 2, 18, 19, 20, 21, 22, 23, 24, 25, 26, 27, 28, 29, 30, 31, 32, 33, 10, 34, 35, 36, 37, 38, 39, 40, 41, 42, 43, 44, 45, 46, 47, 48, 49, 50, 51, 52, 53, 54, 55, 56] rfl (by decide +kernel)
set_option maxRecDepth 20000 in
theorem gX9_begin_X9_note : GoodIn wsX9_begin (wsV RX9 96 RX9 yX9_note wsX9_note) := goodIn_app (goodIn_of _ (by decide +kernel)) ggX9_begin_X9_note
set_option maxRecDepth 100000 in
theorem DX9_endOf_0 : ∀ x ∈ ([(0, .aload_n 0, 1), (1, .iload_n 1, 1), (2, .bipush 7, 2), (4, .invokevirtual 96, 3), (7, .pop, 1), (8, .aload_n 0, 1), (9, .getfield 28, 3), (12, .iload_n 1, 1), (13, .invokevirtual 100, 3), (16, .aload_n 0, 1), (17, .getfield 35, 3), (20, .iload_n 1, 1), (21, .invokevirtual 104, 3), (24, .return_, 1)] : List (Nat × Instr × Nat)), decode cX9_endOf x.1 = .ok (x.2.1, x.2.2) := by decide +kernel
theorem dX9_endOf_0 : decode cX9_endOf 0 = .ok (.aload_n 0, 1) := DX9_endOf_0 (0, .aload_n 0, 1) (List.mem_of_getElem? (i := 0) rfl)
theorem dX9_endOf_1 : decode cX9_endOf 1 = .ok (.iload_n 1, 1) := DX9_endOf_0 (1, .iload_n 1, 1) (List.mem_of_getElem? (i := 1) rfl)
theorem dX9_endOf_2 : decode cX9_endOf 2 = .ok (.bipush 7, 2) := DX9_endOf_0 (2, .bipush 7, 2) (List.mem_of_getElem? (i := 2) rfl)
theorem dX9_endOf_4 : decode cX9_endOf 4 = .ok (.invokevirtual 96, 3) := DX9_endOf_0 (4, .invokevirtual 96, 3) (List.mem_of_getElem? (i := 3) rfl)
theorem dX9_endOf_7 : decode cX9_endOf 7 = .ok (.pop, 1) := DX9_endOf_0 (7, .pop, 1) (List.mem_of_getElem? (i := 4) rfl)
theorem dX9_endOf_8 : decode cX9_endOf 8 = .ok (.aload_n 0, 1) := DX9_endOf_0 (8, .aload_n 0, 1) (List.mem_of_getElem? (i := 5) rfl)
theorem dX9_endOf_9 : decode cX9_endOf 9 = .ok (.getfield 28, 3) := DX9_endOf_0 (9, .getfield 28, 3) (List.mem_of_getElem? (i := 6) rfl)
theorem dX9_endOf_12 : decode cX9_endOf 12 = .ok (.iload_n 1, 1) := DX9_endOf_0 (12, .iload_n 1, 1) (List.mem_of_getElem? (i := 7) rfl)
theorem dX9_endOf_13 : decode cX9_endOf 13 = .ok (.invokevirtual 100, 3) := DX9_endOf_0 (13, .invokevirtual 100, 3) (List.mem_of_getElem? (i := 8) rfl)
theorem dX9_endOf_16 : decode cX9_endOf 16 = .ok (.aload_n 0, 1) := DX9_endOf_0 (16, .aload_n 0, 1) (List.mem_of_getElem? (i := 9) rfl)
theorem dX9_endOf_17 : decode cX9_endOf 17 = .ok (.getfield 35, 3) := DX9_endOf_0 (17, .getfield 35, 3) (List.mem_of_getElem? (i := 10) rfl)
theorem dX9_endOf_20 : decode cX9_endOf 20 = .ok (.iload_n 1, 1) := DX9_endOf_0 (20, .iload_n 1, 1) (List.mem_of_getElem? (i := 11) rfl)
theorem dX9_endOf_21 : decode cX9_endOf 21 = .ok (.invokevirtual 104, 3) := DX9_endOf_0 (21, .invokevirtual 104, 3) (List.mem_of_getElem? (i := 12) rfl)
theorem dX9_endOf_24 : decode cX9_endOf 24 = .ok (.return_, 1) := DX9_endOf_0 (24, .return_, 1) (List.mem_of_getElem? (i := 13) rfl)
set_option maxRecDepth 20000 in
theorem ggX9_commit_X9_isRunning : GoodIn wsX9_commit wsX9_isRunning := goodIn_r _ [8, 9, 10, 11, 12, 13, 79, 80, 81, 82, 83, 84, 85, 86, 87, 88, 89, 97, 98, 99] rfl (by decide +kernel)
set_option maxRecDepth 20000 in
theorem gX9_commit_X9_isRunning : GoodIn wsX9_commit (wsV RX9 111 RX9 yX9_isRunning wsX9_isRunning) := goodIn_app (goodIn_of _ (by decide +kernel)) ggX9_commit_X9_isRunning
set_option maxRecDepth 20000 in
theorem ggX9_commit_X9_isFull : GoodIn wsX9_commit wsX9_isFull := goodIn_r _ [17, 3, 18, 79, 80, 81, 82, 83, 84, 85, 86, 87, 88, 89, 100, 101, 102, 103] rfl (by decide +kernel)
set_option maxRecDepth 20000 in
theorem gX9_commit_X9_isFull : GoodIn wsX9_commit (wsV RX9 107 RX9 yX9_isFull wsX9_isFull) := goodIn_app (goodIn_of _ (by decide +kernel)) ggX9_commit_X9_isFull
set_option maxRecDepth 20000 in
theorem ggX9_commit_X9_note : GoodIn wsX9_commit wsX9_note := goodIn_r _ [22, 3, 9, 23, 24, 25, 26, 27, 28, 29, 30, 31, 32, 33, 34, 35, 36, 37, 38, 7, 39, 40, 41, 42, 43, 79, 80, 81, 82, 83, 84, 85, 86, 87, 88, 89, 97, 98, 99, 100, 101, 102, 103] rfl (by decide +kernel)
set_option maxRecDepth 20000 in
theorem gX9_commit_X9_note : GoodIn wsX9_commit (wsV RX9 96 RX9 yX9_note wsX9_note) := goodIn_app (goodIn_of _ (by decide +kernel)) ggX9_commit_X9_note
set_option maxRecDepth 20000 in
theorem ggX9_commit_X2_flushThrough : GoodIn wsX9_commit wsX2_flushThrough := goodIn_r _ [47, 48, 49, 50, 51, 27, 52, 29, 35, 100, 101, 102, 103] rfl (by decide +kernel)
set_option maxRecDepth 20000 in
theorem gX9_commit_X2_flushThrough : GoodIn wsX9_commit (wsV RX9 117 RX2 yX2_flushThrough wsX2_flushThrough) := goodIn_app (goodIn_of _ (by decide +kernel)) ggX9_commit_X2_flushThrough
set_option maxRecDepth 20000 in
theorem ggX9_commit_X9_endOf : GoodIn wsX9_commit wsX9_endOf := goodIn_r _ [56, 9, 1, 19, 20, 21, 7, 22, 3, 23, 24, 25, 26, 27, 28, 29, 30, 31, 32, 33, 34, 35, 36, 37, 38, 39, 40, 41, 42, 43, 57, 58, 59, 60, 61, 62, 63, 64, 65, 66, 67, 68, 69, 70, 71, 72, 73, 74, 75, 76, 77, 78, 79, 80, 81, 82, 83, 84, 85, 86, 87, 88, 89, 97, 98, 99, 100, 101, 102, 103, 90, 91, 92, 93, 94, 95, 96] rfl (by decide +kernel)
set_option maxRecDepth 20000 in
theorem gX9_commit_X9_endOf : GoodIn wsX9_commit (wsV RX9 120 RX9 yX9_endOf wsX9_endOf) := goodIn_app (goodIn_of _ (by decide +kernel)) ggX9_commit_X9_endOf
set_option maxRecDepth 100000 in
theorem DX9_begin_0 : ∀ x ∈ ([(0, .aload_n 0, 1), (1, .getfield 53, 3), (4, .ifCond .eq 29, 3), (7, .iload_n 1, 1), (8, .invokestatic 73, 3), (11, .ifCond .eq 22, 3), (14, .aload_n 0, 1), (15, .getfield 28, 3), (18, .getfield 77, 3), (21, .iload_n 1, 1), (22, .iaload, 1), (23, .ifCond .ne 10, 3), (26, .aload_n 0, 1), (27, .invokevirtual 107, 3), (30, .ifCond .eq 5, 3), (33, .iconst 0, 1), (34, .ireturn, 1), (35, .aload_n 0, 1), (36, .iload_n 1, 1), (37, .iconst 1, 1), (38, .invokevirtual 96, 3), (41, .pop, 1), (42, .aload_n 0, 1), (43, .getfield 28, 3), (46, .getfield 77, 3), (49, .iload_n 1, 1), (50, .iconst 1, 1), (51, .iastore, 1), (52, .iconst 1, 1), (53, .ireturn, 1)] : List (Nat × Instr × Nat)), decode cX9_begin x.1 = .ok (x.2.1, x.2.2) := by decide +kernel
theorem dX9_begin_0 : decode cX9_begin 0 = .ok (.aload_n 0, 1) := DX9_begin_0 (0, .aload_n 0, 1) (List.mem_of_getElem? (i := 0) rfl)
theorem dX9_begin_1 : decode cX9_begin 1 = .ok (.getfield 53, 3) := DX9_begin_0 (1, .getfield 53, 3) (List.mem_of_getElem? (i := 1) rfl)
theorem dX9_begin_4 : decode cX9_begin 4 = .ok (.ifCond .eq 29, 3) := DX9_begin_0 (4, .ifCond .eq 29, 3) (List.mem_of_getElem? (i := 2) rfl)
theorem dX9_begin_7 : decode cX9_begin 7 = .ok (.iload_n 1, 1) := DX9_begin_0 (7, .iload_n 1, 1) (List.mem_of_getElem? (i := 3) rfl)
theorem dX9_begin_8 : decode cX9_begin 8 = .ok (.invokestatic 73, 3) := DX9_begin_0 (8, .invokestatic 73, 3) (List.mem_of_getElem? (i := 4) rfl)
theorem dX9_begin_11 : decode cX9_begin 11 = .ok (.ifCond .eq 22, 3) := DX9_begin_0 (11, .ifCond .eq 22, 3) (List.mem_of_getElem? (i := 5) rfl)
theorem dX9_begin_14 : decode cX9_begin 14 = .ok (.aload_n 0, 1) := DX9_begin_0 (14, .aload_n 0, 1) (List.mem_of_getElem? (i := 6) rfl)
theorem dX9_begin_15 : decode cX9_begin 15 = .ok (.getfield 28, 3) := DX9_begin_0 (15, .getfield 28, 3) (List.mem_of_getElem? (i := 7) rfl)
theorem dX9_begin_18 : decode cX9_begin 18 = .ok (.getfield 77, 3) := DX9_begin_0 (18, .getfield 77, 3) (List.mem_of_getElem? (i := 8) rfl)
theorem dX9_begin_21 : decode cX9_begin 21 = .ok (.iload_n 1, 1) := DX9_begin_0 (21, .iload_n 1, 1) (List.mem_of_getElem? (i := 9) rfl)
theorem dX9_begin_22 : decode cX9_begin 22 = .ok (.iaload, 1) := DX9_begin_0 (22, .iaload, 1) (List.mem_of_getElem? (i := 10) rfl)
theorem dX9_begin_23 : decode cX9_begin 23 = .ok (.ifCond .ne 10, 3) := DX9_begin_0 (23, .ifCond .ne 10, 3) (List.mem_of_getElem? (i := 11) rfl)
theorem dX9_begin_26 : decode cX9_begin 26 = .ok (.aload_n 0, 1) := DX9_begin_0 (26, .aload_n 0, 1) (List.mem_of_getElem? (i := 12) rfl)
theorem dX9_begin_27 : decode cX9_begin 27 = .ok (.invokevirtual 107, 3) := DX9_begin_0 (27, .invokevirtual 107, 3) (List.mem_of_getElem? (i := 13) rfl)
theorem dX9_begin_30 : decode cX9_begin 30 = .ok (.ifCond .eq 5, 3) := DX9_begin_0 (30, .ifCond .eq 5, 3) (List.mem_of_getElem? (i := 14) rfl)
theorem dX9_begin_33 : decode cX9_begin 33 = .ok (.iconst 0, 1) := DX9_begin_0 (33, .iconst 0, 1) (List.mem_of_getElem? (i := 15) rfl)
theorem dX9_begin_34 : decode cX9_begin 34 = .ok (.ireturn, 1) := DX9_begin_0 (34, .ireturn, 1) (List.mem_of_getElem? (i := 16) rfl)
theorem dX9_begin_35 : decode cX9_begin 35 = .ok (.aload_n 0, 1) := DX9_begin_0 (35, .aload_n 0, 1) (List.mem_of_getElem? (i := 17) rfl)
theorem dX9_begin_36 : decode cX9_begin 36 = .ok (.iload_n 1, 1) := DX9_begin_0 (36, .iload_n 1, 1) (List.mem_of_getElem? (i := 18) rfl)
theorem dX9_begin_37 : decode cX9_begin 37 = .ok (.iconst 1, 1) := DX9_begin_0 (37, .iconst 1, 1) (List.mem_of_getElem? (i := 19) rfl)
theorem dX9_begin_38 : decode cX9_begin 38 = .ok (.invokevirtual 96, 3) := DX9_begin_0 (38, .invokevirtual 96, 3) (List.mem_of_getElem? (i := 20) rfl)
theorem dX9_begin_41 : decode cX9_begin 41 = .ok (.pop, 1) := DX9_begin_0 (41, .pop, 1) (List.mem_of_getElem? (i := 21) rfl)
theorem dX9_begin_42 : decode cX9_begin 42 = .ok (.aload_n 0, 1) := DX9_begin_0 (42, .aload_n 0, 1) (List.mem_of_getElem? (i := 22) rfl)
theorem dX9_begin_43 : decode cX9_begin 43 = .ok (.getfield 28, 3) := DX9_begin_0 (43, .getfield 28, 3) (List.mem_of_getElem? (i := 23) rfl)
theorem dX9_begin_46 : decode cX9_begin 46 = .ok (.getfield 77, 3) := DX9_begin_0 (46, .getfield 77, 3) (List.mem_of_getElem? (i := 24) rfl)
theorem dX9_begin_49 : decode cX9_begin 49 = .ok (.iload_n 1, 1) := DX9_begin_0 (49, .iload_n 1, 1) (List.mem_of_getElem? (i := 25) rfl)
theorem dX9_begin_50 : decode cX9_begin 50 = .ok (.iconst 1, 1) := DX9_begin_0 (50, .iconst 1, 1) (List.mem_of_getElem? (i := 26) rfl)
theorem dX9_begin_51 : decode cX9_begin 51 = .ok (.iastore, 1) := DX9_begin_0 (51, .iastore, 1) (List.mem_of_getElem? (i := 27) rfl)
theorem dX9_begin_52 : decode cX9_begin 52 = .ok (.iconst 1, 1) := DX9_begin_0 (52, .iconst 1, 1) (List.mem_of_getElem? (i := 28) rfl)
theorem dX9_begin_53 : decode cX9_begin 53 = .ok (.ireturn, 1) := DX9_begin_0 (53, .ireturn, 1) (List.mem_of_getElem? (i := 29) rfl)
set_option maxRecDepth 20000 in
theorem ggX9_abort_X9_isRunning : GoodIn wsX9_abort wsX9_isRunning := goodIn_r _ [10, 1, 3, 11, 12, 13, 47, 48, 49, 50, 51, 52, 53, 54, 55, 56, 57, 58, 59, 60] rfl (by decide +kernel)
set_option maxRecDepth 20000 in
theorem gX9_abort_X9_isRunning : GoodIn wsX9_abort (wsV RX9 111 RX9 yX9_isRunning wsX9_isRunning) := goodIn_app (goodIn_of _ (by decide +kernel)) ggX9_abort_X9_isRunning
set_option maxRecDepth 20000 in
theorem ggX9_abort_X9_note : GoodIn wsX9_abort wsX9_note := goodIn_r _ [17, 18, 1, 19, 20, 21, 22, 23, 24, 25, 26, 27, 28, 29, 30, 31, 32, 33, 34, 9, 35, 36, 37, 38, 39, 47, 48, 49, 50, 51, 52, 53, 54, 55, 56, 57, 58, 59, 60, 68, 69, 70, 71] rfl (by decide +kernel)
set_option maxRecDepth 20000 in
theorem gX9_abort_X9_note : GoodIn wsX9_abort (wsV RX9 96 RX9 yX9_note wsX9_note) := goodIn_app (goodIn_of _ (by decide +kernel)) ggX9_abort_X9_note
set_option maxRecDepth 20000 in
theorem ggX9_abort_X0_dropMarks : GoodIn wsX9_abort wsX0_dropMarks := goodIn_r _ [44, 45, 46, 61, 62, 63, 64, 65, 66, 67] rfl (by decide +kernel)
set_option maxRecDepth 20000 in
theorem gX9_abort_X0_dropMarks : GoodIn wsX9_abort (wsV RX9 126 RX0 yX0_dropMarks wsX0_dropMarks) := goodIn_app (goodIn_of _ (by decide +kernel)) ggX9_abort_X0_dropMarks
set_option maxRecDepth 100000 in
theorem DX9_commit_0 : ∀ x ∈ ([(0, .aload_n 0, 1), (1, .iload_n 1, 1), (2, .invokevirtual 111, 3), (5, .ifCond .eq 22, 3), (8, .aload_n 0, 1), (9, .getfield 35, 3), (12, .getfield 114, 3), (15, .iload_n 1, 1), (16, .iaload, 1), (17, .ifCond .gt 10, 3), (20, .aload_n 0, 1), (21, .invokevirtual 107, 3), (24, .ifCond .eq 5, 3), (27, .iconst 0, 1), (28, .ireturn, 1), (29, .aload_n 0, 1), (30, .getfield 12, 3), (33, .aload_n 0, 1), (34, .iload_n 1, 1), (35, .iconst 5, 1), (36, .invokevirtual 96, 3), (39, .invokevirtual 117, 3), (42, .aload_n 0, 1), (43, .iload_n 1, 1), (44, .invokevirtual 120, 3), (47, .iconst 1, 1), (48, .ireturn, 1)] : List (Nat × Instr × Nat)), decode cX9_commit x.1 = .ok (x.2.1, x.2.2) := by decide +kernel
theorem dX9_commit_0 : decode cX9_commit 0 = .ok (.aload_n 0, 1) := DX9_commit_0 (0, .aload_n 0, 1) (List.mem_of_getElem? (i := 0) rfl)
theorem dX9_commit_1 : decode cX9_commit 1 = .ok (.iload_n 1, 1) := DX9_commit_0 (1, .iload_n 1, 1) (List.mem_of_getElem? (i := 1) rfl)
theorem dX9_commit_2 : decode cX9_commit 2 = .ok (.invokevirtual 111, 3) := DX9_commit_0 (2, .invokevirtual 111, 3) (List.mem_of_getElem? (i := 2) rfl)
theorem dX9_commit_5 : decode cX9_commit 5 = .ok (.ifCond .eq 22, 3) := DX9_commit_0 (5, .ifCond .eq 22, 3) (List.mem_of_getElem? (i := 3) rfl)
theorem dX9_commit_8 : decode cX9_commit 8 = .ok (.aload_n 0, 1) := DX9_commit_0 (8, .aload_n 0, 1) (List.mem_of_getElem? (i := 4) rfl)
theorem dX9_commit_9 : decode cX9_commit 9 = .ok (.getfield 35, 3) := DX9_commit_0 (9, .getfield 35, 3) (List.mem_of_getElem? (i := 5) rfl)
theorem dX9_commit_12 : decode cX9_commit 12 = .ok (.getfield 114, 3) := DX9_commit_0 (12, .getfield 114, 3) (List.mem_of_getElem? (i := 6) rfl)
theorem dX9_commit_15 : decode cX9_commit 15 = .ok (.iload_n 1, 1) := DX9_commit_0 (15, .iload_n 1, 1) (List.mem_of_getElem? (i := 7) rfl)
theorem dX9_commit_16 : decode cX9_commit 16 = .ok (.iaload, 1) := DX9_commit_0 (16, .iaload, 1) (List.mem_of_getElem? (i := 8) rfl)
theorem dX9_commit_17 : decode cX9_commit 17 = .ok (.ifCond .gt 10, 3) := DX9_commit_0 (17, .ifCond .gt 10, 3) (List.mem_of_getElem? (i := 9) rfl)
theorem dX9_commit_20 : decode cX9_commit 20 = .ok (.aload_n 0, 1) := DX9_commit_0 (20, .aload_n 0, 1) (List.mem_of_getElem? (i := 10) rfl)
theorem dX9_commit_21 : decode cX9_commit 21 = .ok (.invokevirtual 107, 3) := DX9_commit_0 (21, .invokevirtual 107, 3) (List.mem_of_getElem? (i := 11) rfl)
theorem dX9_commit_24 : decode cX9_commit 24 = .ok (.ifCond .eq 5, 3) := DX9_commit_0 (24, .ifCond .eq 5, 3) (List.mem_of_getElem? (i := 12) rfl)
theorem dX9_commit_27 : decode cX9_commit 27 = .ok (.iconst 0, 1) := DX9_commit_0 (27, .iconst 0, 1) (List.mem_of_getElem? (i := 13) rfl)
theorem dX9_commit_28 : decode cX9_commit 28 = .ok (.ireturn, 1) := DX9_commit_0 (28, .ireturn, 1) (List.mem_of_getElem? (i := 14) rfl)
theorem dX9_commit_29 : decode cX9_commit 29 = .ok (.aload_n 0, 1) := DX9_commit_0 (29, .aload_n 0, 1) (List.mem_of_getElem? (i := 15) rfl)
theorem dX9_commit_30 : decode cX9_commit 30 = .ok (.getfield 12, 3) := DX9_commit_0 (30, .getfield 12, 3) (List.mem_of_getElem? (i := 16) rfl)
theorem dX9_commit_33 : decode cX9_commit 33 = .ok (.aload_n 0, 1) := DX9_commit_0 (33, .aload_n 0, 1) (List.mem_of_getElem? (i := 17) rfl)
theorem dX9_commit_34 : decode cX9_commit 34 = .ok (.iload_n 1, 1) := DX9_commit_0 (34, .iload_n 1, 1) (List.mem_of_getElem? (i := 18) rfl)
theorem dX9_commit_35 : decode cX9_commit 35 = .ok (.iconst 5, 1) := DX9_commit_0 (35, .iconst 5, 1) (List.mem_of_getElem? (i := 19) rfl)
theorem dX9_commit_36 : decode cX9_commit 36 = .ok (.invokevirtual 96, 3) := DX9_commit_0 (36, .invokevirtual 96, 3) (List.mem_of_getElem? (i := 20) rfl)
theorem dX9_commit_39 : decode cX9_commit 39 = .ok (.invokevirtual 117, 3) := DX9_commit_0 (39, .invokevirtual 117, 3) (List.mem_of_getElem? (i := 21) rfl)
theorem dX9_commit_42 : decode cX9_commit 42 = .ok (.aload_n 0, 1) := DX9_commit_0 (42, .aload_n 0, 1) (List.mem_of_getElem? (i := 22) rfl)
theorem dX9_commit_43 : decode cX9_commit 43 = .ok (.iload_n 1, 1) := DX9_commit_0 (43, .iload_n 1, 1) (List.mem_of_getElem? (i := 23) rfl)
theorem dX9_commit_44 : decode cX9_commit 44 = .ok (.invokevirtual 120, 3) := DX9_commit_0 (44, .invokevirtual 120, 3) (List.mem_of_getElem? (i := 24) rfl)
theorem dX9_commit_47 : decode cX9_commit 47 = .ok (.iconst 1, 1) := DX9_commit_0 (47, .iconst 1, 1) (List.mem_of_getElem? (i := 25) rfl)
theorem dX9_commit_48 : decode cX9_commit 48 = .ok (.ireturn, 1) := DX9_commit_0 (48, .ireturn, 1) (List.mem_of_getElem? (i := 26) rfl)
set_option maxRecDepth 20000 in
theorem ggX9_openTop_X9_isRunning : GoodIn wsX9_openTop wsX9_isRunning := goodIn_r _ [8, 2, 9, 10, 11, 12, 20, 21, 22, 23, 24, 25, 26, 27, 28, 29, 30, 31, 32, 33] rfl (by decide +kernel)
set_option maxRecDepth 20000 in
theorem gX9_openTop_X9_isRunning : GoodIn wsX9_openTop (wsV RX9 111 RX9 yX9_isRunning wsX9_isRunning) := goodIn_app (goodIn_of _ (by decide +kernel)) ggX9_openTop_X9_isRunning
set_option maxRecDepth 20000 in
theorem ggX9_openTop_X0_putTop : GoodIn wsX9_openTop wsX0_putTop := goodIn_r _ [17, 18, 19, 34, 35, 36, 37, 38, 39, 40] rfl (by decide +kernel)
set_option maxRecDepth 20000 in
theorem gX9_openTop_X0_putTop : GoodIn wsX9_openTop (wsV RX9 132 RX0 yX0_putTop wsX0_putTop) := goodIn_app (goodIn_of _ (by decide +kernel)) ggX9_openTop_X0_putTop
set_option maxRecDepth 100000 in
theorem DX9_abort_0 : ∀ x ∈ ([(0, .aload_n 0, 1), (1, .iload_n 1, 1), (2, .invokevirtual 111, 3), (5, .ifCond .ne 5, 3), (8, .iconst 0, 1), (9, .ireturn, 1), (10, .aload_n 0, 1), (11, .getfield 28, 3), (14, .getfield 123, 3), (17, .iload_n 1, 1), (18, .aload_n 0, 1), (19, .iload_n 1, 1), (20, .bipush 6, 2), (22, .invokevirtual 96, 3), (25, .iastore, 1), (26, .aload_n 0, 1), (27, .getfield 28, 3), (30, .getfield 77, 3), (33, .iload_n 1, 1), (34, .iconst 2, 1), (35, .iastore, 1), (36, .aload_n 0, 1), (37, .getfield 35, 3), (40, .iload_n 1, 1), (41, .invokevirtual 126, 3), (44, .aload_n 0, 1), (45, .getfield 35, 3), (48, .getfield 129, 3), (51, .iload_n 1, 1), (52, .iconst 0, 1), (53, .iastore, 1), (54, .iconst 1, 1), (55, .ireturn, 1)] : List (Nat × Instr × Nat)), decode cX9_abort x.1 = .ok (x.2.1, x.2.2) := by decide +kernel
theorem dX9_abort_0 : decode cX9_abort 0 = .ok (.aload_n 0, 1) := DX9_abort_0 (0, .aload_n 0, 1) (List.mem_of_getElem? (i := 0) rfl)
theorem dX9_abort_1 : decode cX9_abort 1 = .ok (.iload_n 1, 1) := DX9_abort_0 (1, .iload_n 1, 1) (List.mem_of_getElem? (i := 1) rfl)
theorem dX9_abort_2 : decode cX9_abort 2 = .ok (.invokevirtual 111, 3) := DX9_abort_0 (2, .invokevirtual 111, 3) (List.mem_of_getElem? (i := 2) rfl)
theorem dX9_abort_5 : decode cX9_abort 5 = .ok (.ifCond .ne 5, 3) := DX9_abort_0 (5, .ifCond .ne 5, 3) (List.mem_of_getElem? (i := 3) rfl)
theorem dX9_abort_8 : decode cX9_abort 8 = .ok (.iconst 0, 1) := DX9_abort_0 (8, .iconst 0, 1) (List.mem_of_getElem? (i := 4) rfl)
theorem dX9_abort_9 : decode cX9_abort 9 = .ok (.ireturn, 1) := DX9_abort_0 (9, .ireturn, 1) (List.mem_of_getElem? (i := 5) rfl)
theorem dX9_abort_10 : decode cX9_abort 10 = .ok (.aload_n 0, 1) := DX9_abort_0 (10, .aload_n 0, 1) (List.mem_of_getElem? (i := 6) rfl)
theorem dX9_abort_11 : decode cX9_abort 11 = .ok (.getfield 28, 3) := DX9_abort_0 (11, .getfield 28, 3) (List.mem_of_getElem? (i := 7) rfl)
theorem dX9_abort_14 : decode cX9_abort 14 = .ok (.getfield 123, 3) := DX9_abort_0 (14, .getfield 123, 3) (List.mem_of_getElem? (i := 8) rfl)
theorem dX9_abort_17 : decode cX9_abort 17 = .ok (.iload_n 1, 1) := DX9_abort_0 (17, .iload_n 1, 1) (List.mem_of_getElem? (i := 9) rfl)
theorem dX9_abort_18 : decode cX9_abort 18 = .ok (.aload_n 0, 1) := DX9_abort_0 (18, .aload_n 0, 1) (List.mem_of_getElem? (i := 10) rfl)
theorem dX9_abort_19 : decode cX9_abort 19 = .ok (.iload_n 1, 1) := DX9_abort_0 (19, .iload_n 1, 1) (List.mem_of_getElem? (i := 11) rfl)
theorem dX9_abort_20 : decode cX9_abort 20 = .ok (.bipush 6, 2) := DX9_abort_0 (20, .bipush 6, 2) (List.mem_of_getElem? (i := 12) rfl)
theorem dX9_abort_22 : decode cX9_abort 22 = .ok (.invokevirtual 96, 3) := DX9_abort_0 (22, .invokevirtual 96, 3) (List.mem_of_getElem? (i := 13) rfl)
theorem dX9_abort_25 : decode cX9_abort 25 = .ok (.iastore, 1) := DX9_abort_0 (25, .iastore, 1) (List.mem_of_getElem? (i := 14) rfl)
theorem dX9_abort_26 : decode cX9_abort 26 = .ok (.aload_n 0, 1) := DX9_abort_0 (26, .aload_n 0, 1) (List.mem_of_getElem? (i := 15) rfl)
theorem dX9_abort_27 : decode cX9_abort 27 = .ok (.getfield 28, 3) := DX9_abort_0 (27, .getfield 28, 3) (List.mem_of_getElem? (i := 16) rfl)
theorem dX9_abort_30 : decode cX9_abort 30 = .ok (.getfield 77, 3) := DX9_abort_0 (30, .getfield 77, 3) (List.mem_of_getElem? (i := 17) rfl)
theorem dX9_abort_33 : decode cX9_abort 33 = .ok (.iload_n 1, 1) := DX9_abort_0 (33, .iload_n 1, 1) (List.mem_of_getElem? (i := 18) rfl)
theorem dX9_abort_34 : decode cX9_abort 34 = .ok (.iconst 2, 1) := DX9_abort_0 (34, .iconst 2, 1) (List.mem_of_getElem? (i := 19) rfl)
theorem dX9_abort_35 : decode cX9_abort 35 = .ok (.iastore, 1) := DX9_abort_0 (35, .iastore, 1) (List.mem_of_getElem? (i := 20) rfl)
theorem dX9_abort_36 : decode cX9_abort 36 = .ok (.aload_n 0, 1) := DX9_abort_0 (36, .aload_n 0, 1) (List.mem_of_getElem? (i := 21) rfl)
theorem dX9_abort_37 : decode cX9_abort 37 = .ok (.getfield 35, 3) := DX9_abort_0 (37, .getfield 35, 3) (List.mem_of_getElem? (i := 22) rfl)
theorem dX9_abort_40 : decode cX9_abort 40 = .ok (.iload_n 1, 1) := DX9_abort_0 (40, .iload_n 1, 1) (List.mem_of_getElem? (i := 23) rfl)
theorem dX9_abort_41 : decode cX9_abort 41 = .ok (.invokevirtual 126, 3) := DX9_abort_0 (41, .invokevirtual 126, 3) (List.mem_of_getElem? (i := 24) rfl)
theorem dX9_abort_44 : decode cX9_abort 44 = .ok (.aload_n 0, 1) := DX9_abort_0 (44, .aload_n 0, 1) (List.mem_of_getElem? (i := 25) rfl)
theorem dX9_abort_45 : decode cX9_abort 45 = .ok (.getfield 35, 3) := DX9_abort_0 (45, .getfield 35, 3) (List.mem_of_getElem? (i := 26) rfl)
theorem dX9_abort_48 : decode cX9_abort 48 = .ok (.getfield 129, 3) := DX9_abort_0 (48, .getfield 129, 3) (List.mem_of_getElem? (i := 27) rfl)
theorem dX9_abort_51 : decode cX9_abort 51 = .ok (.iload_n 1, 1) := DX9_abort_0 (51, .iload_n 1, 1) (List.mem_of_getElem? (i := 28) rfl)
theorem dX9_abort_52 : decode cX9_abort 52 = .ok (.iconst 0, 1) := DX9_abort_0 (52, .iconst 0, 1) (List.mem_of_getElem? (i := 29) rfl)
theorem dX9_abort_53 : decode cX9_abort 53 = .ok (.iastore, 1) := DX9_abort_0 (53, .iastore, 1) (List.mem_of_getElem? (i := 30) rfl)
theorem dX9_abort_54 : decode cX9_abort 54 = .ok (.iconst 1, 1) := DX9_abort_0 (54, .iconst 1, 1) (List.mem_of_getElem? (i := 31) rfl)
theorem dX9_abort_55 : decode cX9_abort 55 = .ok (.ireturn, 1) := DX9_abort_0 (55, .ireturn, 1) (List.mem_of_getElem? (i := 32) rfl)
set_option maxRecDepth 20000 in
theorem ggX9_closeTop_X9_isRunning : GoodIn wsX9_closeTop wsX9_isRunning := goodIn_r _ [10, 4, 11, 12, 13, 14, 51, 52, 53, 54, 55, 56, 57, 58, 59, 60, 61, 69, 70, 71] rfl (by decide +kernel)
set_option maxRecDepth 20000 in
theorem gX9_closeTop_X9_isRunning : GoodIn wsX9_closeTop (wsV RX9 111 RX9 yX9_isRunning wsX9_isRunning) := goodIn_app (goodIn_of _ (by decide +kernel)) ggX9_closeTop_X9_isRunning
set_option maxRecDepth 20000 in
theorem ggX9_closeTop_X9_isFull : GoodIn wsX9_closeTop wsX9_isFull := goodIn_r _ [18, 3, 19, 51, 52, 53, 54, 55, 56, 57, 58, 59, 60, 61, 72, 73, 74, 75] rfl (by decide +kernel)
set_option maxRecDepth 20000 in
theorem gX9_closeTop_X9_isFull : GoodIn wsX9_closeTop (wsV RX9 107 RX9 yX9_isFull wsX9_isFull) := goodIn_app (goodIn_of _ (by decide +kernel)) ggX9_closeTop_X9_isFull
set_option maxRecDepth 20000 in
theorem ggX9_closeTop_X2_start : GoodIn wsX9_closeTop wsX2_start := goodIn_r _ [24, 25, 26, 27, 28, 29, 23, 30, 31, 72, 73, 74, 75] rfl (by decide +kernel)
set_option maxRecDepth 20000 in
theorem gX9_closeTop_X2_start : GoodIn wsX9_closeTop (wsV RX9 88 RX2 yX2_start wsX2_start) := goodIn_app (goodIn_of _ (by decide +kernel)) ggX9_closeTop_X2_start
set_option maxRecDepth 20000 in
theorem ggX9_closeTop_X0_takeTop : GoodIn wsX9_closeTop wsX0_takeTop := goodIn_r _ [36, 37, 38, 62, 63, 64, 65, 66, 67, 68] rfl (by decide +kernel)
set_option maxRecDepth 20000 in
theorem gX9_closeTop_X0_takeTop : GoodIn wsX9_closeTop (wsV RX9 136 RX0 yX0_takeTop wsX0_takeTop) := goodIn_app (goodIn_of _ (by decide +kernel)) ggX9_closeTop_X0_takeTop
set_option maxRecDepth 20000 in
theorem ggX9_closeTop_X2_putPair : GoodIn wsX9_closeTop wsX2_putPair := goodIn_r _ [42, 27, 28, 29, 23, 30, 26, 31, 72, 73, 74, 75] rfl (by decide +kernel)
set_option maxRecDepth 20000 in
theorem gX9_closeTop_X2_putPair : GoodIn wsX9_closeTop (wsV RX9 139 RX2 yX2_putPair wsX2_putPair) := goodIn_app (goodIn_of _ (by decide +kernel)) ggX9_closeTop_X2_putPair
set_option maxRecDepth 20000 in
theorem ggX9_closeTop_X9_finish : GoodIn wsX9_closeTop wsX9_finish := goodIn_r _ [46, 3, 4, 5, 47, 48, 49, 23, 50, 25, 26, 31, 51, 52, 53, 54, 55, 56, 57, 58, 59, 60, 61, 69, 70, 71, 72, 73, 74, 75] rfl (by decide +kernel)
set_option maxRecDepth 20000 in
theorem gX9_closeTop_X9_finish : GoodIn wsX9_closeTop (wsV RX9 92 RX9 yX9_finish wsX9_finish) := goodIn_app (goodIn_of _ (by decide +kernel)) ggX9_closeTop_X9_finish
set_option maxRecDepth 100000 in
theorem DX9_openTop_0 : ∀ x ∈ ([(0, .aload_n 0, 1), (1, .iload_n 1, 1), (2, .invokevirtual 111, 3), (5, .ifCond .eq 27, 3), (8, .aload_n 0, 1), (9, .getfield 35, 3), (12, .iload_n 1, 1), (13, .aload_n 0, 1), (14, .getfield 28, 3), (17, .getfield 85, 3), (20, .iload_n 1, 1), (21, .iaload, 1), (22, .invokevirtual 132, 3), (25, .ifCond .eq 7, 3), (28, .iconst 1, 1), (29, .goto 4, 3), (32, .iconst 0, 1), (33, .ireturn, 1)] : List (Nat × Instr × Nat)), decode cX9_openTop x.1 = .ok (x.2.1, x.2.2) := by decide +kernel
theorem dX9_openTop_0 : decode cX9_openTop 0 = .ok (.aload_n 0, 1) := DX9_openTop_0 (0, .aload_n 0, 1) (List.mem_of_getElem? (i := 0) rfl)
theorem dX9_openTop_1 : decode cX9_openTop 1 = .ok (.iload_n 1, 1) := DX9_openTop_0 (1, .iload_n 1, 1) (List.mem_of_getElem? (i := 1) rfl)
theorem dX9_openTop_2 : decode cX9_openTop 2 = .ok (.invokevirtual 111, 3) := DX9_openTop_0 (2, .invokevirtual 111, 3) (List.mem_of_getElem? (i := 2) rfl)
theorem dX9_openTop_5 : decode cX9_openTop 5 = .ok (.ifCond .eq 27, 3) := DX9_openTop_0 (5, .ifCond .eq 27, 3) (List.mem_of_getElem? (i := 3) rfl)
theorem dX9_openTop_8 : decode cX9_openTop 8 = .ok (.aload_n 0, 1) := DX9_openTop_0 (8, .aload_n 0, 1) (List.mem_of_getElem? (i := 4) rfl)
theorem dX9_openTop_9 : decode cX9_openTop 9 = .ok (.getfield 35, 3) := DX9_openTop_0 (9, .getfield 35, 3) (List.mem_of_getElem? (i := 5) rfl)
theorem dX9_openTop_12 : decode cX9_openTop 12 = .ok (.iload_n 1, 1) := DX9_openTop_0 (12, .iload_n 1, 1) (List.mem_of_getElem? (i := 6) rfl)
theorem dX9_openTop_13 : decode cX9_openTop 13 = .ok (.aload_n 0, 1) := DX9_openTop_0 (13, .aload_n 0, 1) (List.mem_of_getElem? (i := 7) rfl)
theorem dX9_openTop_14 : decode cX9_openTop 14 = .ok (.getfield 28, 3) := DX9_openTop_0 (14, .getfield 28, 3) (List.mem_of_getElem? (i := 8) rfl)
theorem dX9_openTop_17 : decode cX9_openTop 17 = .ok (.getfield 85, 3) := DX9_openTop_0 (17, .getfield 85, 3) (List.mem_of_getElem? (i := 9) rfl)
theorem dX9_openTop_20 : decode cX9_openTop 20 = .ok (.iload_n 1, 1) := DX9_openTop_0 (20, .iload_n 1, 1) (List.mem_of_getElem? (i := 10) rfl)
theorem dX9_openTop_21 : decode cX9_openTop 21 = .ok (.iaload, 1) := DX9_openTop_0 (21, .iaload, 1) (List.mem_of_getElem? (i := 11) rfl)
theorem dX9_openTop_22 : decode cX9_openTop 22 = .ok (.invokevirtual 132, 3) := DX9_openTop_0 (22, .invokevirtual 132, 3) (List.mem_of_getElem? (i := 12) rfl)
theorem dX9_openTop_25 : decode cX9_openTop 25 = .ok (.ifCond .eq 7, 3) := DX9_openTop_0 (25, .ifCond .eq 7, 3) (List.mem_of_getElem? (i := 13) rfl)
theorem dX9_openTop_28 : decode cX9_openTop 28 = .ok (.iconst 1, 1) := DX9_openTop_0 (28, .iconst 1, 1) (List.mem_of_getElem? (i := 14) rfl)
theorem dX9_openTop_29 : decode cX9_openTop 29 = .ok (.goto 4, 3) := DX9_openTop_0 (29, .goto 4, 3) (List.mem_of_getElem? (i := 15) rfl)
theorem dX9_openTop_32 : decode cX9_openTop 32 = .ok (.iconst 0, 1) := DX9_openTop_0 (32, .iconst 0, 1) (List.mem_of_getElem? (i := 16) rfl)
theorem dX9_openTop_33 : decode cX9_openTop 33 = .ok (.ireturn, 1) := DX9_openTop_0 (33, .ireturn, 1) (List.mem_of_getElem? (i := 17) rfl)
set_option maxRecDepth 20000 in
theorem ggX9_change_X9_isRunning : GoodIn wsX9_change wsX9_isRunning := goodIn_r _ [11, 5, 12, 13, 14, 15, 115, 116, 117, 118, 119, 120, 121, 122, 123, 124, 125, 133, 134, 135] rfl (by decide +kernel)
set_option maxRecDepth 20000 in
theorem gX9_change_X9_isRunning : GoodIn wsX9_change (wsV RX9 111 RX9 yX9_isRunning wsX9_isRunning) := goodIn_app (goodIn_of _ (by decide +kernel)) ggX9_change_X9_isRunning
set_option maxRecDepth 20000 in
theorem ggX9_change_X9_isFull : GoodIn wsX9_change wsX9_isFull := goodIn_r _ [19, 4, 20, 115, 116, 117, 118, 119, 120, 121, 122, 123, 124, 125, 136, 137, 138, 139] rfl (by decide +kernel)
set_option maxRecDepth 20000 in
theorem gX9_change_X9_isFull : GoodIn wsX9_change (wsV RX9 107 RX9 yX9_isFull wsX9_isFull) := goodIn_app (goodIn_of _ (by decide +kernel)) ggX9_change_X9_isFull
set_option maxRecDepth 20000 in
theorem ggX9_change_X3_isLost : GoodIn wsX9_change wsX3_isLost := goodIn_r _ [25, 26, 140, 141, 142, 143, 144, 145, 146, 147, 148, 149, 150, 151] rfl (by decide +kernel)
set_option maxRecDepth 20000 in
theorem gX9_change_X3_isLost : GoodIn wsX9_change (wsV RX9 142 RX3 yX3_isLost wsX3_isLost) := goodIn_app (goodIn_of _ (by decide +kernel)) ggX9_change_X3_isLost
set_option maxRecDepth 20000 in
theorem ggX9_change_X0_othersInTheWay : GoodIn wsX9_change wsX0_othersInTheWay := goodIn_r _ [31, 32, 33, 126, 127, 128, 129, 130, 131, 132] rfl (by decide +kernel)
set_option maxRecDepth 20000 in
theorem gX9_change_X0_othersInTheWay : GoodIn wsX9_change (wsV RX9 145 RX0 yX0_othersInTheWay wsX0_othersInTheWay) := goodIn_app (goodIn_of _ (by decide +kernel)) ggX9_change_X0_othersInTheWay
set_option maxRecDepth 20000 in
theorem ggX9_change_X3_fetch : GoodIn wsX9_change wsX3_fetch := goodIn_r _ [37, 38, 39, 40, 41, 42, 43, 44, 45, 46, 47, 48, 49, 50, 51, 52, 24, 53, 54, 55, 56, 57, 58, 59, 60, 61, 62, 63, 14, 64, 65, 66, 67, 68, 69, 70, 71, 72, 73, 74, 75, 76, 140, 141, 142, 143, 144, 145, 146, 147, 148, 149, 150, 151, 136, 137, 138, 139] rfl (by decide +kernel)
set_option maxRecDepth 20000 in
theorem gX9_change_X3_fetch : GoodIn wsX9_change (wsV RX9 149 RX3 yX3_fetch wsX3_fetch) := goodIn_app (goodIn_of _ (by decide +kernel)) ggX9_change_X3_fetch
set_option maxRecDepth 20000 in
theorem ggX9_change_X2_start : GoodIn wsX9_change wsX2_start := goodIn_r _ [80, 75, 81, 82, 83, 84, 68, 85, 76, 136, 137, 138, 139] rfl (by decide +kernel)
set_option maxRecDepth 20000 in
theorem gX9_change_X2_start : GoodIn wsX9_change (wsV RX9 88 RX2 yX2_start wsX2_start) := goodIn_app (goodIn_of _ (by decide +kernel)) ggX9_change_X2_start
set_option maxRecDepth 20000 in
theorem ggX9_change_X2_put : GoodIn wsX9_change wsX2_put := goodIn_r _ [85, 81, 76, 136, 137, 138, 139] rfl (by decide +kernel)
set_option maxRecDepth 20000 in
theorem gX9_change_X2_put : GoodIn wsX9_change (wsV RX9 153 RX2 yX2_put wsX2_put) := goodIn_app (goodIn_of _ (by decide +kernel)) ggX9_change_X2_put
set_option maxRecDepth 20000 in
theorem ggX9_change_X3_byteNow : GoodIn wsX9_change wsX3_byteNow := goodIn_r _ [90, 39, 40, 50, 51, 52, 24, 53, 54, 45, 140, 141, 142, 143, 144, 145, 146, 147, 148, 149, 150, 151] rfl (by decide +kernel)
set_option maxRecDepth 20000 in
theorem gX9_change_X3_byteNow : GoodIn wsX9_change (wsV RX9 156 RX3 yX3_byteNow wsX3_byteNow) := goodIn_app (goodIn_of _ (by decide +kernel)) ggX9_change_X3_byteNow
set_option maxRecDepth 20000 in
theorem ggX9_change_X9_finish : GoodIn wsX9_change wsX9_finish := goodIn_r _ [94, 4, 5, 6, 95, 96, 97, 68, 98, 75, 81, 76, 115, 116, 117, 118, 119, 120, 121, 122, 123, 124, 125, 133, 134, 135, 136, 137, 138, 139] rfl (by decide +kernel)
set_option maxRecDepth 20000 in
theorem gX9_change_X9_finish : GoodIn wsX9_change (wsV RX9 92 RX9 yX9_finish wsX9_finish) := goodIn_app (goodIn_of _ (by decide +kernel)) ggX9_change_X9_finish
set_option maxRecDepth 20000 in
theorem ggX9_change_X3_doIn : GoodIn wsX9_change wsX3_doIn := goodIn_r _ [102, 40, 46, 38, 103, 104, 105, 68, 106, 71, 72, 73, 74, 75, 76, 107, 108, 109, 110, 140, 141, 142, 143, 144, 145, 146, 147, 148, 149, 150, 151, 136, 137, 138, 139] rfl (by decide +kernel)
set_option maxRecDepth 20000 in
theorem gX9_change_X3_doIn : GoodIn wsX9_change (wsV RX9 159 RX3 yX3_doIn wsX3_doIn) := goodIn_app (goodIn_of _ (by decide +kernel)) ggX9_change_X3_doIn
set_option maxRecDepth 20000 in
theorem ggX9_change_X0_claim : GoodIn wsX9_change wsX0_claim := goodIn_r _ [114, 32, 33, 126, 127, 128, 129, 130, 131, 132] rfl (by decide +kernel)
set_option maxRecDepth 20000 in
theorem gX9_change_X0_claim : GoodIn wsX9_change (wsV RX9 163 RX0 yX0_claim wsX0_claim) := goodIn_app (goodIn_of _ (by decide +kernel)) ggX9_change_X0_claim
set_option maxRecDepth 100000 in
theorem DX9_closeTop_0 : ∀ x ∈ ([(0, .aload_n 0, 1), (1, .iload_n 1, 1), (2, .invokevirtual 111, 3), (5, .ifCond .eq 23, 3), (8, .aload_n 0, 1), (9, .getfield 35, 3), (12, .getfield 114, 3), (15, .iload_n 1, 1), (16, .iaload, 1), (17, .iconst 1, 1), (18, .if_icmp .lt 10, 3), (21, .aload_n 0, 1), (22, .invokevirtual 107, 3), (25, .ifCond .eq 5, 3), (28, .iconst 0, 1), (29, .ireturn, 1), (30, .aload_n 0, 1), (31, .getfield 12, 3), (34, .bipush 9, 2), (36, .iload_n 1, 1), (37, .aload_n 0, 1), (38, .getfield 28, 3), (41, .getfield 85, 3), (44, .iload_n 1, 1), (45, .iaload, 1), (46, .invokevirtual 88, 3), (49, .aload_n 0, 1), (50, .getfield 12, 3), (53, .aload_n 0, 1), (54, .getfield 35, 3), (57, .iload_n 1, 1), (58, .invokevirtual 136, 3), (61, .invokevirtual 139, 3), (64, .aload_n 0, 1), (65, .iload_n 1, 1), (66, .invokevirtual 92, 3), (69, .pop, 1), (70, .iconst 1, 1), (71, .ireturn, 1)] : List (Nat × Instr × Nat)), decode cX9_closeTop x.1 = .ok (x.2.1, x.2.2) := by decide +kernel
theorem dX9_closeTop_0 : decode cX9_closeTop 0 = .ok (.aload_n 0, 1) := DX9_closeTop_0 (0, .aload_n 0, 1) (List.mem_of_getElem? (i := 0) rfl)
theorem dX9_closeTop_1 : decode cX9_closeTop 1 = .ok (.iload_n 1, 1) := DX9_closeTop_0 (1, .iload_n 1, 1) (List.mem_of_getElem? (i := 1) rfl)
theorem dX9_closeTop_2 : decode cX9_closeTop 2 = .ok (.invokevirtual 111, 3) := DX9_closeTop_0 (2, .invokevirtual 111, 3) (List.mem_of_getElem? (i := 2) rfl)
theorem dX9_closeTop_5 : decode cX9_closeTop 5 = .ok (.ifCond .eq 23, 3) := DX9_closeTop_0 (5, .ifCond .eq 23, 3) (List.mem_of_getElem? (i := 3) rfl)
theorem dX9_closeTop_8 : decode cX9_closeTop 8 = .ok (.aload_n 0, 1) := DX9_closeTop_0 (8, .aload_n 0, 1) (List.mem_of_getElem? (i := 4) rfl)
theorem dX9_closeTop_9 : decode cX9_closeTop 9 = .ok (.getfield 35, 3) := DX9_closeTop_0 (9, .getfield 35, 3) (List.mem_of_getElem? (i := 5) rfl)
theorem dX9_closeTop_12 : decode cX9_closeTop 12 = .ok (.getfield 114, 3) := DX9_closeTop_0 (12, .getfield 114, 3) (List.mem_of_getElem? (i := 6) rfl)
theorem dX9_closeTop_15 : decode cX9_closeTop 15 = .ok (.iload_n 1, 1) := DX9_closeTop_0 (15, .iload_n 1, 1) (List.mem_of_getElem? (i := 7) rfl)
theorem dX9_closeTop_16 : decode cX9_closeTop 16 = .ok (.iaload, 1) := DX9_closeTop_0 (16, .iaload, 1) (List.mem_of_getElem? (i := 8) rfl)
theorem dX9_closeTop_17 : decode cX9_closeTop 17 = .ok (.iconst 1, 1) := DX9_closeTop_0 (17, .iconst 1, 1) (List.mem_of_getElem? (i := 9) rfl)
theorem dX9_closeTop_18 : decode cX9_closeTop 18 = .ok (.if_icmp .lt 10, 3) := DX9_closeTop_0 (18, .if_icmp .lt 10, 3) (List.mem_of_getElem? (i := 10) rfl)
theorem dX9_closeTop_21 : decode cX9_closeTop 21 = .ok (.aload_n 0, 1) := DX9_closeTop_0 (21, .aload_n 0, 1) (List.mem_of_getElem? (i := 11) rfl)
theorem dX9_closeTop_22 : decode cX9_closeTop 22 = .ok (.invokevirtual 107, 3) := DX9_closeTop_0 (22, .invokevirtual 107, 3) (List.mem_of_getElem? (i := 12) rfl)
theorem dX9_closeTop_25 : decode cX9_closeTop 25 = .ok (.ifCond .eq 5, 3) := DX9_closeTop_0 (25, .ifCond .eq 5, 3) (List.mem_of_getElem? (i := 13) rfl)
theorem dX9_closeTop_28 : decode cX9_closeTop 28 = .ok (.iconst 0, 1) := DX9_closeTop_0 (28, .iconst 0, 1) (List.mem_of_getElem? (i := 14) rfl)
theorem dX9_closeTop_29 : decode cX9_closeTop 29 = .ok (.ireturn, 1) := DX9_closeTop_0 (29, .ireturn, 1) (List.mem_of_getElem? (i := 15) rfl)
theorem dX9_closeTop_30 : decode cX9_closeTop 30 = .ok (.aload_n 0, 1) := DX9_closeTop_0 (30, .aload_n 0, 1) (List.mem_of_getElem? (i := 16) rfl)
theorem dX9_closeTop_31 : decode cX9_closeTop 31 = .ok (.getfield 12, 3) := DX9_closeTop_0 (31, .getfield 12, 3) (List.mem_of_getElem? (i := 17) rfl)
theorem dX9_closeTop_34 : decode cX9_closeTop 34 = .ok (.bipush 9, 2) := DX9_closeTop_0 (34, .bipush 9, 2) (List.mem_of_getElem? (i := 18) rfl)
theorem dX9_closeTop_36 : decode cX9_closeTop 36 = .ok (.iload_n 1, 1) := DX9_closeTop_0 (36, .iload_n 1, 1) (List.mem_of_getElem? (i := 19) rfl)
theorem dX9_closeTop_37 : decode cX9_closeTop 37 = .ok (.aload_n 0, 1) := DX9_closeTop_0 (37, .aload_n 0, 1) (List.mem_of_getElem? (i := 20) rfl)
theorem dX9_closeTop_38 : decode cX9_closeTop 38 = .ok (.getfield 28, 3) := DX9_closeTop_0 (38, .getfield 28, 3) (List.mem_of_getElem? (i := 21) rfl)
theorem dX9_closeTop_41 : decode cX9_closeTop 41 = .ok (.getfield 85, 3) := DX9_closeTop_0 (41, .getfield 85, 3) (List.mem_of_getElem? (i := 22) rfl)
theorem dX9_closeTop_44 : decode cX9_closeTop 44 = .ok (.iload_n 1, 1) := DX9_closeTop_0 (44, .iload_n 1, 1) (List.mem_of_getElem? (i := 23) rfl)
theorem dX9_closeTop_45 : decode cX9_closeTop 45 = .ok (.iaload, 1) := DX9_closeTop_0 (45, .iaload, 1) (List.mem_of_getElem? (i := 24) rfl)
theorem dX9_closeTop_46 : decode cX9_closeTop 46 = .ok (.invokevirtual 88, 3) := DX9_closeTop_0 (46, .invokevirtual 88, 3) (List.mem_of_getElem? (i := 25) rfl)
theorem dX9_closeTop_49 : decode cX9_closeTop 49 = .ok (.aload_n 0, 1) := DX9_closeTop_0 (49, .aload_n 0, 1) (List.mem_of_getElem? (i := 26) rfl)
theorem dX9_closeTop_50 : decode cX9_closeTop 50 = .ok (.getfield 12, 3) := DX9_closeTop_0 (50, .getfield 12, 3) (List.mem_of_getElem? (i := 27) rfl)
theorem dX9_closeTop_53 : decode cX9_closeTop 53 = .ok (.aload_n 0, 1) := DX9_closeTop_0 (53, .aload_n 0, 1) (List.mem_of_getElem? (i := 28) rfl)
theorem dX9_closeTop_54 : decode cX9_closeTop 54 = .ok (.getfield 35, 3) := DX9_closeTop_0 (54, .getfield 35, 3) (List.mem_of_getElem? (i := 29) rfl)
theorem dX9_closeTop_57 : decode cX9_closeTop 57 = .ok (.iload_n 1, 1) := DX9_closeTop_0 (57, .iload_n 1, 1) (List.mem_of_getElem? (i := 30) rfl)
theorem dX9_closeTop_58 : decode cX9_closeTop 58 = .ok (.invokevirtual 136, 3) := DX9_closeTop_0 (58, .invokevirtual 136, 3) (List.mem_of_getElem? (i := 31) rfl)
theorem dX9_closeTop_61 : decode cX9_closeTop 61 = .ok (.invokevirtual 139, 3) := DX9_closeTop_0 (61, .invokevirtual 139, 3) (List.mem_of_getElem? (i := 32) rfl)
theorem dX9_closeTop_64 : decode cX9_closeTop 64 = .ok (.aload_n 0, 1) := DX9_closeTop_0 (64, .aload_n 0, 1) (List.mem_of_getElem? (i := 33) rfl)
theorem dX9_closeTop_65 : decode cX9_closeTop 65 = .ok (.iload_n 1, 1) := DX9_closeTop_0 (65, .iload_n 1, 1) (List.mem_of_getElem? (i := 34) rfl)
theorem dX9_closeTop_66 : decode cX9_closeTop 66 = .ok (.invokevirtual 92, 3) := DX9_closeTop_0 (66, .invokevirtual 92, 3) (List.mem_of_getElem? (i := 35) rfl)
theorem dX9_closeTop_69 : decode cX9_closeTop 69 = .ok (.pop, 1) := DX9_closeTop_0 (69, .pop, 1) (List.mem_of_getElem? (i := 36) rfl)
theorem dX9_closeTop_70 : decode cX9_closeTop 70 = .ok (.iconst 1, 1) := DX9_closeTop_0 (70, .iconst 1, 1) (List.mem_of_getElem? (i := 37) rfl)
theorem dX9_closeTop_71 : decode cX9_closeTop 71 = .ok (.ireturn, 1) := DX9_closeTop_0 (71, .ireturn, 1) (List.mem_of_getElem? (i := 38) rfl)
set_option maxRecDepth 20000 in
theorem ggX9_putSave_X9_isRunning : GoodIn wsX9_putSave wsX9_isRunning := goodIn_r _ [9, 2, 10, 11, 12, 13, 21, 22, 23, 24, 25, 26, 27, 28, 29, 30, 31, 32, 33, 34] rfl (by decide +kernel)
set_option maxRecDepth 20000 in
theorem gX9_putSave_X9_isRunning : GoodIn wsX9_putSave (wsV RX9 111 RX9 yX9_isRunning wsX9_isRunning) := goodIn_app (goodIn_of _ (by decide +kernel)) ggX9_putSave_X9_isRunning
set_option maxRecDepth 20000 in
theorem ggX9_putSave_X0_putSave : GoodIn wsX9_putSave wsX0_putSave := goodIn_r _ [18, 19, 20, 35, 36, 37, 38, 39, 40, 41] rfl (by decide +kernel)
set_option maxRecDepth 20000 in
theorem gX9_putSave_X0_putSave : GoodIn wsX9_putSave (wsV RX9 166 RX0 yX0_putSave wsX0_putSave) := goodIn_app (goodIn_of _ (by decide +kernel)) ggX9_putSave_X0_putSave
set_option maxRecDepth 100000 in
theorem DX9_change_0 : ∀ x ∈ ([(0, .iload 4, 2), (2, .iconst 3, 1), (3, .if_icmp .ne 7, 3), (6, .iconst 1, 1), (7, .goto 4, 3), (10, .iconst 0, 1), (11, .istore 5, 2), (13, .aload_n 0, 1), (14, .iload_n 1, 1), (15, .invokevirtual 111, 3), (18, .ifCond .eq 27, 3), (21, .iload_n 2, 1), (22, .ifCond .lt 23, 3), (25, .iload_n 2, 1), (26, .sipush 256, 3), (29, .if_icmp .ge 16, 3), (32, .iload_n 3, 1), (33, .iload 5, 2), (35, .if_icmp .lt 10, 3), (38, .iload_n 3, 1), (39, .sipush 255, 3), (42, .if_icmp .le 5, 3), (45, .iconst 0, 1), (46, .ireturn, 1), (47, .aload_n 0, 1), (48, .invokevirtual 107, 3), (51, .ifCond .ne 17, 3), (54, .aload_n 0, 1), (55, .getfield 21, 3), (58, .iload_n 2, 1), (59, .bipush 16, 2), (61, .idiv, 1), (62, .invokevirtual 142, 3), (65, .ifCond .eq 5, 3), (68, .iconst 0, 1), (69, .ireturn, 1), (70, .aload_n 0, 1), (71, .getfield 35, 3), (74, .iload_n 1, 1), (75, .iload_n 2, 1)] : List (Nat × Instr × Nat)), decode cX9_change x.1 = .ok (x.2.1, x.2.2) := by decide +kernel
theorem dX9_change_0 : decode cX9_change 0 = .ok (.iload 4, 2) := DX9_change_0 (0, .iload 4, 2) (List.mem_of_getElem? (i := 0) rfl)
theorem dX9_change_2 : decode cX9_change 2 = .ok (.iconst 3, 1) := DX9_change_0 (2, .iconst 3, 1) (List.mem_of_getElem? (i := 1) rfl)
theorem dX9_change_3 : decode cX9_change 3 = .ok (.if_icmp .ne 7, 3) := DX9_change_0 (3, .if_icmp .ne 7, 3) (List.mem_of_getElem? (i := 2) rfl)
theorem dX9_change_6 : decode cX9_change 6 = .ok (.iconst 1, 1) := DX9_change_0 (6, .iconst 1, 1) (List.mem_of_getElem? (i := 3) rfl)
theorem dX9_change_7 : decode cX9_change 7 = .ok (.goto 4, 3) := DX9_change_0 (7, .goto 4, 3) (List.mem_of_getElem? (i := 4) rfl)
theorem dX9_change_10 : decode cX9_change 10 = .ok (.iconst 0, 1) := DX9_change_0 (10, .iconst 0, 1) (List.mem_of_getElem? (i := 5) rfl)
theorem dX9_change_11 : decode cX9_change 11 = .ok (.istore 5, 2) := DX9_change_0 (11, .istore 5, 2) (List.mem_of_getElem? (i := 6) rfl)
theorem dX9_change_13 : decode cX9_change 13 = .ok (.aload_n 0, 1) := DX9_change_0 (13, .aload_n 0, 1) (List.mem_of_getElem? (i := 7) rfl)
theorem dX9_change_14 : decode cX9_change 14 = .ok (.iload_n 1, 1) := DX9_change_0 (14, .iload_n 1, 1) (List.mem_of_getElem? (i := 8) rfl)
theorem dX9_change_15 : decode cX9_change 15 = .ok (.invokevirtual 111, 3) := DX9_change_0 (15, .invokevirtual 111, 3) (List.mem_of_getElem? (i := 9) rfl)
theorem dX9_change_18 : decode cX9_change 18 = .ok (.ifCond .eq 27, 3) := DX9_change_0 (18, .ifCond .eq 27, 3) (List.mem_of_getElem? (i := 10) rfl)
theorem dX9_change_21 : decode cX9_change 21 = .ok (.iload_n 2, 1) := DX9_change_0 (21, .iload_n 2, 1) (List.mem_of_getElem? (i := 11) rfl)
theorem dX9_change_22 : decode cX9_change 22 = .ok (.ifCond .lt 23, 3) := DX9_change_0 (22, .ifCond .lt 23, 3) (List.mem_of_getElem? (i := 12) rfl)
theorem dX9_change_25 : decode cX9_change 25 = .ok (.iload_n 2, 1) := DX9_change_0 (25, .iload_n 2, 1) (List.mem_of_getElem? (i := 13) rfl)
theorem dX9_change_26 : decode cX9_change 26 = .ok (.sipush 256, 3) := DX9_change_0 (26, .sipush 256, 3) (List.mem_of_getElem? (i := 14) rfl)
theorem dX9_change_29 : decode cX9_change 29 = .ok (.if_icmp .ge 16, 3) := DX9_change_0 (29, .if_icmp .ge 16, 3) (List.mem_of_getElem? (i := 15) rfl)
theorem dX9_change_32 : decode cX9_change 32 = .ok (.iload_n 3, 1) := DX9_change_0 (32, .iload_n 3, 1) (List.mem_of_getElem? (i := 16) rfl)
theorem dX9_change_33 : decode cX9_change 33 = .ok (.iload 5, 2) := DX9_change_0 (33, .iload 5, 2) (List.mem_of_getElem? (i := 17) rfl)
theorem dX9_change_35 : decode cX9_change 35 = .ok (.if_icmp .lt 10, 3) := DX9_change_0 (35, .if_icmp .lt 10, 3) (List.mem_of_getElem? (i := 18) rfl)
theorem dX9_change_38 : decode cX9_change 38 = .ok (.iload_n 3, 1) := DX9_change_0 (38, .iload_n 3, 1) (List.mem_of_getElem? (i := 19) rfl)
theorem dX9_change_39 : decode cX9_change 39 = .ok (.sipush 255, 3) := DX9_change_0 (39, .sipush 255, 3) (List.mem_of_getElem? (i := 20) rfl)
theorem dX9_change_42 : decode cX9_change 42 = .ok (.if_icmp .le 5, 3) := DX9_change_0 (42, .if_icmp .le 5, 3) (List.mem_of_getElem? (i := 21) rfl)
theorem dX9_change_45 : decode cX9_change 45 = .ok (.iconst 0, 1) := DX9_change_0 (45, .iconst 0, 1) (List.mem_of_getElem? (i := 22) rfl)
theorem dX9_change_46 : decode cX9_change 46 = .ok (.ireturn, 1) := DX9_change_0 (46, .ireturn, 1) (List.mem_of_getElem? (i := 23) rfl)
theorem dX9_change_47 : decode cX9_change 47 = .ok (.aload_n 0, 1) := DX9_change_0 (47, .aload_n 0, 1) (List.mem_of_getElem? (i := 24) rfl)
theorem dX9_change_48 : decode cX9_change 48 = .ok (.invokevirtual 107, 3) := DX9_change_0 (48, .invokevirtual 107, 3) (List.mem_of_getElem? (i := 25) rfl)
theorem dX9_change_51 : decode cX9_change 51 = .ok (.ifCond .ne 17, 3) := DX9_change_0 (51, .ifCond .ne 17, 3) (List.mem_of_getElem? (i := 26) rfl)
theorem dX9_change_54 : decode cX9_change 54 = .ok (.aload_n 0, 1) := DX9_change_0 (54, .aload_n 0, 1) (List.mem_of_getElem? (i := 27) rfl)
theorem dX9_change_55 : decode cX9_change 55 = .ok (.getfield 21, 3) := DX9_change_0 (55, .getfield 21, 3) (List.mem_of_getElem? (i := 28) rfl)
theorem dX9_change_58 : decode cX9_change 58 = .ok (.iload_n 2, 1) := DX9_change_0 (58, .iload_n 2, 1) (List.mem_of_getElem? (i := 29) rfl)
theorem dX9_change_59 : decode cX9_change 59 = .ok (.bipush 16, 2) := DX9_change_0 (59, .bipush 16, 2) (List.mem_of_getElem? (i := 30) rfl)
theorem dX9_change_61 : decode cX9_change 61 = .ok (.idiv, 1) := DX9_change_0 (61, .idiv, 1) (List.mem_of_getElem? (i := 31) rfl)
theorem dX9_change_62 : decode cX9_change 62 = .ok (.invokevirtual 142, 3) := DX9_change_0 (62, .invokevirtual 142, 3) (List.mem_of_getElem? (i := 32) rfl)
theorem dX9_change_65 : decode cX9_change 65 = .ok (.ifCond .eq 5, 3) := DX9_change_0 (65, .ifCond .eq 5, 3) (List.mem_of_getElem? (i := 33) rfl)
theorem dX9_change_68 : decode cX9_change 68 = .ok (.iconst 0, 1) := DX9_change_0 (68, .iconst 0, 1) (List.mem_of_getElem? (i := 34) rfl)
theorem dX9_change_69 : decode cX9_change 69 = .ok (.ireturn, 1) := DX9_change_0 (69, .ireturn, 1) (List.mem_of_getElem? (i := 35) rfl)
theorem dX9_change_70 : decode cX9_change 70 = .ok (.aload_n 0, 1) := DX9_change_0 (70, .aload_n 0, 1) (List.mem_of_getElem? (i := 36) rfl)
theorem dX9_change_71 : decode cX9_change 71 = .ok (.getfield 35, 3) := DX9_change_0 (71, .getfield 35, 3) (List.mem_of_getElem? (i := 37) rfl)
theorem dX9_change_74 : decode cX9_change 74 = .ok (.iload_n 1, 1) := DX9_change_0 (74, .iload_n 1, 1) (List.mem_of_getElem? (i := 38) rfl)
theorem dX9_change_75 : decode cX9_change 75 = .ok (.iload_n 2, 1) := DX9_change_0 (75, .iload_n 2, 1) (List.mem_of_getElem? (i := 39) rfl)
set_option maxRecDepth 100000 in
theorem DX9_change_40 : ∀ x ∈ ([(76, .iload 4, 2), (78, .invokevirtual 145, 3), (81, .istore 6, 2), (83, .iload 6, 2), (85, .ifCond .eq 16, 3), (88, .aload_n 0, 1), (89, .getfield 35, 3), (92, .getfield 129, 3), (95, .iload_n 1, 1), (96, .iload 6, 2), (98, .iastore, 1), (99, .iconst 0, 1), (100, .ireturn, 1), (101, .aload_n 0, 1), (102, .getfield 21, 3), (105, .iload_n 2, 1), (106, .bipush 16, 2), (108, .idiv, 1), (109, .aload_n 0, 1), (110, .getfield 12, 3), (113, .invokevirtual 149, 3), (116, .istore 7, 2), (118, .aload_n 0, 1), (119, .getfield 12, 3), (122, .iload 4, 2), (124, .iload_n 1, 1), (125, .aload_n 0, 1), (126, .getfield 28, 3), (129, .getfield 85, 3), (132, .iload_n 1, 1), (133, .iaload, 1), (134, .invokevirtual 88, 3), (137, .aload_n 0, 1), (138, .getfield 12, 3), (141, .iload_n 2, 1), (142, .invokevirtual 153, 3), (145, .iload 4, 2), (147, .iconst 2, 1), (148, .if_icmp .ne 18, 3), (151, .aload_n 0, 1)] : List (Nat × Instr × Nat)), decode cX9_change x.1 = .ok (x.2.1, x.2.2) := by decide +kernel
theorem dX9_change_76 : decode cX9_change 76 = .ok (.iload 4, 2) := DX9_change_40 (76, .iload 4, 2) (List.mem_of_getElem? (i := 0) rfl)
theorem dX9_change_78 : decode cX9_change 78 = .ok (.invokevirtual 145, 3) := DX9_change_40 (78, .invokevirtual 145, 3) (List.mem_of_getElem? (i := 1) rfl)
theorem dX9_change_81 : decode cX9_change 81 = .ok (.istore 6, 2) := DX9_change_40 (81, .istore 6, 2) (List.mem_of_getElem? (i := 2) rfl)
theorem dX9_change_83 : decode cX9_change 83 = .ok (.iload 6, 2) := DX9_change_40 (83, .iload 6, 2) (List.mem_of_getElem? (i := 3) rfl)
theorem dX9_change_85 : decode cX9_change 85 = .ok (.ifCond .eq 16, 3) := DX9_change_40 (85, .ifCond .eq 16, 3) (List.mem_of_getElem? (i := 4) rfl)
theorem dX9_change_88 : decode cX9_change 88 = .ok (.aload_n 0, 1) := DX9_change_40 (88, .aload_n 0, 1) (List.mem_of_getElem? (i := 5) rfl)
theorem dX9_change_89 : decode cX9_change 89 = .ok (.getfield 35, 3) := DX9_change_40 (89, .getfield 35, 3) (List.mem_of_getElem? (i := 6) rfl)
theorem dX9_change_92 : decode cX9_change 92 = .ok (.getfield 129, 3) := DX9_change_40 (92, .getfield 129, 3) (List.mem_of_getElem? (i := 7) rfl)
theorem dX9_change_95 : decode cX9_change 95 = .ok (.iload_n 1, 1) := DX9_change_40 (95, .iload_n 1, 1) (List.mem_of_getElem? (i := 8) rfl)
theorem dX9_change_96 : decode cX9_change 96 = .ok (.iload 6, 2) := DX9_change_40 (96, .iload 6, 2) (List.mem_of_getElem? (i := 9) rfl)
theorem dX9_change_98 : decode cX9_change 98 = .ok (.iastore, 1) := DX9_change_40 (98, .iastore, 1) (List.mem_of_getElem? (i := 10) rfl)
theorem dX9_change_99 : decode cX9_change 99 = .ok (.iconst 0, 1) := DX9_change_40 (99, .iconst 0, 1) (List.mem_of_getElem? (i := 11) rfl)
theorem dX9_change_100 : decode cX9_change 100 = .ok (.ireturn, 1) := DX9_change_40 (100, .ireturn, 1) (List.mem_of_getElem? (i := 12) rfl)
theorem dX9_change_101 : decode cX9_change 101 = .ok (.aload_n 0, 1) := DX9_change_40 (101, .aload_n 0, 1) (List.mem_of_getElem? (i := 13) rfl)
theorem dX9_change_102 : decode cX9_change 102 = .ok (.getfield 21, 3) := DX9_change_40 (102, .getfield 21, 3) (List.mem_of_getElem? (i := 14) rfl)
theorem dX9_change_105 : decode cX9_change 105 = .ok (.iload_n 2, 1) := DX9_change_40 (105, .iload_n 2, 1) (List.mem_of_getElem? (i := 15) rfl)
theorem dX9_change_106 : decode cX9_change 106 = .ok (.bipush 16, 2) := DX9_change_40 (106, .bipush 16, 2) (List.mem_of_getElem? (i := 16) rfl)
theorem dX9_change_108 : decode cX9_change 108 = .ok (.idiv, 1) := DX9_change_40 (108, .idiv, 1) (List.mem_of_getElem? (i := 17) rfl)
theorem dX9_change_109 : decode cX9_change 109 = .ok (.aload_n 0, 1) := DX9_change_40 (109, .aload_n 0, 1) (List.mem_of_getElem? (i := 18) rfl)
theorem dX9_change_110 : decode cX9_change 110 = .ok (.getfield 12, 3) := DX9_change_40 (110, .getfield 12, 3) (List.mem_of_getElem? (i := 19) rfl)
theorem dX9_change_113 : decode cX9_change 113 = .ok (.invokevirtual 149, 3) := DX9_change_40 (113, .invokevirtual 149, 3) (List.mem_of_getElem? (i := 20) rfl)
theorem dX9_change_116 : decode cX9_change 116 = .ok (.istore 7, 2) := DX9_change_40 (116, .istore 7, 2) (List.mem_of_getElem? (i := 21) rfl)
theorem dX9_change_118 : decode cX9_change 118 = .ok (.aload_n 0, 1) := DX9_change_40 (118, .aload_n 0, 1) (List.mem_of_getElem? (i := 22) rfl)
theorem dX9_change_119 : decode cX9_change 119 = .ok (.getfield 12, 3) := DX9_change_40 (119, .getfield 12, 3) (List.mem_of_getElem? (i := 23) rfl)
theorem dX9_change_122 : decode cX9_change 122 = .ok (.iload 4, 2) := DX9_change_40 (122, .iload 4, 2) (List.mem_of_getElem? (i := 24) rfl)
theorem dX9_change_124 : decode cX9_change 124 = .ok (.iload_n 1, 1) := DX9_change_40 (124, .iload_n 1, 1) (List.mem_of_getElem? (i := 25) rfl)
theorem dX9_change_125 : decode cX9_change 125 = .ok (.aload_n 0, 1) := DX9_change_40 (125, .aload_n 0, 1) (List.mem_of_getElem? (i := 26) rfl)
theorem dX9_change_126 : decode cX9_change 126 = .ok (.getfield 28, 3) := DX9_change_40 (126, .getfield 28, 3) (List.mem_of_getElem? (i := 27) rfl)
theorem dX9_change_129 : decode cX9_change 129 = .ok (.getfield 85, 3) := DX9_change_40 (129, .getfield 85, 3) (List.mem_of_getElem? (i := 28) rfl)
theorem dX9_change_132 : decode cX9_change 132 = .ok (.iload_n 1, 1) := DX9_change_40 (132, .iload_n 1, 1) (List.mem_of_getElem? (i := 29) rfl)
theorem dX9_change_133 : decode cX9_change 133 = .ok (.iaload, 1) := DX9_change_40 (133, .iaload, 1) (List.mem_of_getElem? (i := 30) rfl)
theorem dX9_change_134 : decode cX9_change 134 = .ok (.invokevirtual 88, 3) := DX9_change_40 (134, .invokevirtual 88, 3) (List.mem_of_getElem? (i := 31) rfl)
theorem dX9_change_137 : decode cX9_change 137 = .ok (.aload_n 0, 1) := DX9_change_40 (137, .aload_n 0, 1) (List.mem_of_getElem? (i := 32) rfl)
theorem dX9_change_138 : decode cX9_change 138 = .ok (.getfield 12, 3) := DX9_change_40 (138, .getfield 12, 3) (List.mem_of_getElem? (i := 33) rfl)
theorem dX9_change_141 : decode cX9_change 141 = .ok (.iload_n 2, 1) := DX9_change_40 (141, .iload_n 2, 1) (List.mem_of_getElem? (i := 34) rfl)
theorem dX9_change_142 : decode cX9_change 142 = .ok (.invokevirtual 153, 3) := DX9_change_40 (142, .invokevirtual 153, 3) (List.mem_of_getElem? (i := 35) rfl)
theorem dX9_change_145 : decode cX9_change 145 = .ok (.iload 4, 2) := DX9_change_40 (145, .iload 4, 2) (List.mem_of_getElem? (i := 36) rfl)
theorem dX9_change_147 : decode cX9_change 147 = .ok (.iconst 2, 1) := DX9_change_40 (147, .iconst 2, 1) (List.mem_of_getElem? (i := 37) rfl)
theorem dX9_change_148 : decode cX9_change 148 = .ok (.if_icmp .ne 18, 3) := DX9_change_40 (148, .if_icmp .ne 18, 3) (List.mem_of_getElem? (i := 38) rfl)
theorem dX9_change_151 : decode cX9_change 151 = .ok (.aload_n 0, 1) := DX9_change_40 (151, .aload_n 0, 1) (List.mem_of_getElem? (i := 39) rfl)
set_option maxRecDepth 100000 in
theorem DX9_change_80 : ∀ x ∈ ([(152, .getfield 12, 3), (155, .aload_n 0, 1), (156, .getfield 21, 3), (159, .iload_n 2, 1), (160, .invokevirtual 156, 3), (163, .invokevirtual 153, 3), (166, .aload_n 0, 1), (167, .getfield 12, 3), (170, .iload_n 3, 1), (171, .invokevirtual 153, 3), (174, .aload_n 0, 1), (175, .getfield 21, 3), (178, .iload 7, 2), (180, .aload_n 0, 1), (181, .iload_n 1, 1), (182, .invokevirtual 92, 3), (185, .aload_n 0, 1), (186, .getfield 12, 3), (189, .invokevirtual 159, 3), (192, .aload_n 0, 1), (193, .getfield 35, 3), (196, .iload_n 1, 1), (197, .iload_n 2, 1), (198, .iload 4, 2), (200, .invokevirtual 163, 3), (203, .aload_n 0, 1), (204, .getfield 35, 3), (207, .getfield 129, 3), (210, .iload_n 1, 1), (211, .iconst 0, 1), (212, .iastore, 1), (213, .iconst 1, 1), (214, .ireturn, 1)] : List (Nat × Instr × Nat)), decode cX9_change x.1 = .ok (x.2.1, x.2.2) := by decide +kernel
theorem dX9_change_152 : decode cX9_change 152 = .ok (.getfield 12, 3) := DX9_change_80 (152, .getfield 12, 3) (List.mem_of_getElem? (i := 0) rfl)
theorem dX9_change_155 : decode cX9_change 155 = .ok (.aload_n 0, 1) := DX9_change_80 (155, .aload_n 0, 1) (List.mem_of_getElem? (i := 1) rfl)
theorem dX9_change_156 : decode cX9_change 156 = .ok (.getfield 21, 3) := DX9_change_80 (156, .getfield 21, 3) (List.mem_of_getElem? (i := 2) rfl)
theorem dX9_change_159 : decode cX9_change 159 = .ok (.iload_n 2, 1) := DX9_change_80 (159, .iload_n 2, 1) (List.mem_of_getElem? (i := 3) rfl)
theorem dX9_change_160 : decode cX9_change 160 = .ok (.invokevirtual 156, 3) := DX9_change_80 (160, .invokevirtual 156, 3) (List.mem_of_getElem? (i := 4) rfl)
theorem dX9_change_163 : decode cX9_change 163 = .ok (.invokevirtual 153, 3) := DX9_change_80 (163, .invokevirtual 153, 3) (List.mem_of_getElem? (i := 5) rfl)
theorem dX9_change_166 : decode cX9_change 166 = .ok (.aload_n 0, 1) := DX9_change_80 (166, .aload_n 0, 1) (List.mem_of_getElem? (i := 6) rfl)
theorem dX9_change_167 : decode cX9_change 167 = .ok (.getfield 12, 3) := DX9_change_80 (167, .getfield 12, 3) (List.mem_of_getElem? (i := 7) rfl)
theorem dX9_change_170 : decode cX9_change 170 = .ok (.iload_n 3, 1) := DX9_change_80 (170, .iload_n 3, 1) (List.mem_of_getElem? (i := 8) rfl)
theorem dX9_change_171 : decode cX9_change 171 = .ok (.invokevirtual 153, 3) := DX9_change_80 (171, .invokevirtual 153, 3) (List.mem_of_getElem? (i := 9) rfl)
theorem dX9_change_174 : decode cX9_change 174 = .ok (.aload_n 0, 1) := DX9_change_80 (174, .aload_n 0, 1) (List.mem_of_getElem? (i := 10) rfl)
theorem dX9_change_175 : decode cX9_change 175 = .ok (.getfield 21, 3) := DX9_change_80 (175, .getfield 21, 3) (List.mem_of_getElem? (i := 11) rfl)
theorem dX9_change_178 : decode cX9_change 178 = .ok (.iload 7, 2) := DX9_change_80 (178, .iload 7, 2) (List.mem_of_getElem? (i := 12) rfl)
theorem dX9_change_180 : decode cX9_change 180 = .ok (.aload_n 0, 1) := DX9_change_80 (180, .aload_n 0, 1) (List.mem_of_getElem? (i := 13) rfl)
theorem dX9_change_181 : decode cX9_change 181 = .ok (.iload_n 1, 1) := DX9_change_80 (181, .iload_n 1, 1) (List.mem_of_getElem? (i := 14) rfl)
theorem dX9_change_182 : decode cX9_change 182 = .ok (.invokevirtual 92, 3) := DX9_change_80 (182, .invokevirtual 92, 3) (List.mem_of_getElem? (i := 15) rfl)
theorem dX9_change_185 : decode cX9_change 185 = .ok (.aload_n 0, 1) := DX9_change_80 (185, .aload_n 0, 1) (List.mem_of_getElem? (i := 16) rfl)
theorem dX9_change_186 : decode cX9_change 186 = .ok (.getfield 12, 3) := DX9_change_80 (186, .getfield 12, 3) (List.mem_of_getElem? (i := 17) rfl)
theorem dX9_change_189 : decode cX9_change 189 = .ok (.invokevirtual 159, 3) := DX9_change_80 (189, .invokevirtual 159, 3) (List.mem_of_getElem? (i := 18) rfl)
theorem dX9_change_192 : decode cX9_change 192 = .ok (.aload_n 0, 1) := DX9_change_80 (192, .aload_n 0, 1) (List.mem_of_getElem? (i := 19) rfl)
theorem dX9_change_193 : decode cX9_change 193 = .ok (.getfield 35, 3) := DX9_change_80 (193, .getfield 35, 3) (List.mem_of_getElem? (i := 20) rfl)
theorem dX9_change_196 : decode cX9_change 196 = .ok (.iload_n 1, 1) := DX9_change_80 (196, .iload_n 1, 1) (List.mem_of_getElem? (i := 21) rfl)
theorem dX9_change_197 : decode cX9_change 197 = .ok (.iload_n 2, 1) := DX9_change_80 (197, .iload_n 2, 1) (List.mem_of_getElem? (i := 22) rfl)
theorem dX9_change_198 : decode cX9_change 198 = .ok (.iload 4, 2) := DX9_change_80 (198, .iload 4, 2) (List.mem_of_getElem? (i := 23) rfl)
theorem dX9_change_200 : decode cX9_change 200 = .ok (.invokevirtual 163, 3) := DX9_change_80 (200, .invokevirtual 163, 3) (List.mem_of_getElem? (i := 24) rfl)
theorem dX9_change_203 : decode cX9_change 203 = .ok (.aload_n 0, 1) := DX9_change_80 (203, .aload_n 0, 1) (List.mem_of_getElem? (i := 25) rfl)
theorem dX9_change_204 : decode cX9_change 204 = .ok (.getfield 35, 3) := DX9_change_80 (204, .getfield 35, 3) (List.mem_of_getElem? (i := 26) rfl)
theorem dX9_change_207 : decode cX9_change 207 = .ok (.getfield 129, 3) := DX9_change_80 (207, .getfield 129, 3) (List.mem_of_getElem? (i := 27) rfl)
theorem dX9_change_210 : decode cX9_change 210 = .ok (.iload_n 1, 1) := DX9_change_80 (210, .iload_n 1, 1) (List.mem_of_getElem? (i := 28) rfl)
theorem dX9_change_211 : decode cX9_change 211 = .ok (.iconst 0, 1) := DX9_change_80 (211, .iconst 0, 1) (List.mem_of_getElem? (i := 29) rfl)
theorem dX9_change_212 : decode cX9_change 212 = .ok (.iastore, 1) := DX9_change_80 (212, .iastore, 1) (List.mem_of_getElem? (i := 30) rfl)
theorem dX9_change_213 : decode cX9_change 213 = .ok (.iconst 1, 1) := DX9_change_80 (213, .iconst 1, 1) (List.mem_of_getElem? (i := 31) rfl)
theorem dX9_change_214 : decode cX9_change 214 = .ok (.ireturn, 1) := DX9_change_80 (214, .ireturn, 1) (List.mem_of_getElem? (i := 32) rfl)
set_option maxRecDepth 20000 in
theorem ggX9_goBack_X9_isRunning : GoodIn wsX9_goBack wsX9_isRunning := goodIn_r _ [12, 3, 13, 14, 15, 16, 129, 130, 131, 132, 133, 134, 135, 136, 137, 138, 139, 147, 148, 149] rfl (by decide +kernel)
set_option maxRecDepth 20000 in
theorem gX9_goBack_X9_isRunning : GoodIn wsX9_goBack (wsV RX9 111 RX9 yX9_isRunning wsX9_isRunning) := goodIn_app (goodIn_of _ (by decide +kernel)) ggX9_goBack_X9_isRunning
set_option maxRecDepth 20000 in
theorem ggX9_goBack_X0_saved : GoodIn wsX9_goBack wsX0_saved := goodIn_r _ [21, 22, 140, 141, 142, 143, 144, 145, 146] rfl (by decide +kernel)
set_option maxRecDepth 20000 in
theorem gX9_goBack_X0_saved : GoodIn wsX9_goBack (wsV RX9 172 RX0 yX0_saved wsX0_saved) := goodIn_app (goodIn_of _ (by decide +kernel)) ggX9_goBack_X0_saved
set_option maxRecDepth 20000 in
theorem ggX9_goBack_X2_undoable : GoodIn wsX9_goBack wsX2_undoable := goodIn_r _ [27, 28, 29, 30, 26, 31, 32, 33, 150, 151, 152, 153] rfl (by decide +kernel)
set_option maxRecDepth 20000 in
theorem gX9_goBack_X2_undoable : GoodIn wsX9_goBack (wsV RX9 176 RX2 yX2_undoable wsX2_undoable) := goodIn_app (goodIn_of _ (by decide +kernel)) ggX9_goBack_X2_undoable
set_option maxRecDepth 20000 in
theorem ggX9_goBack_X9_compensate : GoodIn wsX9_goBack wsX9_compensate := goodIn_r _ [37, 6, 38, 3, 4, 39, 40, 41, 26, 42, 28, 29, 30, 31, 32, 33, 43, 44, 45, 46, 47, 48, 49, 50, 51, 52, 53, 54, 55, 56, 57, 58, 59, 60, 61, 62, 63, 64, 65, 66, 67, 68, 69, 70, 71, 72, 73, 74, 15, 75, 76, 77, 78, 79, 80, 81, 82, 83, 84, 85, 86, 87, 88, 89, 90, 91, 92, 93, 94, 95, 96, 97, 98, 99, 100, 101, 11, 102, 103, 104, 105, 106, 107, 108, 109, 110, 111, 112, 113, 114, 115, 129, 130, 131, 132, 133, 134, 135, 136, 137, 138, 139, 147, 148, 149, 150, 151, 152, 153, 154, 155, 156, 157, 158, 159, 160, 161, 162, 163, 164, 165] rfl (by decide +kernel)
set_option maxRecDepth 20000 in
theorem gX9_goBack_X9_compensate : GoodIn wsX9_goBack (wsV RX9 179 RX9 yX9_compensate wsX9_compensate) := goodIn_app (goodIn_of _ (by decide +kernel)) ggX9_goBack_X9_compensate
set_option maxRecDepth 20000 in
theorem ggX9_goBack_X2_onward : GoodIn wsX9_goBack wsX2_onward := goodIn_r _ [119, 28, 29, 30, 26, 31, 32, 33, 120, 92, 93, 94, 150, 151, 152, 153] rfl (by decide +kernel)
set_option maxRecDepth 20000 in
theorem gX9_goBack_X2_onward : GoodIn wsX9_goBack (wsV RX9 183 RX2 yX2_onward wsX2_onward) := goodIn_app (goodIn_of _ (by decide +kernel)) ggX9_goBack_X2_onward
set_option maxRecDepth 20000 in
theorem ggX9_goBack_X0_cutBack : GoodIn wsX9_goBack wsX0_cutBack := goodIn_r _ [124, 125, 126, 127, 128, 18, 19, 20, 21, 22, 140, 141, 142, 143, 144, 145, 146] rfl (by decide +kernel)
set_option maxRecDepth 20000 in
theorem gX9_goBack_X0_cutBack : GoodIn wsX9_goBack (wsV RX9 186 RX0 yX0_cutBack wsX0_cutBack) := goodIn_app (goodIn_of _ (by decide +kernel)) ggX9_goBack_X0_cutBack
set_option maxRecDepth 100000 in
theorem DX9_putSave_0 : ∀ x ∈ ([(0, .aload_n 0, 1), (1, .iload_n 1, 1), (2, .invokevirtual 111, 3), (5, .ifCond .eq 37, 3), (8, .aload_n 0, 1), (9, .getfield 35, 3), (12, .iload_n 1, 1), (13, .aload_n 0, 1), (14, .getfield 28, 3), (17, .getfield 85, 3), (20, .iload_n 1, 1), (21, .iaload, 1), (22, .invokevirtual 166, 3), (25, .ifCond .eq 17, 3), (28, .aload_n 0, 1), (29, .getfield 35, 3), (32, .getfield 169, 3), (35, .iload_n 1, 1), (36, .iaload, 1), (37, .iconst 1, 1), (38, .isub, 1), (39, .goto 4, 3), (42, .iconst (-1), 1), (43, .ireturn, 1)] : List (Nat × Instr × Nat)), decode cX9_putSave x.1 = .ok (x.2.1, x.2.2) := by decide +kernel
theorem dX9_putSave_0 : decode cX9_putSave 0 = .ok (.aload_n 0, 1) := DX9_putSave_0 (0, .aload_n 0, 1) (List.mem_of_getElem? (i := 0) rfl)
theorem dX9_putSave_1 : decode cX9_putSave 1 = .ok (.iload_n 1, 1) := DX9_putSave_0 (1, .iload_n 1, 1) (List.mem_of_getElem? (i := 1) rfl)
theorem dX9_putSave_2 : decode cX9_putSave 2 = .ok (.invokevirtual 111, 3) := DX9_putSave_0 (2, .invokevirtual 111, 3) (List.mem_of_getElem? (i := 2) rfl)
theorem dX9_putSave_5 : decode cX9_putSave 5 = .ok (.ifCond .eq 37, 3) := DX9_putSave_0 (5, .ifCond .eq 37, 3) (List.mem_of_getElem? (i := 3) rfl)
theorem dX9_putSave_8 : decode cX9_putSave 8 = .ok (.aload_n 0, 1) := DX9_putSave_0 (8, .aload_n 0, 1) (List.mem_of_getElem? (i := 4) rfl)
theorem dX9_putSave_9 : decode cX9_putSave 9 = .ok (.getfield 35, 3) := DX9_putSave_0 (9, .getfield 35, 3) (List.mem_of_getElem? (i := 5) rfl)
theorem dX9_putSave_12 : decode cX9_putSave 12 = .ok (.iload_n 1, 1) := DX9_putSave_0 (12, .iload_n 1, 1) (List.mem_of_getElem? (i := 6) rfl)
theorem dX9_putSave_13 : decode cX9_putSave 13 = .ok (.aload_n 0, 1) := DX9_putSave_0 (13, .aload_n 0, 1) (List.mem_of_getElem? (i := 7) rfl)
theorem dX9_putSave_14 : decode cX9_putSave 14 = .ok (.getfield 28, 3) := DX9_putSave_0 (14, .getfield 28, 3) (List.mem_of_getElem? (i := 8) rfl)
theorem dX9_putSave_17 : decode cX9_putSave 17 = .ok (.getfield 85, 3) := DX9_putSave_0 (17, .getfield 85, 3) (List.mem_of_getElem? (i := 9) rfl)
theorem dX9_putSave_20 : decode cX9_putSave 20 = .ok (.iload_n 1, 1) := DX9_putSave_0 (20, .iload_n 1, 1) (List.mem_of_getElem? (i := 10) rfl)
theorem dX9_putSave_21 : decode cX9_putSave 21 = .ok (.iaload, 1) := DX9_putSave_0 (21, .iaload, 1) (List.mem_of_getElem? (i := 11) rfl)
theorem dX9_putSave_22 : decode cX9_putSave 22 = .ok (.invokevirtual 166, 3) := DX9_putSave_0 (22, .invokevirtual 166, 3) (List.mem_of_getElem? (i := 12) rfl)
theorem dX9_putSave_25 : decode cX9_putSave 25 = .ok (.ifCond .eq 17, 3) := DX9_putSave_0 (25, .ifCond .eq 17, 3) (List.mem_of_getElem? (i := 13) rfl)
theorem dX9_putSave_28 : decode cX9_putSave 28 = .ok (.aload_n 0, 1) := DX9_putSave_0 (28, .aload_n 0, 1) (List.mem_of_getElem? (i := 14) rfl)
theorem dX9_putSave_29 : decode cX9_putSave 29 = .ok (.getfield 35, 3) := DX9_putSave_0 (29, .getfield 35, 3) (List.mem_of_getElem? (i := 15) rfl)
theorem dX9_putSave_32 : decode cX9_putSave 32 = .ok (.getfield 169, 3) := DX9_putSave_0 (32, .getfield 169, 3) (List.mem_of_getElem? (i := 16) rfl)
theorem dX9_putSave_35 : decode cX9_putSave 35 = .ok (.iload_n 1, 1) := DX9_putSave_0 (35, .iload_n 1, 1) (List.mem_of_getElem? (i := 17) rfl)
theorem dX9_putSave_36 : decode cX9_putSave 36 = .ok (.iaload, 1) := DX9_putSave_0 (36, .iaload, 1) (List.mem_of_getElem? (i := 18) rfl)
theorem dX9_putSave_37 : decode cX9_putSave 37 = .ok (.iconst 1, 1) := DX9_putSave_0 (37, .iconst 1, 1) (List.mem_of_getElem? (i := 19) rfl)
theorem dX9_putSave_38 : decode cX9_putSave 38 = .ok (.isub, 1) := DX9_putSave_0 (38, .isub, 1) (List.mem_of_getElem? (i := 20) rfl)
theorem dX9_putSave_39 : decode cX9_putSave 39 = .ok (.goto 4, 3) := DX9_putSave_0 (39, .goto 4, 3) (List.mem_of_getElem? (i := 21) rfl)
theorem dX9_putSave_42 : decode cX9_putSave 42 = .ok (.iconst (-1), 1) := DX9_putSave_0 (42, .iconst (-1), 1) (List.mem_of_getElem? (i := 22) rfl)
theorem dX9_putSave_43 : decode cX9_putSave 43 = .ok (.ireturn, 1) := DX9_putSave_0 (43, .ireturn, 1) (List.mem_of_getElem? (i := 23) rfl)
set_option maxRecDepth 20000 in
theorem ggX9_compensate_X2_addressAt : GoodIn wsX9_compensate wsX2_addressAt := goodIn_r _ [9, 10, 11, 12, 8, 13, 14, 15, 105, 106, 107, 108] rfl (by decide +kernel)
set_option maxRecDepth 20000 in
theorem gX9_compensate_X2_addressAt : GoodIn wsX9_compensate (wsV RX9 189 RX2 yX2_addressAt wsX2_addressAt) := goodIn_app (goodIn_of _ (by decide +kernel)) ggX9_compensate_X2_addressAt
set_option maxRecDepth 20000 in
theorem ggX9_compensate_X2_byteAt : GoodIn wsX9_compensate wsX2_byteAt := goodIn_r _ [13, 14, 15, 105, 106, 107, 108] rfl (by decide +kernel)
set_option maxRecDepth 20000 in
theorem gX9_compensate_X2_byteAt : GoodIn wsX9_compensate (wsV RX9 192 RX2 yX2_byteAt wsX2_byteAt) := goodIn_app (goodIn_of _ (by decide +kernel)) ggX9_compensate_X2_byteAt
set_option maxRecDepth 20000 in
theorem ggX9_compensate_X3_fetch : GoodIn wsX9_compensate wsX3_fetch := goodIn_r _ [21, 22, 23, 24, 25, 26, 27, 28, 29, 30, 31, 32, 33, 34, 35, 36, 20, 37, 38, 39, 40, 41, 42, 43, 44, 45, 46, 47, 48, 49, 50, 51, 52, 8, 53, 54, 10, 11, 12, 13, 14, 15, 109, 110, 111, 112, 113, 114, 115, 116, 117, 118, 119, 120, 105, 106, 107, 108] rfl (by decide +kernel)
set_option maxRecDepth 20000 in
theorem gX9_compensate_X3_fetch : GoodIn wsX9_compensate (wsV RX9 149 RX3 yX3_fetch wsX3_fetch) := goodIn_app (goodIn_of _ (by decide +kernel)) ggX9_compensate_X3_fetch
set_option maxRecDepth 20000 in
theorem ggX9_compensate_X2_start : GoodIn wsX9_compensate wsX2_start := goodIn_r _ [58, 14, 59, 60, 61, 62, 8, 63, 15, 105, 106, 107, 108] rfl (by decide +kernel)
set_option maxRecDepth 20000 in
theorem gX9_compensate_X2_start : GoodIn wsX9_compensate (wsV RX9 88 RX2 yX2_start wsX2_start) := goodIn_app (goodIn_of _ (by decide +kernel)) ggX9_compensate_X2_start
set_option maxRecDepth 20000 in
theorem ggX9_compensate_X2_put : GoodIn wsX9_compensate wsX2_put := goodIn_r _ [63, 59, 15, 105, 106, 107, 108] rfl (by decide +kernel)
set_option maxRecDepth 20000 in
theorem gX9_compensate_X2_put : GoodIn wsX9_compensate (wsV RX9 153 RX2 yX2_put wsX2_put) := goodIn_app (goodIn_of _ (by decide +kernel)) ggX9_compensate_X2_put
set_option maxRecDepth 20000 in
theorem ggX9_compensate_X2_pairAt : GoodIn wsX9_compensate wsX2_pairAt := goodIn_r _ [68, 10, 11, 12, 8, 13, 14, 15, 105, 106, 107, 108] rfl (by decide +kernel)
set_option maxRecDepth 20000 in
theorem gX9_compensate_X2_pairAt : GoodIn wsX9_compensate (wsV RX9 195 RX2 yX2_pairAt wsX2_pairAt) := goodIn_app (goodIn_of _ (by decide +kernel)) ggX9_compensate_X2_pairAt
set_option maxRecDepth 20000 in
theorem ggX9_compensate_X2_putPair : GoodIn wsX9_compensate wsX2_putPair := goodIn_r _ [72, 60, 61, 62, 8, 63, 59, 15, 105, 106, 107, 108] rfl (by decide +kernel)
set_option maxRecDepth 20000 in
theorem gX9_compensate_X2_putPair : GoodIn wsX9_compensate (wsV RX9 139 RX2 yX2_putPair wsX2_putPair) := goodIn_app (goodIn_of _ (by decide +kernel)) ggX9_compensate_X2_putPair
set_option maxRecDepth 20000 in
theorem ggX9_compensate_X9_finish : GoodIn wsX9_compensate wsX9_finish := goodIn_r _ [77, 1, 3, 4, 78, 79, 80, 8, 81, 14, 59, 15, 91, 92, 93, 94, 95, 96, 97, 98, 99, 100, 101, 102, 103, 104, 105, 106, 107, 108] rfl (by decide +kernel)
set_option maxRecDepth 20000 in
theorem gX9_compensate_X9_finish : GoodIn wsX9_compensate (wsV RX9 92 RX9 yX9_finish wsX9_finish) := goodIn_app (goodIn_of _ (by decide +kernel)) ggX9_compensate_X9_finish
set_option maxRecDepth 20000 in
theorem ggX9_compensate_X3_doIn : GoodIn wsX9_compensate wsX3_doIn := goodIn_r _ [85, 24, 30, 22, 86, 6, 7, 8, 9, 10, 11, 12, 13, 14, 15, 87, 88, 89, 90, 109, 110, 111, 112, 113, 114, 115, 116, 117, 118, 119, 120, 105, 106, 107, 108] rfl (by decide +kernel)
set_option maxRecDepth 20000 in
theorem gX9_compensate_X3_doIn : GoodIn wsX9_compensate (wsV RX9 159 RX3 yX3_doIn wsX3_doIn) := goodIn_app (goodIn_of _ (by decide +kernel)) ggX9_compensate_X3_doIn
set_option maxRecDepth 100000 in
theorem DX9_goBack_0 : ∀ x ∈ ([(0, .aload_n 0, 1), (1, .iload_n 1, 1), (2, .invokevirtual 111, 3), (5, .ifCond .eq 20, 3), (8, .iload_n 2, 1), (9, .ifCond .lt 16, 3), (12, .iload_n 2, 1), (13, .aload_n 0, 1), (14, .getfield 35, 3), (17, .getfield 169, 3), (20, .iload_n 1, 1), (21, .iaload, 1), (22, .if_icmp .lt 5, 3), (25, .iconst (-1), 1), (26, .ireturn, 1), (27, .aload_n 0, 1), (28, .getfield 35, 3), (31, .iload_n 1, 1), (32, .iload_n 2, 1), (33, .invokevirtual 172, 3), (36, .istore_n 3, 1), (37, .iconst 0, 1), (38, .istore 4, 2), (40, .aload_n 0, 1), (41, .getfield 28, 3), (44, .getfield 85, 3), (47, .iload_n 1, 1), (48, .iaload, 1), (49, .istore 5, 2), (51, .iconst 0, 1), (52, .istore 6, 2), (54, .iload 6, 2), (56, .ldc 175, 2), (58, .if_icmp .ge 48, 3), (61, .iload 5, 2), (63, .iload_n 3, 1), (64, .if_icmp .le 42, 3), (67, .aload_n 0, 1), (68, .getfield 12, 3), (71, .iload 5, 2)] : List (Nat × Instr × Nat)), decode cX9_goBack x.1 = .ok (x.2.1, x.2.2) := by decide +kernel
theorem dX9_goBack_0 : decode cX9_goBack 0 = .ok (.aload_n 0, 1) := DX9_goBack_0 (0, .aload_n 0, 1) (List.mem_of_getElem? (i := 0) rfl)
theorem dX9_goBack_1 : decode cX9_goBack 1 = .ok (.iload_n 1, 1) := DX9_goBack_0 (1, .iload_n 1, 1) (List.mem_of_getElem? (i := 1) rfl)
theorem dX9_goBack_2 : decode cX9_goBack 2 = .ok (.invokevirtual 111, 3) := DX9_goBack_0 (2, .invokevirtual 111, 3) (List.mem_of_getElem? (i := 2) rfl)
theorem dX9_goBack_5 : decode cX9_goBack 5 = .ok (.ifCond .eq 20, 3) := DX9_goBack_0 (5, .ifCond .eq 20, 3) (List.mem_of_getElem? (i := 3) rfl)
theorem dX9_goBack_8 : decode cX9_goBack 8 = .ok (.iload_n 2, 1) := DX9_goBack_0 (8, .iload_n 2, 1) (List.mem_of_getElem? (i := 4) rfl)
theorem dX9_goBack_9 : decode cX9_goBack 9 = .ok (.ifCond .lt 16, 3) := DX9_goBack_0 (9, .ifCond .lt 16, 3) (List.mem_of_getElem? (i := 5) rfl)
theorem dX9_goBack_12 : decode cX9_goBack 12 = .ok (.iload_n 2, 1) := DX9_goBack_0 (12, .iload_n 2, 1) (List.mem_of_getElem? (i := 6) rfl)
theorem dX9_goBack_13 : decode cX9_goBack 13 = .ok (.aload_n 0, 1) := DX9_goBack_0 (13, .aload_n 0, 1) (List.mem_of_getElem? (i := 7) rfl)
theorem dX9_goBack_14 : decode cX9_goBack 14 = .ok (.getfield 35, 3) := DX9_goBack_0 (14, .getfield 35, 3) (List.mem_of_getElem? (i := 8) rfl)
theorem dX9_goBack_17 : decode cX9_goBack 17 = .ok (.getfield 169, 3) := DX9_goBack_0 (17, .getfield 169, 3) (List.mem_of_getElem? (i := 9) rfl)
theorem dX9_goBack_20 : decode cX9_goBack 20 = .ok (.iload_n 1, 1) := DX9_goBack_0 (20, .iload_n 1, 1) (List.mem_of_getElem? (i := 10) rfl)
theorem dX9_goBack_21 : decode cX9_goBack 21 = .ok (.iaload, 1) := DX9_goBack_0 (21, .iaload, 1) (List.mem_of_getElem? (i := 11) rfl)
theorem dX9_goBack_22 : decode cX9_goBack 22 = .ok (.if_icmp .lt 5, 3) := DX9_goBack_0 (22, .if_icmp .lt 5, 3) (List.mem_of_getElem? (i := 12) rfl)
theorem dX9_goBack_25 : decode cX9_goBack 25 = .ok (.iconst (-1), 1) := DX9_goBack_0 (25, .iconst (-1), 1) (List.mem_of_getElem? (i := 13) rfl)
theorem dX9_goBack_26 : decode cX9_goBack 26 = .ok (.ireturn, 1) := DX9_goBack_0 (26, .ireturn, 1) (List.mem_of_getElem? (i := 14) rfl)
theorem dX9_goBack_27 : decode cX9_goBack 27 = .ok (.aload_n 0, 1) := DX9_goBack_0 (27, .aload_n 0, 1) (List.mem_of_getElem? (i := 15) rfl)
theorem dX9_goBack_28 : decode cX9_goBack 28 = .ok (.getfield 35, 3) := DX9_goBack_0 (28, .getfield 35, 3) (List.mem_of_getElem? (i := 16) rfl)
theorem dX9_goBack_31 : decode cX9_goBack 31 = .ok (.iload_n 1, 1) := DX9_goBack_0 (31, .iload_n 1, 1) (List.mem_of_getElem? (i := 17) rfl)
theorem dX9_goBack_32 : decode cX9_goBack 32 = .ok (.iload_n 2, 1) := DX9_goBack_0 (32, .iload_n 2, 1) (List.mem_of_getElem? (i := 18) rfl)
theorem dX9_goBack_33 : decode cX9_goBack 33 = .ok (.invokevirtual 172, 3) := DX9_goBack_0 (33, .invokevirtual 172, 3) (List.mem_of_getElem? (i := 19) rfl)
theorem dX9_goBack_36 : decode cX9_goBack 36 = .ok (.istore_n 3, 1) := DX9_goBack_0 (36, .istore_n 3, 1) (List.mem_of_getElem? (i := 20) rfl)
theorem dX9_goBack_37 : decode cX9_goBack 37 = .ok (.iconst 0, 1) := DX9_goBack_0 (37, .iconst 0, 1) (List.mem_of_getElem? (i := 21) rfl)
theorem dX9_goBack_38 : decode cX9_goBack 38 = .ok (.istore 4, 2) := DX9_goBack_0 (38, .istore 4, 2) (List.mem_of_getElem? (i := 22) rfl)
theorem dX9_goBack_40 : decode cX9_goBack 40 = .ok (.aload_n 0, 1) := DX9_goBack_0 (40, .aload_n 0, 1) (List.mem_of_getElem? (i := 23) rfl)
theorem dX9_goBack_41 : decode cX9_goBack 41 = .ok (.getfield 28, 3) := DX9_goBack_0 (41, .getfield 28, 3) (List.mem_of_getElem? (i := 24) rfl)
theorem dX9_goBack_44 : decode cX9_goBack 44 = .ok (.getfield 85, 3) := DX9_goBack_0 (44, .getfield 85, 3) (List.mem_of_getElem? (i := 25) rfl)
theorem dX9_goBack_47 : decode cX9_goBack 47 = .ok (.iload_n 1, 1) := DX9_goBack_0 (47, .iload_n 1, 1) (List.mem_of_getElem? (i := 26) rfl)
theorem dX9_goBack_48 : decode cX9_goBack 48 = .ok (.iaload, 1) := DX9_goBack_0 (48, .iaload, 1) (List.mem_of_getElem? (i := 27) rfl)
theorem dX9_goBack_49 : decode cX9_goBack 49 = .ok (.istore 5, 2) := DX9_goBack_0 (49, .istore 5, 2) (List.mem_of_getElem? (i := 28) rfl)
theorem dX9_goBack_51 : decode cX9_goBack 51 = .ok (.iconst 0, 1) := DX9_goBack_0 (51, .iconst 0, 1) (List.mem_of_getElem? (i := 29) rfl)
theorem dX9_goBack_52 : decode cX9_goBack 52 = .ok (.istore 6, 2) := DX9_goBack_0 (52, .istore 6, 2) (List.mem_of_getElem? (i := 30) rfl)
theorem dX9_goBack_54 : decode cX9_goBack 54 = .ok (.iload 6, 2) := DX9_goBack_0 (54, .iload 6, 2) (List.mem_of_getElem? (i := 31) rfl)
theorem dX9_goBack_56 : decode cX9_goBack 56 = .ok (.ldc 175, 2) := DX9_goBack_0 (56, .ldc 175, 2) (List.mem_of_getElem? (i := 32) rfl)
theorem dX9_goBack_58 : decode cX9_goBack 58 = .ok (.if_icmp .ge 48, 3) := DX9_goBack_0 (58, .if_icmp .ge 48, 3) (List.mem_of_getElem? (i := 33) rfl)
theorem dX9_goBack_61 : decode cX9_goBack 61 = .ok (.iload 5, 2) := DX9_goBack_0 (61, .iload 5, 2) (List.mem_of_getElem? (i := 34) rfl)
theorem dX9_goBack_63 : decode cX9_goBack 63 = .ok (.iload_n 3, 1) := DX9_goBack_0 (63, .iload_n 3, 1) (List.mem_of_getElem? (i := 35) rfl)
theorem dX9_goBack_64 : decode cX9_goBack 64 = .ok (.if_icmp .le 42, 3) := DX9_goBack_0 (64, .if_icmp .le 42, 3) (List.mem_of_getElem? (i := 36) rfl)
theorem dX9_goBack_67 : decode cX9_goBack 67 = .ok (.aload_n 0, 1) := DX9_goBack_0 (67, .aload_n 0, 1) (List.mem_of_getElem? (i := 37) rfl)
theorem dX9_goBack_68 : decode cX9_goBack 68 = .ok (.getfield 12, 3) := DX9_goBack_0 (68, .getfield 12, 3) (List.mem_of_getElem? (i := 38) rfl)
theorem dX9_goBack_71 : decode cX9_goBack 71 = .ok (.iload 5, 2) := DX9_goBack_0 (71, .iload 5, 2) (List.mem_of_getElem? (i := 39) rfl)
set_option maxRecDepth 100000 in
theorem DX9_goBack_40 : ∀ x ∈ ([(73, .invokevirtual 176, 3), (76, .ifCond .eq 13, 3), (79, .aload_n 0, 1), (80, .iload_n 1, 1), (81, .iload 5, 2), (83, .invokevirtual 179, 3), (86, .iinc 4 1, 3), (89, .aload_n 0, 1), (90, .getfield 12, 3), (93, .iload 5, 2), (95, .invokevirtual 183, 3), (98, .istore 5, 2), (100, .iinc 6 1, 3), (103, .goto (-49), 3), (106, .aload_n 0, 1), (107, .getfield 35, 3), (110, .iload_n 1, 1), (111, .iload_n 2, 1), (112, .invokevirtual 186, 3), (115, .aload_n 0, 1), (116, .getfield 35, 3), (119, .getfield 129, 3), (122, .iload_n 1, 1), (123, .iconst 0, 1), (124, .iastore, 1), (125, .iload 4, 2), (127, .ireturn, 1)] : List (Nat × Instr × Nat)), decode cX9_goBack x.1 = .ok (x.2.1, x.2.2) := by decide +kernel
theorem dX9_goBack_73 : decode cX9_goBack 73 = .ok (.invokevirtual 176, 3) := DX9_goBack_40 (73, .invokevirtual 176, 3) (List.mem_of_getElem? (i := 0) rfl)
theorem dX9_goBack_76 : decode cX9_goBack 76 = .ok (.ifCond .eq 13, 3) := DX9_goBack_40 (76, .ifCond .eq 13, 3) (List.mem_of_getElem? (i := 1) rfl)
theorem dX9_goBack_79 : decode cX9_goBack 79 = .ok (.aload_n 0, 1) := DX9_goBack_40 (79, .aload_n 0, 1) (List.mem_of_getElem? (i := 2) rfl)
theorem dX9_goBack_80 : decode cX9_goBack 80 = .ok (.iload_n 1, 1) := DX9_goBack_40 (80, .iload_n 1, 1) (List.mem_of_getElem? (i := 3) rfl)
theorem dX9_goBack_81 : decode cX9_goBack 81 = .ok (.iload 5, 2) := DX9_goBack_40 (81, .iload 5, 2) (List.mem_of_getElem? (i := 4) rfl)
theorem dX9_goBack_83 : decode cX9_goBack 83 = .ok (.invokevirtual 179, 3) := DX9_goBack_40 (83, .invokevirtual 179, 3) (List.mem_of_getElem? (i := 5) rfl)
theorem dX9_goBack_86 : decode cX9_goBack 86 = .ok (.iinc 4 1, 3) := DX9_goBack_40 (86, .iinc 4 1, 3) (List.mem_of_getElem? (i := 6) rfl)
theorem dX9_goBack_89 : decode cX9_goBack 89 = .ok (.aload_n 0, 1) := DX9_goBack_40 (89, .aload_n 0, 1) (List.mem_of_getElem? (i := 7) rfl)
theorem dX9_goBack_90 : decode cX9_goBack 90 = .ok (.getfield 12, 3) := DX9_goBack_40 (90, .getfield 12, 3) (List.mem_of_getElem? (i := 8) rfl)
theorem dX9_goBack_93 : decode cX9_goBack 93 = .ok (.iload 5, 2) := DX9_goBack_40 (93, .iload 5, 2) (List.mem_of_getElem? (i := 9) rfl)
theorem dX9_goBack_95 : decode cX9_goBack 95 = .ok (.invokevirtual 183, 3) := DX9_goBack_40 (95, .invokevirtual 183, 3) (List.mem_of_getElem? (i := 10) rfl)
theorem dX9_goBack_98 : decode cX9_goBack 98 = .ok (.istore 5, 2) := DX9_goBack_40 (98, .istore 5, 2) (List.mem_of_getElem? (i := 11) rfl)
theorem dX9_goBack_100 : decode cX9_goBack 100 = .ok (.iinc 6 1, 3) := DX9_goBack_40 (100, .iinc 6 1, 3) (List.mem_of_getElem? (i := 12) rfl)
theorem dX9_goBack_103 : decode cX9_goBack 103 = .ok (.goto (-49), 3) := DX9_goBack_40 (103, .goto (-49), 3) (List.mem_of_getElem? (i := 13) rfl)
theorem dX9_goBack_106 : decode cX9_goBack 106 = .ok (.aload_n 0, 1) := DX9_goBack_40 (106, .aload_n 0, 1) (List.mem_of_getElem? (i := 14) rfl)
theorem dX9_goBack_107 : decode cX9_goBack 107 = .ok (.getfield 35, 3) := DX9_goBack_40 (107, .getfield 35, 3) (List.mem_of_getElem? (i := 15) rfl)
theorem dX9_goBack_110 : decode cX9_goBack 110 = .ok (.iload_n 1, 1) := DX9_goBack_40 (110, .iload_n 1, 1) (List.mem_of_getElem? (i := 16) rfl)
theorem dX9_goBack_111 : decode cX9_goBack 111 = .ok (.iload_n 2, 1) := DX9_goBack_40 (111, .iload_n 2, 1) (List.mem_of_getElem? (i := 17) rfl)
theorem dX9_goBack_112 : decode cX9_goBack 112 = .ok (.invokevirtual 186, 3) := DX9_goBack_40 (112, .invokevirtual 186, 3) (List.mem_of_getElem? (i := 18) rfl)
theorem dX9_goBack_115 : decode cX9_goBack 115 = .ok (.aload_n 0, 1) := DX9_goBack_40 (115, .aload_n 0, 1) (List.mem_of_getElem? (i := 19) rfl)
theorem dX9_goBack_116 : decode cX9_goBack 116 = .ok (.getfield 35, 3) := DX9_goBack_40 (116, .getfield 35, 3) (List.mem_of_getElem? (i := 20) rfl)
theorem dX9_goBack_119 : decode cX9_goBack 119 = .ok (.getfield 129, 3) := DX9_goBack_40 (119, .getfield 129, 3) (List.mem_of_getElem? (i := 21) rfl)
theorem dX9_goBack_122 : decode cX9_goBack 122 = .ok (.iload_n 1, 1) := DX9_goBack_40 (122, .iload_n 1, 1) (List.mem_of_getElem? (i := 22) rfl)
theorem dX9_goBack_123 : decode cX9_goBack 123 = .ok (.iconst 0, 1) := DX9_goBack_40 (123, .iconst 0, 1) (List.mem_of_getElem? (i := 23) rfl)
theorem dX9_goBack_124 : decode cX9_goBack 124 = .ok (.iastore, 1) := DX9_goBack_40 (124, .iastore, 1) (List.mem_of_getElem? (i := 24) rfl)
theorem dX9_goBack_125 : decode cX9_goBack 125 = .ok (.iload 4, 2) := DX9_goBack_40 (125, .iload 4, 2) (List.mem_of_getElem? (i := 25) rfl)
theorem dX9_goBack_127 : decode cX9_goBack 127 = .ok (.ireturn, 1) := DX9_goBack_40 (127, .ireturn, 1) (List.mem_of_getElem? (i := 26) rfl)
set_option maxRecDepth 20000 in
theorem ggX9_rollBack_X10_isParty : GoodIn wsX9_rollBack wsX10_isParty := goodIn_r _ [7] rfl (by decide +kernel)
set_option maxRecDepth 20000 in
theorem gX9_rollBack_X10_isParty_n73 : GoodIn wsX9_rollBack (wsX10_isParty) := ggX9_rollBack_X10_isParty
set_option maxRecDepth 20000 in
theorem ggX9_rollBack_X2_nextUndoable : GoodIn wsX9_rollBack wsX2_nextUndoable := goodIn_r _ [12, 13, 14, 15, 16, 11, 17, 18, 19, 20, 21, 22, 23, 24, 25, 26, 27, 28, 29, 30, 31, 159, 160, 161, 162] rfl (by decide +kernel)
set_option maxRecDepth 20000 in
theorem gX9_rollBack_X2_nextUndoable : GoodIn wsX9_rollBack (wsV RX9 198 RX2 yX2_nextUndoable wsX2_nextUndoable) := goodIn_app (goodIn_of _ (by decide +kernel)) ggX9_rollBack_X2_nextUndoable
set_option maxRecDepth 20000 in
theorem ggX9_rollBack_X9_endOf : GoodIn wsX9_rollBack wsX9_endOf := goodIn_r _ [36, 1, 37, 38, 39, 40, 35, 41, 3, 42, 43, 44, 45, 11, 46, 22, 47, 48, 49, 50, 51, 23, 52, 53, 54, 55, 56, 57, 58, 59, 60, 61, 62, 63, 64, 65, 66, 67, 68, 69, 70, 71, 72, 73, 74, 75, 76, 77, 78, 79, 80, 81, 145, 146, 147, 148, 149, 150, 151, 152, 153, 154, 155, 156, 157, 158, 159, 160, 161, 162, 163, 164, 165, 166, 167, 168, 169] rfl (by decide +kernel)
set_option maxRecDepth 20000 in
theorem gX9_rollBack_X9_endOf : GoodIn wsX9_rollBack (wsV RX9 120 RX9 yX9_endOf wsX9_endOf) := goodIn_app (goodIn_of _ (by decide +kernel)) ggX9_rollBack_X9_endOf
set_option maxRecDepth 20000 in
theorem ggX9_rollBack_X9_compensate : GoodIn wsX9_rollBack wsX9_compensate := goodIn_r _ [85, 3, 86, 1, 42, 87, 88, 89, 11, 90, 18, 19, 20, 21, 22, 23, 91, 92, 93, 94, 95, 96, 97, 98, 99, 100, 101, 102, 103, 104, 105, 106, 107, 108, 109, 110, 111, 112, 113, 114, 115, 116, 117, 118, 119, 120, 121, 122, 6, 123, 124, 125, 126, 127, 128, 43, 44, 45, 46, 47, 48, 49, 50, 51, 129, 130, 29, 30, 31, 131, 132, 133, 134, 52, 53, 54, 35, 55, 56, 57, 58, 59, 135, 136, 137, 138, 139, 140, 141, 142, 143, 145, 146, 147, 148, 149, 150, 151, 152, 153, 154, 155, 156, 157, 158, 159, 160, 161, 162, 170, 171, 172, 173, 174, 175, 176, 177, 178, 179, 180, 181] rfl (by decide +kernel)
set_option maxRecDepth 20000 in
theorem gX9_rollBack_X9_compensate : GoodIn wsX9_rollBack (wsV RX9 179 RX9 yX9_compensate wsX9_compensate) := goodIn_app (goodIn_of _ (by decide +kernel)) ggX9_rollBack_X9_compensate
set_option maxRecDepth 20000 in
theorem ggX9_rollBack_X2_onward : GoodIn wsX9_rollBack wsX2_onward := goodIn_r _ [27, 18, 19, 20, 11, 21, 22, 23, 28, 29, 30, 31, 159, 160, 161, 162] rfl (by decide +kernel)
set_option maxRecDepth 20000 in
theorem gX9_rollBack_X2_onward : GoodIn wsX9_rollBack (wsV RX9 183 RX2 yX2_onward wsX2_onward) := goodIn_app (goodIn_of _ (by decide +kernel)) ggX9_rollBack_X2_onward
set_option maxRecDepth 100000 in
theorem DX9_compensate_0 : ∀ x ∈ ([(0, .aload_n 0, 1), (1, .getfield 12, 3), (4, .iload_n 2, 1), (5, .invokevirtual 189, 3), (8, .istore_n 3, 1), (9, .aload_n 0, 1), (10, .getfield 12, 3), (13, .iload_n 2, 1), (14, .invokevirtual 192, 3), (17, .iconst 2, 1), (18, .if_icmp .ne 7, 3), (21, .iconst 1, 1), (22, .goto 4, 3), (25, .iconst 0, 1), (26, .istore 4, 2), (28, .aload_n 0, 1), (29, .getfield 21, 3), (32, .iload_n 3, 1), (33, .bipush 16, 2), (35, .idiv, 1), (36, .aload_n 0, 1), (37, .getfield 12, 3), (40, .invokevirtual 149, 3), (43, .istore 5, 2), (45, .aload_n 0, 1), (46, .getfield 12, 3), (49, .iconst 4, 1), (50, .iload_n 1, 1), (51, .aload_n 0, 1), (52, .getfield 28, 3), (55, .getfield 85, 3), (58, .iload_n 1, 1), (59, .iaload, 1), (60, .invokevirtual 88, 3), (63, .aload_n 0, 1), (64, .getfield 12, 3), (67, .iload_n 3, 1), (68, .invokevirtual 153, 3), (71, .aload_n 0, 1), (72, .getfield 12, 3)] : List (Nat × Instr × Nat)), decode cX9_compensate x.1 = .ok (x.2.1, x.2.2) := by decide +kernel
theorem dX9_compensate_0 : decode cX9_compensate 0 = .ok (.aload_n 0, 1) := DX9_compensate_0 (0, .aload_n 0, 1) (List.mem_of_getElem? (i := 0) rfl)
theorem dX9_compensate_1 : decode cX9_compensate 1 = .ok (.getfield 12, 3) := DX9_compensate_0 (1, .getfield 12, 3) (List.mem_of_getElem? (i := 1) rfl)
theorem dX9_compensate_4 : decode cX9_compensate 4 = .ok (.iload_n 2, 1) := DX9_compensate_0 (4, .iload_n 2, 1) (List.mem_of_getElem? (i := 2) rfl)
theorem dX9_compensate_5 : decode cX9_compensate 5 = .ok (.invokevirtual 189, 3) := DX9_compensate_0 (5, .invokevirtual 189, 3) (List.mem_of_getElem? (i := 3) rfl)
theorem dX9_compensate_8 : decode cX9_compensate 8 = .ok (.istore_n 3, 1) := DX9_compensate_0 (8, .istore_n 3, 1) (List.mem_of_getElem? (i := 4) rfl)
theorem dX9_compensate_9 : decode cX9_compensate 9 = .ok (.aload_n 0, 1) := DX9_compensate_0 (9, .aload_n 0, 1) (List.mem_of_getElem? (i := 5) rfl)
theorem dX9_compensate_10 : decode cX9_compensate 10 = .ok (.getfield 12, 3) := DX9_compensate_0 (10, .getfield 12, 3) (List.mem_of_getElem? (i := 6) rfl)
theorem dX9_compensate_13 : decode cX9_compensate 13 = .ok (.iload_n 2, 1) := DX9_compensate_0 (13, .iload_n 2, 1) (List.mem_of_getElem? (i := 7) rfl)
theorem dX9_compensate_14 : decode cX9_compensate 14 = .ok (.invokevirtual 192, 3) := DX9_compensate_0 (14, .invokevirtual 192, 3) (List.mem_of_getElem? (i := 8) rfl)
theorem dX9_compensate_17 : decode cX9_compensate 17 = .ok (.iconst 2, 1) := DX9_compensate_0 (17, .iconst 2, 1) (List.mem_of_getElem? (i := 9) rfl)
theorem dX9_compensate_18 : decode cX9_compensate 18 = .ok (.if_icmp .ne 7, 3) := DX9_compensate_0 (18, .if_icmp .ne 7, 3) (List.mem_of_getElem? (i := 10) rfl)
theorem dX9_compensate_21 : decode cX9_compensate 21 = .ok (.iconst 1, 1) := DX9_compensate_0 (21, .iconst 1, 1) (List.mem_of_getElem? (i := 11) rfl)
theorem dX9_compensate_22 : decode cX9_compensate 22 = .ok (.goto 4, 3) := DX9_compensate_0 (22, .goto 4, 3) (List.mem_of_getElem? (i := 12) rfl)
theorem dX9_compensate_25 : decode cX9_compensate 25 = .ok (.iconst 0, 1) := DX9_compensate_0 (25, .iconst 0, 1) (List.mem_of_getElem? (i := 13) rfl)
theorem dX9_compensate_26 : decode cX9_compensate 26 = .ok (.istore 4, 2) := DX9_compensate_0 (26, .istore 4, 2) (List.mem_of_getElem? (i := 14) rfl)
theorem dX9_compensate_28 : decode cX9_compensate 28 = .ok (.aload_n 0, 1) := DX9_compensate_0 (28, .aload_n 0, 1) (List.mem_of_getElem? (i := 15) rfl)
theorem dX9_compensate_29 : decode cX9_compensate 29 = .ok (.getfield 21, 3) := DX9_compensate_0 (29, .getfield 21, 3) (List.mem_of_getElem? (i := 16) rfl)
theorem dX9_compensate_32 : decode cX9_compensate 32 = .ok (.iload_n 3, 1) := DX9_compensate_0 (32, .iload_n 3, 1) (List.mem_of_getElem? (i := 17) rfl)
theorem dX9_compensate_33 : decode cX9_compensate 33 = .ok (.bipush 16, 2) := DX9_compensate_0 (33, .bipush 16, 2) (List.mem_of_getElem? (i := 18) rfl)
theorem dX9_compensate_35 : decode cX9_compensate 35 = .ok (.idiv, 1) := DX9_compensate_0 (35, .idiv, 1) (List.mem_of_getElem? (i := 19) rfl)
theorem dX9_compensate_36 : decode cX9_compensate 36 = .ok (.aload_n 0, 1) := DX9_compensate_0 (36, .aload_n 0, 1) (List.mem_of_getElem? (i := 20) rfl)
theorem dX9_compensate_37 : decode cX9_compensate 37 = .ok (.getfield 12, 3) := DX9_compensate_0 (37, .getfield 12, 3) (List.mem_of_getElem? (i := 21) rfl)
theorem dX9_compensate_40 : decode cX9_compensate 40 = .ok (.invokevirtual 149, 3) := DX9_compensate_0 (40, .invokevirtual 149, 3) (List.mem_of_getElem? (i := 22) rfl)
theorem dX9_compensate_43 : decode cX9_compensate 43 = .ok (.istore 5, 2) := DX9_compensate_0 (43, .istore 5, 2) (List.mem_of_getElem? (i := 23) rfl)
theorem dX9_compensate_45 : decode cX9_compensate 45 = .ok (.aload_n 0, 1) := DX9_compensate_0 (45, .aload_n 0, 1) (List.mem_of_getElem? (i := 24) rfl)
theorem dX9_compensate_46 : decode cX9_compensate 46 = .ok (.getfield 12, 3) := DX9_compensate_0 (46, .getfield 12, 3) (List.mem_of_getElem? (i := 25) rfl)
theorem dX9_compensate_49 : decode cX9_compensate 49 = .ok (.iconst 4, 1) := DX9_compensate_0 (49, .iconst 4, 1) (List.mem_of_getElem? (i := 26) rfl)
theorem dX9_compensate_50 : decode cX9_compensate 50 = .ok (.iload_n 1, 1) := DX9_compensate_0 (50, .iload_n 1, 1) (List.mem_of_getElem? (i := 27) rfl)
theorem dX9_compensate_51 : decode cX9_compensate 51 = .ok (.aload_n 0, 1) := DX9_compensate_0 (51, .aload_n 0, 1) (List.mem_of_getElem? (i := 28) rfl)
theorem dX9_compensate_52 : decode cX9_compensate 52 = .ok (.getfield 28, 3) := DX9_compensate_0 (52, .getfield 28, 3) (List.mem_of_getElem? (i := 29) rfl)
theorem dX9_compensate_55 : decode cX9_compensate 55 = .ok (.getfield 85, 3) := DX9_compensate_0 (55, .getfield 85, 3) (List.mem_of_getElem? (i := 30) rfl)
theorem dX9_compensate_58 : decode cX9_compensate 58 = .ok (.iload_n 1, 1) := DX9_compensate_0 (58, .iload_n 1, 1) (List.mem_of_getElem? (i := 31) rfl)
theorem dX9_compensate_59 : decode cX9_compensate 59 = .ok (.iaload, 1) := DX9_compensate_0 (59, .iaload, 1) (List.mem_of_getElem? (i := 32) rfl)
theorem dX9_compensate_60 : decode cX9_compensate 60 = .ok (.invokevirtual 88, 3) := DX9_compensate_0 (60, .invokevirtual 88, 3) (List.mem_of_getElem? (i := 33) rfl)
theorem dX9_compensate_63 : decode cX9_compensate 63 = .ok (.aload_n 0, 1) := DX9_compensate_0 (63, .aload_n 0, 1) (List.mem_of_getElem? (i := 34) rfl)
theorem dX9_compensate_64 : decode cX9_compensate 64 = .ok (.getfield 12, 3) := DX9_compensate_0 (64, .getfield 12, 3) (List.mem_of_getElem? (i := 35) rfl)
theorem dX9_compensate_67 : decode cX9_compensate 67 = .ok (.iload_n 3, 1) := DX9_compensate_0 (67, .iload_n 3, 1) (List.mem_of_getElem? (i := 36) rfl)
theorem dX9_compensate_68 : decode cX9_compensate 68 = .ok (.invokevirtual 153, 3) := DX9_compensate_0 (68, .invokevirtual 153, 3) (List.mem_of_getElem? (i := 37) rfl)
theorem dX9_compensate_71 : decode cX9_compensate 71 = .ok (.aload_n 0, 1) := DX9_compensate_0 (71, .aload_n 0, 1) (List.mem_of_getElem? (i := 38) rfl)
theorem dX9_compensate_72 : decode cX9_compensate 72 = .ok (.getfield 12, 3) := DX9_compensate_0 (72, .getfield 12, 3) (List.mem_of_getElem? (i := 39) rfl)
set_option maxRecDepth 100000 in
theorem DX9_compensate_40 : ∀ x ∈ ([(75, .iload 4, 2), (77, .ifCond .eq 7, 3), (80, .iconst 0, 1), (81, .goto 4, 3), (84, .iconst 1, 1), (85, .invokevirtual 153, 3), (88, .aload_n 0, 1), (89, .getfield 12, 3), (92, .iload 4, 2), (94, .ifCond .eq 17, 3), (97, .aload_n 0, 1), (98, .getfield 12, 3), (101, .iload_n 2, 1), (102, .bipush 6, 2), (104, .iadd, 1), (105, .invokevirtual 192, 3), (108, .goto 18, 3), (111, .sipush 256, 3), (114, .aload_n 0, 1), (115, .getfield 12, 3), (118, .iload_n 2, 1), (119, .bipush 6, 2), (121, .iadd, 1), (122, .invokevirtual 192, 3), (125, .isub, 1), (126, .invokevirtual 153, 3), (129, .aload_n 0, 1), (130, .getfield 12, 3), (133, .aload_n 0, 1), (134, .getfield 12, 3), (137, .iload_n 2, 1), (138, .iconst 3, 1), (139, .iadd, 1), (140, .invokevirtual 195, 3), (143, .invokevirtual 139, 3), (146, .aload_n 0, 1), (147, .getfield 21, 3), (150, .iload 5, 2), (152, .aload_n 0, 1), (153, .iload_n 1, 1)] : List (Nat × Instr × Nat)), decode cX9_compensate x.1 = .ok (x.2.1, x.2.2) := by decide +kernel
theorem dX9_compensate_75 : decode cX9_compensate 75 = .ok (.iload 4, 2) := DX9_compensate_40 (75, .iload 4, 2) (List.mem_of_getElem? (i := 0) rfl)
theorem dX9_compensate_77 : decode cX9_compensate 77 = .ok (.ifCond .eq 7, 3) := DX9_compensate_40 (77, .ifCond .eq 7, 3) (List.mem_of_getElem? (i := 1) rfl)
theorem dX9_compensate_80 : decode cX9_compensate 80 = .ok (.iconst 0, 1) := DX9_compensate_40 (80, .iconst 0, 1) (List.mem_of_getElem? (i := 2) rfl)
theorem dX9_compensate_81 : decode cX9_compensate 81 = .ok (.goto 4, 3) := DX9_compensate_40 (81, .goto 4, 3) (List.mem_of_getElem? (i := 3) rfl)
theorem dX9_compensate_84 : decode cX9_compensate 84 = .ok (.iconst 1, 1) := DX9_compensate_40 (84, .iconst 1, 1) (List.mem_of_getElem? (i := 4) rfl)
theorem dX9_compensate_85 : decode cX9_compensate 85 = .ok (.invokevirtual 153, 3) := DX9_compensate_40 (85, .invokevirtual 153, 3) (List.mem_of_getElem? (i := 5) rfl)
theorem dX9_compensate_88 : decode cX9_compensate 88 = .ok (.aload_n 0, 1) := DX9_compensate_40 (88, .aload_n 0, 1) (List.mem_of_getElem? (i := 6) rfl)
theorem dX9_compensate_89 : decode cX9_compensate 89 = .ok (.getfield 12, 3) := DX9_compensate_40 (89, .getfield 12, 3) (List.mem_of_getElem? (i := 7) rfl)
theorem dX9_compensate_92 : decode cX9_compensate 92 = .ok (.iload 4, 2) := DX9_compensate_40 (92, .iload 4, 2) (List.mem_of_getElem? (i := 8) rfl)
theorem dX9_compensate_94 : decode cX9_compensate 94 = .ok (.ifCond .eq 17, 3) := DX9_compensate_40 (94, .ifCond .eq 17, 3) (List.mem_of_getElem? (i := 9) rfl)
theorem dX9_compensate_97 : decode cX9_compensate 97 = .ok (.aload_n 0, 1) := DX9_compensate_40 (97, .aload_n 0, 1) (List.mem_of_getElem? (i := 10) rfl)
theorem dX9_compensate_98 : decode cX9_compensate 98 = .ok (.getfield 12, 3) := DX9_compensate_40 (98, .getfield 12, 3) (List.mem_of_getElem? (i := 11) rfl)
theorem dX9_compensate_101 : decode cX9_compensate 101 = .ok (.iload_n 2, 1) := DX9_compensate_40 (101, .iload_n 2, 1) (List.mem_of_getElem? (i := 12) rfl)
theorem dX9_compensate_102 : decode cX9_compensate 102 = .ok (.bipush 6, 2) := DX9_compensate_40 (102, .bipush 6, 2) (List.mem_of_getElem? (i := 13) rfl)
theorem dX9_compensate_104 : decode cX9_compensate 104 = .ok (.iadd, 1) := DX9_compensate_40 (104, .iadd, 1) (List.mem_of_getElem? (i := 14) rfl)
theorem dX9_compensate_105 : decode cX9_compensate 105 = .ok (.invokevirtual 192, 3) := DX9_compensate_40 (105, .invokevirtual 192, 3) (List.mem_of_getElem? (i := 15) rfl)
theorem dX9_compensate_108 : decode cX9_compensate 108 = .ok (.goto 18, 3) := DX9_compensate_40 (108, .goto 18, 3) (List.mem_of_getElem? (i := 16) rfl)
theorem dX9_compensate_111 : decode cX9_compensate 111 = .ok (.sipush 256, 3) := DX9_compensate_40 (111, .sipush 256, 3) (List.mem_of_getElem? (i := 17) rfl)
theorem dX9_compensate_114 : decode cX9_compensate 114 = .ok (.aload_n 0, 1) := DX9_compensate_40 (114, .aload_n 0, 1) (List.mem_of_getElem? (i := 18) rfl)
theorem dX9_compensate_115 : decode cX9_compensate 115 = .ok (.getfield 12, 3) := DX9_compensate_40 (115, .getfield 12, 3) (List.mem_of_getElem? (i := 19) rfl)
theorem dX9_compensate_118 : decode cX9_compensate 118 = .ok (.iload_n 2, 1) := DX9_compensate_40 (118, .iload_n 2, 1) (List.mem_of_getElem? (i := 20) rfl)
theorem dX9_compensate_119 : decode cX9_compensate 119 = .ok (.bipush 6, 2) := DX9_compensate_40 (119, .bipush 6, 2) (List.mem_of_getElem? (i := 21) rfl)
theorem dX9_compensate_121 : decode cX9_compensate 121 = .ok (.iadd, 1) := DX9_compensate_40 (121, .iadd, 1) (List.mem_of_getElem? (i := 22) rfl)
theorem dX9_compensate_122 : decode cX9_compensate 122 = .ok (.invokevirtual 192, 3) := DX9_compensate_40 (122, .invokevirtual 192, 3) (List.mem_of_getElem? (i := 23) rfl)
theorem dX9_compensate_125 : decode cX9_compensate 125 = .ok (.isub, 1) := DX9_compensate_40 (125, .isub, 1) (List.mem_of_getElem? (i := 24) rfl)
theorem dX9_compensate_126 : decode cX9_compensate 126 = .ok (.invokevirtual 153, 3) := DX9_compensate_40 (126, .invokevirtual 153, 3) (List.mem_of_getElem? (i := 25) rfl)
theorem dX9_compensate_129 : decode cX9_compensate 129 = .ok (.aload_n 0, 1) := DX9_compensate_40 (129, .aload_n 0, 1) (List.mem_of_getElem? (i := 26) rfl)
theorem dX9_compensate_130 : decode cX9_compensate 130 = .ok (.getfield 12, 3) := DX9_compensate_40 (130, .getfield 12, 3) (List.mem_of_getElem? (i := 27) rfl)
theorem dX9_compensate_133 : decode cX9_compensate 133 = .ok (.aload_n 0, 1) := DX9_compensate_40 (133, .aload_n 0, 1) (List.mem_of_getElem? (i := 28) rfl)
theorem dX9_compensate_134 : decode cX9_compensate 134 = .ok (.getfield 12, 3) := DX9_compensate_40 (134, .getfield 12, 3) (List.mem_of_getElem? (i := 29) rfl)
theorem dX9_compensate_137 : decode cX9_compensate 137 = .ok (.iload_n 2, 1) := DX9_compensate_40 (137, .iload_n 2, 1) (List.mem_of_getElem? (i := 30) rfl)
theorem dX9_compensate_138 : decode cX9_compensate 138 = .ok (.iconst 3, 1) := DX9_compensate_40 (138, .iconst 3, 1) (List.mem_of_getElem? (i := 31) rfl)
theorem dX9_compensate_139 : decode cX9_compensate 139 = .ok (.iadd, 1) := DX9_compensate_40 (139, .iadd, 1) (List.mem_of_getElem? (i := 32) rfl)
theorem dX9_compensate_140 : decode cX9_compensate 140 = .ok (.invokevirtual 195, 3) := DX9_compensate_40 (140, .invokevirtual 195, 3) (List.mem_of_getElem? (i := 33) rfl)
theorem dX9_compensate_143 : decode cX9_compensate 143 = .ok (.invokevirtual 139, 3) := DX9_compensate_40 (143, .invokevirtual 139, 3) (List.mem_of_getElem? (i := 34) rfl)
theorem dX9_compensate_146 : decode cX9_compensate 146 = .ok (.aload_n 0, 1) := DX9_compensate_40 (146, .aload_n 0, 1) (List.mem_of_getElem? (i := 35) rfl)
theorem dX9_compensate_147 : decode cX9_compensate 147 = .ok (.getfield 21, 3) := DX9_compensate_40 (147, .getfield 21, 3) (List.mem_of_getElem? (i := 36) rfl)
theorem dX9_compensate_150 : decode cX9_compensate 150 = .ok (.iload 5, 2) := DX9_compensate_40 (150, .iload 5, 2) (List.mem_of_getElem? (i := 37) rfl)
theorem dX9_compensate_152 : decode cX9_compensate 152 = .ok (.aload_n 0, 1) := DX9_compensate_40 (152, .aload_n 0, 1) (List.mem_of_getElem? (i := 38) rfl)
theorem dX9_compensate_153 : decode cX9_compensate 153 = .ok (.iload_n 1, 1) := DX9_compensate_40 (153, .iload_n 1, 1) (List.mem_of_getElem? (i := 39) rfl)
set_option maxRecDepth 100000 in
theorem DX9_compensate_80 : ∀ x ∈ ([(154, .invokevirtual 92, 3), (157, .aload_n 0, 1), (158, .getfield 12, 3), (161, .invokevirtual 159, 3), (164, .return_, 1)] : List (Nat × Instr × Nat)), decode cX9_compensate x.1 = .ok (x.2.1, x.2.2) := by decide +kernel
theorem dX9_compensate_154 : decode cX9_compensate 154 = .ok (.invokevirtual 92, 3) := DX9_compensate_80 (154, .invokevirtual 92, 3) (List.mem_of_getElem? (i := 0) rfl)
theorem dX9_compensate_157 : decode cX9_compensate 157 = .ok (.aload_n 0, 1) := DX9_compensate_80 (157, .aload_n 0, 1) (List.mem_of_getElem? (i := 1) rfl)
theorem dX9_compensate_158 : decode cX9_compensate 158 = .ok (.getfield 12, 3) := DX9_compensate_80 (158, .getfield 12, 3) (List.mem_of_getElem? (i := 2) rfl)
theorem dX9_compensate_161 : decode cX9_compensate 161 = .ok (.invokevirtual 159, 3) := DX9_compensate_80 (161, .invokevirtual 159, 3) (List.mem_of_getElem? (i := 3) rfl)
theorem dX9_compensate_164 : decode cX9_compensate 164 = .ok (.return_, 1) := DX9_compensate_80 (164, .return_, 1) (List.mem_of_getElem? (i := 4) rfl)
set_option maxRecDepth 20000 in
theorem ggX9_cost_X2_undoCount : GoodIn wsX9_cost wsX2_undoCount := goodIn_r _ [10, 11, 12, 13, 14, 9, 15, 16, 17, 18, 19, 20, 21, 22, 23, 24, 25, 26, 27, 28, 29, 44, 45, 46, 47] rfl (by decide +kernel)
set_option maxRecDepth 20000 in
theorem gX9_cost_X2_undoCount : GoodIn wsX9_cost (wsV RX9 201 RX2 yX2_undoCount wsX2_undoCount) := goodIn_app (goodIn_of _ (by decide +kernel)) ggX9_cost_X2_undoCount
set_option maxRecDepth 100000 in
theorem DX9_rollBack_0 : ∀ x ∈ ([(0, .iload_n 1, 1), (1, .invokestatic 73, 3), (4, .ifCond .eq 16, 3), (7, .aload_n 0, 1), (8, .getfield 28, 3), (11, .getfield 77, 3), (14, .iload_n 1, 1), (15, .iaload, 1), (16, .iconst 2, 1), (17, .if_icmp .eq 5, 3), (20, .iconst (-1), 1), (21, .ireturn, 1), (22, .iconst 0, 1), (23, .istore_n 3, 1), (24, .iconst 0, 1), (25, .istore 4, 2), (27, .iload 4, 2), (29, .iload_n 2, 1), (30, .if_icmp .ge 81, 3), (33, .aload_n 0, 1), (34, .getfield 28, 3), (37, .getfield 77, 3), (40, .iload_n 1, 1), (41, .iaload, 1), (42, .iconst 2, 1), (43, .if_icmp .ne 68, 3), (46, .aload_n 0, 1), (47, .getfield 12, 3), (50, .aload_n 0, 1), (51, .getfield 28, 3), (54, .getfield 123, 3), (57, .iload_n 1, 1), (58, .iaload, 1), (59, .invokevirtual 198, 3), (62, .istore 5, 2), (64, .iload 5, 2), (66, .ifCond .ne 11, 3), (69, .aload_n 0, 1), (70, .iload_n 1, 1), (71, .invokevirtual 120, 3)] : List (Nat × Instr × Nat)), decode cX9_rollBack x.1 = .ok (x.2.1, x.2.2) := by decide +kernel
theorem dX9_rollBack_0 : decode cX9_rollBack 0 = .ok (.iload_n 1, 1) := DX9_rollBack_0 (0, .iload_n 1, 1) (List.mem_of_getElem? (i := 0) rfl)
theorem dX9_rollBack_1 : decode cX9_rollBack 1 = .ok (.invokestatic 73, 3) := DX9_rollBack_0 (1, .invokestatic 73, 3) (List.mem_of_getElem? (i := 1) rfl)
theorem dX9_rollBack_4 : decode cX9_rollBack 4 = .ok (.ifCond .eq 16, 3) := DX9_rollBack_0 (4, .ifCond .eq 16, 3) (List.mem_of_getElem? (i := 2) rfl)
theorem dX9_rollBack_7 : decode cX9_rollBack 7 = .ok (.aload_n 0, 1) := DX9_rollBack_0 (7, .aload_n 0, 1) (List.mem_of_getElem? (i := 3) rfl)
theorem dX9_rollBack_8 : decode cX9_rollBack 8 = .ok (.getfield 28, 3) := DX9_rollBack_0 (8, .getfield 28, 3) (List.mem_of_getElem? (i := 4) rfl)
theorem dX9_rollBack_11 : decode cX9_rollBack 11 = .ok (.getfield 77, 3) := DX9_rollBack_0 (11, .getfield 77, 3) (List.mem_of_getElem? (i := 5) rfl)
theorem dX9_rollBack_14 : decode cX9_rollBack 14 = .ok (.iload_n 1, 1) := DX9_rollBack_0 (14, .iload_n 1, 1) (List.mem_of_getElem? (i := 6) rfl)
theorem dX9_rollBack_15 : decode cX9_rollBack 15 = .ok (.iaload, 1) := DX9_rollBack_0 (15, .iaload, 1) (List.mem_of_getElem? (i := 7) rfl)
theorem dX9_rollBack_16 : decode cX9_rollBack 16 = .ok (.iconst 2, 1) := DX9_rollBack_0 (16, .iconst 2, 1) (List.mem_of_getElem? (i := 8) rfl)
theorem dX9_rollBack_17 : decode cX9_rollBack 17 = .ok (.if_icmp .eq 5, 3) := DX9_rollBack_0 (17, .if_icmp .eq 5, 3) (List.mem_of_getElem? (i := 9) rfl)
theorem dX9_rollBack_20 : decode cX9_rollBack 20 = .ok (.iconst (-1), 1) := DX9_rollBack_0 (20, .iconst (-1), 1) (List.mem_of_getElem? (i := 10) rfl)
theorem dX9_rollBack_21 : decode cX9_rollBack 21 = .ok (.ireturn, 1) := DX9_rollBack_0 (21, .ireturn, 1) (List.mem_of_getElem? (i := 11) rfl)
theorem dX9_rollBack_22 : decode cX9_rollBack 22 = .ok (.iconst 0, 1) := DX9_rollBack_0 (22, .iconst 0, 1) (List.mem_of_getElem? (i := 12) rfl)
theorem dX9_rollBack_23 : decode cX9_rollBack 23 = .ok (.istore_n 3, 1) := DX9_rollBack_0 (23, .istore_n 3, 1) (List.mem_of_getElem? (i := 13) rfl)
theorem dX9_rollBack_24 : decode cX9_rollBack 24 = .ok (.iconst 0, 1) := DX9_rollBack_0 (24, .iconst 0, 1) (List.mem_of_getElem? (i := 14) rfl)
theorem dX9_rollBack_25 : decode cX9_rollBack 25 = .ok (.istore 4, 2) := DX9_rollBack_0 (25, .istore 4, 2) (List.mem_of_getElem? (i := 15) rfl)
theorem dX9_rollBack_27 : decode cX9_rollBack 27 = .ok (.iload 4, 2) := DX9_rollBack_0 (27, .iload 4, 2) (List.mem_of_getElem? (i := 16) rfl)
theorem dX9_rollBack_29 : decode cX9_rollBack 29 = .ok (.iload_n 2, 1) := DX9_rollBack_0 (29, .iload_n 2, 1) (List.mem_of_getElem? (i := 17) rfl)
theorem dX9_rollBack_30 : decode cX9_rollBack 30 = .ok (.if_icmp .ge 81, 3) := DX9_rollBack_0 (30, .if_icmp .ge 81, 3) (List.mem_of_getElem? (i := 18) rfl)
theorem dX9_rollBack_33 : decode cX9_rollBack 33 = .ok (.aload_n 0, 1) := DX9_rollBack_0 (33, .aload_n 0, 1) (List.mem_of_getElem? (i := 19) rfl)
theorem dX9_rollBack_34 : decode cX9_rollBack 34 = .ok (.getfield 28, 3) := DX9_rollBack_0 (34, .getfield 28, 3) (List.mem_of_getElem? (i := 20) rfl)
theorem dX9_rollBack_37 : decode cX9_rollBack 37 = .ok (.getfield 77, 3) := DX9_rollBack_0 (37, .getfield 77, 3) (List.mem_of_getElem? (i := 21) rfl)
theorem dX9_rollBack_40 : decode cX9_rollBack 40 = .ok (.iload_n 1, 1) := DX9_rollBack_0 (40, .iload_n 1, 1) (List.mem_of_getElem? (i := 22) rfl)
theorem dX9_rollBack_41 : decode cX9_rollBack 41 = .ok (.iaload, 1) := DX9_rollBack_0 (41, .iaload, 1) (List.mem_of_getElem? (i := 23) rfl)
theorem dX9_rollBack_42 : decode cX9_rollBack 42 = .ok (.iconst 2, 1) := DX9_rollBack_0 (42, .iconst 2, 1) (List.mem_of_getElem? (i := 24) rfl)
theorem dX9_rollBack_43 : decode cX9_rollBack 43 = .ok (.if_icmp .ne 68, 3) := DX9_rollBack_0 (43, .if_icmp .ne 68, 3) (List.mem_of_getElem? (i := 25) rfl)
theorem dX9_rollBack_46 : decode cX9_rollBack 46 = .ok (.aload_n 0, 1) := DX9_rollBack_0 (46, .aload_n 0, 1) (List.mem_of_getElem? (i := 26) rfl)
theorem dX9_rollBack_47 : decode cX9_rollBack 47 = .ok (.getfield 12, 3) := DX9_rollBack_0 (47, .getfield 12, 3) (List.mem_of_getElem? (i := 27) rfl)
theorem dX9_rollBack_50 : decode cX9_rollBack 50 = .ok (.aload_n 0, 1) := DX9_rollBack_0 (50, .aload_n 0, 1) (List.mem_of_getElem? (i := 28) rfl)
theorem dX9_rollBack_51 : decode cX9_rollBack 51 = .ok (.getfield 28, 3) := DX9_rollBack_0 (51, .getfield 28, 3) (List.mem_of_getElem? (i := 29) rfl)
theorem dX9_rollBack_54 : decode cX9_rollBack 54 = .ok (.getfield 123, 3) := DX9_rollBack_0 (54, .getfield 123, 3) (List.mem_of_getElem? (i := 30) rfl)
theorem dX9_rollBack_57 : decode cX9_rollBack 57 = .ok (.iload_n 1, 1) := DX9_rollBack_0 (57, .iload_n 1, 1) (List.mem_of_getElem? (i := 31) rfl)
theorem dX9_rollBack_58 : decode cX9_rollBack 58 = .ok (.iaload, 1) := DX9_rollBack_0 (58, .iaload, 1) (List.mem_of_getElem? (i := 32) rfl)
theorem dX9_rollBack_59 : decode cX9_rollBack 59 = .ok (.invokevirtual 198, 3) := DX9_rollBack_0 (59, .invokevirtual 198, 3) (List.mem_of_getElem? (i := 33) rfl)
theorem dX9_rollBack_62 : decode cX9_rollBack 62 = .ok (.istore 5, 2) := DX9_rollBack_0 (62, .istore 5, 2) (List.mem_of_getElem? (i := 34) rfl)
theorem dX9_rollBack_64 : decode cX9_rollBack 64 = .ok (.iload 5, 2) := DX9_rollBack_0 (64, .iload 5, 2) (List.mem_of_getElem? (i := 35) rfl)
theorem dX9_rollBack_66 : decode cX9_rollBack 66 = .ok (.ifCond .ne 11, 3) := DX9_rollBack_0 (66, .ifCond .ne 11, 3) (List.mem_of_getElem? (i := 36) rfl)
theorem dX9_rollBack_69 : decode cX9_rollBack 69 = .ok (.aload_n 0, 1) := DX9_rollBack_0 (69, .aload_n 0, 1) (List.mem_of_getElem? (i := 37) rfl)
theorem dX9_rollBack_70 : decode cX9_rollBack 70 = .ok (.iload_n 1, 1) := DX9_rollBack_0 (70, .iload_n 1, 1) (List.mem_of_getElem? (i := 38) rfl)
theorem dX9_rollBack_71 : decode cX9_rollBack 71 = .ok (.invokevirtual 120, 3) := DX9_rollBack_0 (71, .invokevirtual 120, 3) (List.mem_of_getElem? (i := 39) rfl)
set_option maxRecDepth 100000 in
theorem DX9_rollBack_40 : ∀ x ∈ ([(74, .goto 28, 3), (77, .aload_n 0, 1), (78, .iload_n 1, 1), (79, .iload 5, 2), (81, .invokevirtual 179, 3), (84, .aload_n 0, 1), (85, .getfield 28, 3), (88, .getfield 123, 3), (91, .iload_n 1, 1), (92, .aload_n 0, 1), (93, .getfield 12, 3), (96, .iload 5, 2), (98, .invokevirtual 183, 3), (101, .iastore, 1), (102, .iinc 3 1, 3), (105, .iinc 4 1, 3), (108, .goto (-81), 3), (111, .iload_n 3, 1), (112, .ireturn, 1)] : List (Nat × Instr × Nat)), decode cX9_rollBack x.1 = .ok (x.2.1, x.2.2) := by decide +kernel
theorem dX9_rollBack_74 : decode cX9_rollBack 74 = .ok (.goto 28, 3) := DX9_rollBack_40 (74, .goto 28, 3) (List.mem_of_getElem? (i := 0) rfl)
theorem dX9_rollBack_77 : decode cX9_rollBack 77 = .ok (.aload_n 0, 1) := DX9_rollBack_40 (77, .aload_n 0, 1) (List.mem_of_getElem? (i := 1) rfl)
theorem dX9_rollBack_78 : decode cX9_rollBack 78 = .ok (.iload_n 1, 1) := DX9_rollBack_40 (78, .iload_n 1, 1) (List.mem_of_getElem? (i := 2) rfl)
theorem dX9_rollBack_79 : decode cX9_rollBack 79 = .ok (.iload 5, 2) := DX9_rollBack_40 (79, .iload 5, 2) (List.mem_of_getElem? (i := 3) rfl)
theorem dX9_rollBack_81 : decode cX9_rollBack 81 = .ok (.invokevirtual 179, 3) := DX9_rollBack_40 (81, .invokevirtual 179, 3) (List.mem_of_getElem? (i := 4) rfl)
theorem dX9_rollBack_84 : decode cX9_rollBack 84 = .ok (.aload_n 0, 1) := DX9_rollBack_40 (84, .aload_n 0, 1) (List.mem_of_getElem? (i := 5) rfl)
theorem dX9_rollBack_85 : decode cX9_rollBack 85 = .ok (.getfield 28, 3) := DX9_rollBack_40 (85, .getfield 28, 3) (List.mem_of_getElem? (i := 6) rfl)
theorem dX9_rollBack_88 : decode cX9_rollBack 88 = .ok (.getfield 123, 3) := DX9_rollBack_40 (88, .getfield 123, 3) (List.mem_of_getElem? (i := 7) rfl)
theorem dX9_rollBack_91 : decode cX9_rollBack 91 = .ok (.iload_n 1, 1) := DX9_rollBack_40 (91, .iload_n 1, 1) (List.mem_of_getElem? (i := 8) rfl)
theorem dX9_rollBack_92 : decode cX9_rollBack 92 = .ok (.aload_n 0, 1) := DX9_rollBack_40 (92, .aload_n 0, 1) (List.mem_of_getElem? (i := 9) rfl)
theorem dX9_rollBack_93 : decode cX9_rollBack 93 = .ok (.getfield 12, 3) := DX9_rollBack_40 (93, .getfield 12, 3) (List.mem_of_getElem? (i := 10) rfl)
theorem dX9_rollBack_96 : decode cX9_rollBack 96 = .ok (.iload 5, 2) := DX9_rollBack_40 (96, .iload 5, 2) (List.mem_of_getElem? (i := 11) rfl)
theorem dX9_rollBack_98 : decode cX9_rollBack 98 = .ok (.invokevirtual 183, 3) := DX9_rollBack_40 (98, .invokevirtual 183, 3) (List.mem_of_getElem? (i := 12) rfl)
theorem dX9_rollBack_101 : decode cX9_rollBack 101 = .ok (.iastore, 1) := DX9_rollBack_40 (101, .iastore, 1) (List.mem_of_getElem? (i := 13) rfl)
theorem dX9_rollBack_102 : decode cX9_rollBack 102 = .ok (.iinc 3 1, 3) := DX9_rollBack_40 (102, .iinc 3 1, 3) (List.mem_of_getElem? (i := 14) rfl)
theorem dX9_rollBack_105 : decode cX9_rollBack 105 = .ok (.iinc 4 1, 3) := DX9_rollBack_40 (105, .iinc 4 1, 3) (List.mem_of_getElem? (i := 15) rfl)
theorem dX9_rollBack_108 : decode cX9_rollBack 108 = .ok (.goto (-81), 3) := DX9_rollBack_40 (108, .goto (-81), 3) (List.mem_of_getElem? (i := 16) rfl)
theorem dX9_rollBack_111 : decode cX9_rollBack 111 = .ok (.iload_n 3, 1) := DX9_rollBack_40 (111, .iload_n 3, 1) (List.mem_of_getElem? (i := 17) rfl)
theorem dX9_rollBack_112 : decode cX9_rollBack 112 = .ok (.ireturn, 1) := DX9_rollBack_40 (112, .ireturn, 1) (List.mem_of_getElem? (i := 18) rfl)
set_option maxRecDepth 20000 in
theorem ggX9_flush_X2_beginsAt : GoodIn wsX9_flush wsX2_beginsAt := goodIn_r _ [7, 8, 9, 10, 11, 6, 12, 13, 14, 15, 16, 17, 18, 19, 20, 21, 22, 23, 24, 25, 26, 27, 28, 29, 50, 51, 52, 53] rfl (by decide +kernel)
set_option maxRecDepth 20000 in
theorem gX9_flush_X2_beginsAt : GoodIn wsX9_flush (wsV RX9 204 RX2 yX2_beginsAt wsX2_beginsAt) := goodIn_app (goodIn_of _ (by decide +kernel)) ggX9_flush_X2_beginsAt
set_option maxRecDepth 20000 in
theorem ggX9_flush_X2_flushAll : GoodIn wsX9_flush wsX2_flushAll := goodIn_r _ [33, 8, 34, 50, 51, 52, 53] rfl (by decide +kernel)
set_option maxRecDepth 20000 in
theorem gX9_flush_X2_flushAll : GoodIn wsX9_flush (wsV RX9 207 RX2 yX2_flushAll wsX2_flushAll) := goodIn_app (goodIn_of _ (by decide +kernel)) ggX9_flush_X2_flushAll
set_option maxRecDepth 20000 in
theorem ggX9_flush_X2_flushThrough : GoodIn wsX9_flush wsX2_flushThrough := goodIn_r _ [38, 34, 14, 15, 16, 6, 17, 8, 13, 50, 51, 52, 53] rfl (by decide +kernel)
set_option maxRecDepth 20000 in
theorem gX9_flush_X2_flushThrough : GoodIn wsX9_flush (wsV RX9 117 RX2 yX2_flushThrough wsX2_flushThrough) := goodIn_app (goodIn_of _ (by decide +kernel)) ggX9_flush_X2_flushThrough
set_option maxRecDepth 100000 in
theorem DX9_cost_0 : ∀ x ∈ ([(0, .aload_n 0, 1), (1, .getfield 28, 3), (4, .getfield 77, 3), (7, .iload_n 1, 1), (8, .iaload, 1), (9, .lookupswitch 61 #[(1, 27), (2, 44)], 27), (36, .aload_n 0, 1), (37, .getfield 12, 3), (40, .aload_n 0, 1), (41, .getfield 28, 3), (44, .getfield 85, 3), (47, .iload_n 1, 1), (48, .iaload, 1), (49, .invokevirtual 201, 3), (52, .ireturn, 1), (53, .aload_n 0, 1), (54, .getfield 12, 3), (57, .aload_n 0, 1), (58, .getfield 28, 3), (61, .getfield 123, 3), (64, .iload_n 1, 1), (65, .iaload, 1), (66, .invokevirtual 201, 3), (69, .ireturn, 1), (70, .iconst 0, 1), (71, .ireturn, 1)] : List (Nat × Instr × Nat)), decode cX9_cost x.1 = .ok (x.2.1, x.2.2) := by decide +kernel
theorem dX9_cost_0 : decode cX9_cost 0 = .ok (.aload_n 0, 1) := DX9_cost_0 (0, .aload_n 0, 1) (List.mem_of_getElem? (i := 0) rfl)
theorem dX9_cost_1 : decode cX9_cost 1 = .ok (.getfield 28, 3) := DX9_cost_0 (1, .getfield 28, 3) (List.mem_of_getElem? (i := 1) rfl)
theorem dX9_cost_4 : decode cX9_cost 4 = .ok (.getfield 77, 3) := DX9_cost_0 (4, .getfield 77, 3) (List.mem_of_getElem? (i := 2) rfl)
theorem dX9_cost_7 : decode cX9_cost 7 = .ok (.iload_n 1, 1) := DX9_cost_0 (7, .iload_n 1, 1) (List.mem_of_getElem? (i := 3) rfl)
theorem dX9_cost_8 : decode cX9_cost 8 = .ok (.iaload, 1) := DX9_cost_0 (8, .iaload, 1) (List.mem_of_getElem? (i := 4) rfl)
theorem dX9_cost_9 : decode cX9_cost 9 = .ok (.lookupswitch 61 #[(1, 27), (2, 44)], 27) := DX9_cost_0 (9, .lookupswitch 61 #[(1, 27), (2, 44)], 27) (List.mem_of_getElem? (i := 5) rfl)
theorem dX9_cost_36 : decode cX9_cost 36 = .ok (.aload_n 0, 1) := DX9_cost_0 (36, .aload_n 0, 1) (List.mem_of_getElem? (i := 6) rfl)
theorem dX9_cost_37 : decode cX9_cost 37 = .ok (.getfield 12, 3) := DX9_cost_0 (37, .getfield 12, 3) (List.mem_of_getElem? (i := 7) rfl)
theorem dX9_cost_40 : decode cX9_cost 40 = .ok (.aload_n 0, 1) := DX9_cost_0 (40, .aload_n 0, 1) (List.mem_of_getElem? (i := 8) rfl)
theorem dX9_cost_41 : decode cX9_cost 41 = .ok (.getfield 28, 3) := DX9_cost_0 (41, .getfield 28, 3) (List.mem_of_getElem? (i := 9) rfl)
theorem dX9_cost_44 : decode cX9_cost 44 = .ok (.getfield 85, 3) := DX9_cost_0 (44, .getfield 85, 3) (List.mem_of_getElem? (i := 10) rfl)
theorem dX9_cost_47 : decode cX9_cost 47 = .ok (.iload_n 1, 1) := DX9_cost_0 (47, .iload_n 1, 1) (List.mem_of_getElem? (i := 11) rfl)
theorem dX9_cost_48 : decode cX9_cost 48 = .ok (.iaload, 1) := DX9_cost_0 (48, .iaload, 1) (List.mem_of_getElem? (i := 12) rfl)
theorem dX9_cost_49 : decode cX9_cost 49 = .ok (.invokevirtual 201, 3) := DX9_cost_0 (49, .invokevirtual 201, 3) (List.mem_of_getElem? (i := 13) rfl)
theorem dX9_cost_52 : decode cX9_cost 52 = .ok (.ireturn, 1) := DX9_cost_0 (52, .ireturn, 1) (List.mem_of_getElem? (i := 14) rfl)
theorem dX9_cost_53 : decode cX9_cost 53 = .ok (.aload_n 0, 1) := DX9_cost_0 (53, .aload_n 0, 1) (List.mem_of_getElem? (i := 15) rfl)
theorem dX9_cost_54 : decode cX9_cost 54 = .ok (.getfield 12, 3) := DX9_cost_0 (54, .getfield 12, 3) (List.mem_of_getElem? (i := 16) rfl)
theorem dX9_cost_57 : decode cX9_cost 57 = .ok (.aload_n 0, 1) := DX9_cost_0 (57, .aload_n 0, 1) (List.mem_of_getElem? (i := 17) rfl)
theorem dX9_cost_58 : decode cX9_cost 58 = .ok (.getfield 28, 3) := DX9_cost_0 (58, .getfield 28, 3) (List.mem_of_getElem? (i := 18) rfl)
theorem dX9_cost_61 : decode cX9_cost 61 = .ok (.getfield 123, 3) := DX9_cost_0 (61, .getfield 123, 3) (List.mem_of_getElem? (i := 19) rfl)
theorem dX9_cost_64 : decode cX9_cost 64 = .ok (.iload_n 1, 1) := DX9_cost_0 (64, .iload_n 1, 1) (List.mem_of_getElem? (i := 20) rfl)
theorem dX9_cost_65 : decode cX9_cost 65 = .ok (.iaload, 1) := DX9_cost_0 (65, .iaload, 1) (List.mem_of_getElem? (i := 21) rfl)
theorem dX9_cost_66 : decode cX9_cost 66 = .ok (.invokevirtual 201, 3) := DX9_cost_0 (66, .invokevirtual 201, 3) (List.mem_of_getElem? (i := 22) rfl)
theorem dX9_cost_69 : decode cX9_cost 69 = .ok (.ireturn, 1) := DX9_cost_0 (69, .ireturn, 1) (List.mem_of_getElem? (i := 23) rfl)
theorem dX9_cost_70 : decode cX9_cost 70 = .ok (.iconst 0, 1) := DX9_cost_0 (70, .iconst 0, 1) (List.mem_of_getElem? (i := 24) rfl)
theorem dX9_cost_71 : decode cX9_cost 71 = .ok (.ireturn, 1) := DX9_cost_0 (71, .ireturn, 1) (List.mem_of_getElem? (i := 25) rfl)
set_option maxRecDepth 20000 in
theorem ggX9_writePage_X10_isPage : GoodIn wsX9_writePage wsX10_isPage := goodIn_r _ [7] rfl (by decide +kernel)
set_option maxRecDepth 20000 in
theorem gX9_writePage_X10_isPage_n210 : GoodIn wsX9_writePage (wsX10_isPage) := ggX9_writePage_X10_isPage
set_option maxRecDepth 20000 in
theorem ggX9_writePage_X3_frameOf : GoodIn wsX9_writePage wsX3_frameOf := goodIn_r _ [12, 13, 14, 51, 52, 53, 54, 55, 56, 57, 58, 59, 60, 61, 62] rfl (by decide +kernel)
set_option maxRecDepth 20000 in
theorem gX9_writePage_X3_frameOf : GoodIn wsX9_writePage (wsV RX9 213 RX3 yX3_frameOf wsX3_frameOf) := goodIn_app (goodIn_of _ (by decide +kernel)) ggX9_writePage_X3_frameOf
set_option maxRecDepth 20000 in
theorem ggX9_writePage_X3_writeOut : GoodIn wsX9_writePage wsX3_writeOut := goodIn_r _ [18, 14, 19, 20, 21, 22, 23, 24, 25, 26, 27, 5, 6, 7, 28, 29, 30, 31, 32, 33, 34, 35, 36, 37, 38, 39, 51, 52, 53, 54, 55, 56, 57, 58, 59, 60, 61, 62, 63, 64, 65, 66] rfl (by decide +kernel)
set_option maxRecDepth 20000 in
theorem gX9_writePage_X3_writeOut : GoodIn wsX9_writePage (wsV RX9 219 RX3 yX3_writeOut wsX3_writeOut) := goodIn_app (goodIn_of _ (by decide +kernel)) ggX9_writePage_X3_writeOut
set_option maxRecDepth 100000 in
theorem DX9_flush_0 : ∀ x ∈ ([(0, .aload_n 0, 1), (1, .getfield 53, 3), (4, .ifCond .eq 18, 3), (7, .iload_n 1, 1), (8, .ifCond .eq 16, 3), (11, .aload_n 0, 1), (12, .getfield 12, 3), (15, .iload_n 1, 1), (16, .invokevirtual 204, 3), (19, .ifCond .ne 5, 3), (22, .iconst 0, 1), (23, .ireturn, 1), (24, .iload_n 1, 1), (25, .ifCond .ne 13, 3), (28, .aload_n 0, 1), (29, .getfield 12, 3), (32, .invokevirtual 207, 3), (35, .goto 11, 3), (38, .aload_n 0, 1), (39, .getfield 12, 3), (42, .iload_n 1, 1), (43, .invokevirtual 117, 3), (46, .iconst 1, 1), (47, .ireturn, 1)] : List (Nat × Instr × Nat)), decode cX9_flush x.1 = .ok (x.2.1, x.2.2) := by decide +kernel
theorem dX9_flush_0 : decode cX9_flush 0 = .ok (.aload_n 0, 1) := DX9_flush_0 (0, .aload_n 0, 1) (List.mem_of_getElem? (i := 0) rfl)
theorem dX9_flush_1 : decode cX9_flush 1 = .ok (.getfield 53, 3) := DX9_flush_0 (1, .getfield 53, 3) (List.mem_of_getElem? (i := 1) rfl)
theorem dX9_flush_4 : decode cX9_flush 4 = .ok (.ifCond .eq 18, 3) := DX9_flush_0 (4, .ifCond .eq 18, 3) (List.mem_of_getElem? (i := 2) rfl)
theorem dX9_flush_7 : decode cX9_flush 7 = .ok (.iload_n 1, 1) := DX9_flush_0 (7, .iload_n 1, 1) (List.mem_of_getElem? (i := 3) rfl)
theorem dX9_flush_8 : decode cX9_flush 8 = .ok (.ifCond .eq 16, 3) := DX9_flush_0 (8, .ifCond .eq 16, 3) (List.mem_of_getElem? (i := 4) rfl)
theorem dX9_flush_11 : decode cX9_flush 11 = .ok (.aload_n 0, 1) := DX9_flush_0 (11, .aload_n 0, 1) (List.mem_of_getElem? (i := 5) rfl)
theorem dX9_flush_12 : decode cX9_flush 12 = .ok (.getfield 12, 3) := DX9_flush_0 (12, .getfield 12, 3) (List.mem_of_getElem? (i := 6) rfl)
theorem dX9_flush_15 : decode cX9_flush 15 = .ok (.iload_n 1, 1) := DX9_flush_0 (15, .iload_n 1, 1) (List.mem_of_getElem? (i := 7) rfl)
theorem dX9_flush_16 : decode cX9_flush 16 = .ok (.invokevirtual 204, 3) := DX9_flush_0 (16, .invokevirtual 204, 3) (List.mem_of_getElem? (i := 8) rfl)
theorem dX9_flush_19 : decode cX9_flush 19 = .ok (.ifCond .ne 5, 3) := DX9_flush_0 (19, .ifCond .ne 5, 3) (List.mem_of_getElem? (i := 9) rfl)
theorem dX9_flush_22 : decode cX9_flush 22 = .ok (.iconst 0, 1) := DX9_flush_0 (22, .iconst 0, 1) (List.mem_of_getElem? (i := 10) rfl)
theorem dX9_flush_23 : decode cX9_flush 23 = .ok (.ireturn, 1) := DX9_flush_0 (23, .ireturn, 1) (List.mem_of_getElem? (i := 11) rfl)
theorem dX9_flush_24 : decode cX9_flush 24 = .ok (.iload_n 1, 1) := DX9_flush_0 (24, .iload_n 1, 1) (List.mem_of_getElem? (i := 12) rfl)
theorem dX9_flush_25 : decode cX9_flush 25 = .ok (.ifCond .ne 13, 3) := DX9_flush_0 (25, .ifCond .ne 13, 3) (List.mem_of_getElem? (i := 13) rfl)
theorem dX9_flush_28 : decode cX9_flush 28 = .ok (.aload_n 0, 1) := DX9_flush_0 (28, .aload_n 0, 1) (List.mem_of_getElem? (i := 14) rfl)
theorem dX9_flush_29 : decode cX9_flush 29 = .ok (.getfield 12, 3) := DX9_flush_0 (29, .getfield 12, 3) (List.mem_of_getElem? (i := 15) rfl)
theorem dX9_flush_32 : decode cX9_flush 32 = .ok (.invokevirtual 207, 3) := DX9_flush_0 (32, .invokevirtual 207, 3) (List.mem_of_getElem? (i := 16) rfl)
theorem dX9_flush_35 : decode cX9_flush 35 = .ok (.goto 11, 3) := DX9_flush_0 (35, .goto 11, 3) (List.mem_of_getElem? (i := 17) rfl)
theorem dX9_flush_38 : decode cX9_flush 38 = .ok (.aload_n 0, 1) := DX9_flush_0 (38, .aload_n 0, 1) (List.mem_of_getElem? (i := 18) rfl)
theorem dX9_flush_39 : decode cX9_flush 39 = .ok (.getfield 12, 3) := DX9_flush_0 (39, .getfield 12, 3) (List.mem_of_getElem? (i := 19) rfl)
theorem dX9_flush_42 : decode cX9_flush 42 = .ok (.iload_n 1, 1) := DX9_flush_0 (42, .iload_n 1, 1) (List.mem_of_getElem? (i := 20) rfl)
theorem dX9_flush_43 : decode cX9_flush 43 = .ok (.invokevirtual 117, 3) := DX9_flush_0 (43, .invokevirtual 117, 3) (List.mem_of_getElem? (i := 21) rfl)
theorem dX9_flush_46 : decode cX9_flush 46 = .ok (.iconst 1, 1) := DX9_flush_0 (46, .iconst 1, 1) (List.mem_of_getElem? (i := 22) rfl)
theorem dX9_flush_47 : decode cX9_flush 47 = .ok (.ireturn, 1) := DX9_flush_0 (47, .ireturn, 1) (List.mem_of_getElem? (i := 23) rfl)
set_option maxRecDepth 20000 in
theorem ggX9_checkBegins_X9_isFull : GoodIn wsX9_checkBegins wsX9_isFull := goodIn_r _ [8, 3, 9, 26, 27, 28, 29, 30, 31, 32, 33, 34, 35, 36, 37, 38, 39, 40] rfl (by decide +kernel)
set_option maxRecDepth 20000 in
theorem gX9_checkBegins_X9_isFull : GoodIn wsX9_checkBegins (wsV RX9 107 RX9 yX9_isFull wsX9_isFull) := goodIn_app (goodIn_of _ (by decide +kernel)) ggX9_checkBegins_X9_isFull
set_option maxRecDepth 20000 in
theorem ggX9_checkBegins_X2_start : GoodIn wsX9_checkBegins wsX2_start := goodIn_r _ [14, 15, 16, 17, 18, 19, 13, 20, 21, 37, 38, 39, 40] rfl (by decide +kernel)
set_option maxRecDepth 20000 in
theorem gX9_checkBegins_X2_start : GoodIn wsX9_checkBegins (wsV RX9 88 RX2 yX2_start wsX2_start) := goodIn_app (goodIn_of _ (by decide +kernel)) ggX9_checkBegins_X2_start
set_option maxRecDepth 20000 in
theorem ggX9_checkBegins_X2_seal : GoodIn wsX9_checkBegins wsX2_seal := goodIn_r _ [25, 15, 16, 21, 37, 38, 39, 40] rfl (by decide +kernel)
set_option maxRecDepth 20000 in
theorem gX9_checkBegins_X2_seal : GoodIn wsX9_checkBegins (wsV RX9 81 RX2 yX2_seal wsX2_seal) := goodIn_app (goodIn_of _ (by decide +kernel)) ggX9_checkBegins_X2_seal
set_option maxRecDepth 100000 in
theorem DX9_writePage_0 : ∀ x ∈ ([(0, .aload_n 0, 1), (1, .getfield 53, 3), (4, .ifCond .eq 21, 3), (7, .iload_n 1, 1), (8, .invokestatic 210, 3), (11, .ifCond .eq 14, 3), (14, .aload_n 0, 1), (15, .getfield 21, 3), (18, .iload_n 1, 1), (19, .invokevirtual 213, 3), (22, .goto 4, 3), (25, .iconst (-1), 1), (26, .istore_n 2, 1), (27, .iload_n 2, 1), (28, .ifCond .lt 15, 3), (31, .aload_n 0, 1), (32, .getfield 21, 3), (35, .getfield 216, 3), (38, .iload_n 2, 1), (39, .iaload, 1), (40, .ifCond .ne 5, 3), (43, .iconst 0, 1), (44, .ireturn, 1), (45, .aload_n 0, 1), (46, .getfield 21, 3), (49, .iload_n 2, 1), (50, .aload_n 0, 1), (51, .getfield 12, 3), (54, .invokevirtual 219, 3), (57, .iconst 1, 1), (58, .ireturn, 1)] : List (Nat × Instr × Nat)), decode cX9_writePage x.1 = .ok (x.2.1, x.2.2) := by decide +kernel
theorem dX9_writePage_0 : decode cX9_writePage 0 = .ok (.aload_n 0, 1) := DX9_writePage_0 (0, .aload_n 0, 1) (List.mem_of_getElem? (i := 0) rfl)
theorem dX9_writePage_1 : decode cX9_writePage 1 = .ok (.getfield 53, 3) := DX9_writePage_0 (1, .getfield 53, 3) (List.mem_of_getElem? (i := 1) rfl)
theorem dX9_writePage_4 : decode cX9_writePage 4 = .ok (.ifCond .eq 21, 3) := DX9_writePage_0 (4, .ifCond .eq 21, 3) (List.mem_of_getElem? (i := 2) rfl)
theorem dX9_writePage_7 : decode cX9_writePage 7 = .ok (.iload_n 1, 1) := DX9_writePage_0 (7, .iload_n 1, 1) (List.mem_of_getElem? (i := 3) rfl)
theorem dX9_writePage_8 : decode cX9_writePage 8 = .ok (.invokestatic 210, 3) := DX9_writePage_0 (8, .invokestatic 210, 3) (List.mem_of_getElem? (i := 4) rfl)
theorem dX9_writePage_11 : decode cX9_writePage 11 = .ok (.ifCond .eq 14, 3) := DX9_writePage_0 (11, .ifCond .eq 14, 3) (List.mem_of_getElem? (i := 5) rfl)
theorem dX9_writePage_14 : decode cX9_writePage 14 = .ok (.aload_n 0, 1) := DX9_writePage_0 (14, .aload_n 0, 1) (List.mem_of_getElem? (i := 6) rfl)
theorem dX9_writePage_15 : decode cX9_writePage 15 = .ok (.getfield 21, 3) := DX9_writePage_0 (15, .getfield 21, 3) (List.mem_of_getElem? (i := 7) rfl)
theorem dX9_writePage_18 : decode cX9_writePage 18 = .ok (.iload_n 1, 1) := DX9_writePage_0 (18, .iload_n 1, 1) (List.mem_of_getElem? (i := 8) rfl)
theorem dX9_writePage_19 : decode cX9_writePage 19 = .ok (.invokevirtual 213, 3) := DX9_writePage_0 (19, .invokevirtual 213, 3) (List.mem_of_getElem? (i := 9) rfl)
theorem dX9_writePage_22 : decode cX9_writePage 22 = .ok (.goto 4, 3) := DX9_writePage_0 (22, .goto 4, 3) (List.mem_of_getElem? (i := 10) rfl)
theorem dX9_writePage_25 : decode cX9_writePage 25 = .ok (.iconst (-1), 1) := DX9_writePage_0 (25, .iconst (-1), 1) (List.mem_of_getElem? (i := 11) rfl)
theorem dX9_writePage_26 : decode cX9_writePage 26 = .ok (.istore_n 2, 1) := DX9_writePage_0 (26, .istore_n 2, 1) (List.mem_of_getElem? (i := 12) rfl)
theorem dX9_writePage_27 : decode cX9_writePage 27 = .ok (.iload_n 2, 1) := DX9_writePage_0 (27, .iload_n 2, 1) (List.mem_of_getElem? (i := 13) rfl)
theorem dX9_writePage_28 : decode cX9_writePage 28 = .ok (.ifCond .lt 15, 3) := DX9_writePage_0 (28, .ifCond .lt 15, 3) (List.mem_of_getElem? (i := 14) rfl)
theorem dX9_writePage_31 : decode cX9_writePage 31 = .ok (.aload_n 0, 1) := DX9_writePage_0 (31, .aload_n 0, 1) (List.mem_of_getElem? (i := 15) rfl)
theorem dX9_writePage_32 : decode cX9_writePage 32 = .ok (.getfield 21, 3) := DX9_writePage_0 (32, .getfield 21, 3) (List.mem_of_getElem? (i := 16) rfl)
theorem dX9_writePage_35 : decode cX9_writePage 35 = .ok (.getfield 216, 3) := DX9_writePage_0 (35, .getfield 216, 3) (List.mem_of_getElem? (i := 17) rfl)
theorem dX9_writePage_38 : decode cX9_writePage 38 = .ok (.iload_n 2, 1) := DX9_writePage_0 (38, .iload_n 2, 1) (List.mem_of_getElem? (i := 18) rfl)
theorem dX9_writePage_39 : decode cX9_writePage 39 = .ok (.iaload, 1) := DX9_writePage_0 (39, .iaload, 1) (List.mem_of_getElem? (i := 19) rfl)
theorem dX9_writePage_40 : decode cX9_writePage 40 = .ok (.ifCond .ne 5, 3) := DX9_writePage_0 (40, .ifCond .ne 5, 3) (List.mem_of_getElem? (i := 20) rfl)
theorem dX9_writePage_43 : decode cX9_writePage 43 = .ok (.iconst 0, 1) := DX9_writePage_0 (43, .iconst 0, 1) (List.mem_of_getElem? (i := 21) rfl)
theorem dX9_writePage_44 : decode cX9_writePage 44 = .ok (.ireturn, 1) := DX9_writePage_0 (44, .ireturn, 1) (List.mem_of_getElem? (i := 22) rfl)
theorem dX9_writePage_45 : decode cX9_writePage 45 = .ok (.aload_n 0, 1) := DX9_writePage_0 (45, .aload_n 0, 1) (List.mem_of_getElem? (i := 23) rfl)
theorem dX9_writePage_46 : decode cX9_writePage 46 = .ok (.getfield 21, 3) := DX9_writePage_0 (46, .getfield 21, 3) (List.mem_of_getElem? (i := 24) rfl)
theorem dX9_writePage_49 : decode cX9_writePage 49 = .ok (.iload_n 2, 1) := DX9_writePage_0 (49, .iload_n 2, 1) (List.mem_of_getElem? (i := 25) rfl)
theorem dX9_writePage_50 : decode cX9_writePage 50 = .ok (.aload_n 0, 1) := DX9_writePage_0 (50, .aload_n 0, 1) (List.mem_of_getElem? (i := 26) rfl)
theorem dX9_writePage_51 : decode cX9_writePage 51 = .ok (.getfield 12, 3) := DX9_writePage_0 (51, .getfield 12, 3) (List.mem_of_getElem? (i := 27) rfl)
theorem dX9_writePage_54 : decode cX9_writePage 54 = .ok (.invokevirtual 219, 3) := DX9_writePage_0 (54, .invokevirtual 219, 3) (List.mem_of_getElem? (i := 28) rfl)
theorem dX9_writePage_57 : decode cX9_writePage 57 = .ok (.iconst 1, 1) := DX9_writePage_0 (57, .iconst 1, 1) (List.mem_of_getElem? (i := 29) rfl)
theorem dX9_writePage_58 : decode cX9_writePage 58 = .ok (.ireturn, 1) := DX9_writePage_0 (58, .ireturn, 1) (List.mem_of_getElem? (i := 30) rfl)
set_option maxRecDepth 20000 in
theorem ggX9_checkEnds_X9_isFull : GoodIn wsX9_checkEnds wsX9_isFull := goodIn_r _ [14, 3, 15, 71, 72, 73, 74, 75, 76, 77, 78, 79, 80, 81, 97, 98, 99, 100] rfl (by decide +kernel)
set_option maxRecDepth 20000 in
theorem gX9_checkEnds_X9_isFull : GoodIn wsX9_checkEnds (wsV RX9 107 RX9 yX9_isFull wsX9_isFull) := goodIn_app (goodIn_of _ (by decide +kernel)) ggX9_checkEnds_X9_isFull
set_option maxRecDepth 20000 in
theorem ggX9_checkEnds_X2_start : GoodIn wsX9_checkEnds wsX2_start := goodIn_r _ [20, 21, 22, 23, 24, 25, 19, 26, 27, 97, 98, 99, 100] rfl (by decide +kernel)
set_option maxRecDepth 20000 in
theorem gX9_checkEnds_X2_start : GoodIn wsX9_checkEnds (wsV RX9 88 RX2 yX2_start wsX2_start) := goodIn_app (goodIn_of _ (by decide +kernel)) ggX9_checkEnds_X2_start
set_option maxRecDepth 20000 in
theorem ggX9_checkEnds_X5_allThatAre : GoodIn wsX9_checkEnds wsX5_allThatAre := goodIn_r _ [32, 33, 82, 83, 84] rfl (by decide +kernel)
set_option maxRecDepth 20000 in
theorem gX9_checkEnds_X5_allThatAre : GoodIn wsX9_checkEnds (wsV RX9 223 RX5 yX5_allThatAre wsX5_allThatAre) := goodIn_app (goodIn_of _ (by decide +kernel)) ggX9_checkEnds_X5_allThatAre
set_option maxRecDepth 20000 in
theorem ggX9_checkEnds_J6_bitCount_0f7a4 : GoodIn wsX9_checkEnds wsJ6_bitCount_0f7a4 := goodIn_r _ [37, 38, 39, 40] rfl (by decide +kernel)
set_option maxRecDepth 20000 in
theorem gX9_checkEnds_J6_bitCount_0f7a4 : GoodIn wsX9_checkEnds (va_wsS RX9 226 yJ6_bitCount_0f7a4 wsJ6_bitCount_0f7a4) := goodIn_app (goodIn_of _ (by decide +kernel)) ggX9_checkEnds_J6_bitCount_0f7a4
set_option maxRecDepth 20000 in
theorem ggX9_checkEnds_X2_put : GoodIn wsX9_checkEnds wsX2_put := goodIn_r _ [26, 22, 27, 97, 98, 99, 100] rfl (by decide +kernel)
set_option maxRecDepth 20000 in
theorem gX9_checkEnds_X2_put : GoodIn wsX9_checkEnds (wsV RX9 153 RX2 yX2_put wsX2_put) := goodIn_app (goodIn_of _ (by decide +kernel)) ggX9_checkEnds_X2_put
set_option maxRecDepth 20000 in
theorem ggX9_checkEnds_X2_putPair : GoodIn wsX9_checkEnds wsX2_putPair := goodIn_r _ [45, 23, 24, 25, 19, 26, 22, 27, 97, 98, 99, 100] rfl (by decide +kernel)
set_option maxRecDepth 20000 in
theorem gX9_checkEnds_X2_putPair : GoodIn wsX9_checkEnds (wsV RX9 139 RX2 yX2_putPair wsX2_putPair) := goodIn_app (goodIn_of _ (by decide +kernel)) ggX9_checkEnds_X2_putPair
set_option maxRecDepth 20000 in
theorem ggX9_checkEnds_X3_uncleanCount : GoodIn wsX9_checkEnds wsX3_uncleanCount := goodIn_r _ [50, 51, 85, 86, 87, 88, 89, 90, 91, 92, 93, 94, 95, 96] rfl (by decide +kernel)
set_option maxRecDepth 20000 in
theorem gX9_checkEnds_X3_uncleanCount : GoodIn wsX9_checkEnds (wsV RX9 231 RX3 yX3_uncleanCount wsX3_uncleanCount) := goodIn_app (goodIn_of _ (by decide +kernel)) ggX9_checkEnds_X3_uncleanCount
set_option maxRecDepth 20000 in
theorem ggX9_checkEnds_X3_frameOf : GoodIn wsX9_checkEnds wsX3_frameOf := goodIn_r _ [55, 56, 57, 85, 86, 87, 88, 89, 90, 91, 92, 93, 94, 95, 96] rfl (by decide +kernel)
set_option maxRecDepth 20000 in
theorem gX9_checkEnds_X3_frameOf : GoodIn wsX9_checkEnds (wsV RX9 213 RX3 yX3_frameOf wsX3_frameOf) := goodIn_app (goodIn_of _ (by decide +kernel)) ggX9_checkEnds_X3_frameOf
set_option maxRecDepth 20000 in
theorem ggX9_checkEnds_X2_seal : GoodIn wsX9_checkEnds wsX2_seal := goodIn_r _ [61, 21, 22, 27, 97, 98, 99, 100] rfl (by decide +kernel)
set_option maxRecDepth 20000 in
theorem gX9_checkEnds_X2_seal : GoodIn wsX9_checkEnds (wsV RX9 81 RX2 yX2_seal wsX2_seal) := goodIn_app (goodIn_of _ (by decide +kernel)) ggX9_checkEnds_X2_seal
set_option maxRecDepth 20000 in
theorem ggX9_checkEnds_X2_flushThrough : GoodIn wsX9_checkEnds wsX2_flushThrough := goodIn_r _ [65, 66, 67, 68, 69, 19, 70, 21, 27, 97, 98, 99, 100] rfl (by decide +kernel)
set_option maxRecDepth 20000 in
theorem gX9_checkEnds_X2_flushThrough : GoodIn wsX9_checkEnds (wsV RX9 117 RX2 yX2_flushThrough wsX2_flushThrough) := goodIn_app (goodIn_of _ (by decide +kernel)) ggX9_checkEnds_X2_flushThrough
set_option maxRecDepth 100000 in
theorem DX9_checkBegins_0 : ∀ x ∈ ([(0, .aload_n 0, 1), (1, .getfield 53, 3), (4, .ifCond .eq 17, 3), (7, .aload_n 0, 1), (8, .getfield 61, 3), (11, .ifCond .ne 10, 3), (14, .aload_n 0, 1), (15, .invokevirtual 107, 3), (18, .ifCond .eq 5, 3), (21, .iconst 0, 1), (22, .ireturn, 1), (23, .aload_n 0, 1), (24, .getfield 12, 3), (27, .bipush 8, 2), (29, .iconst 0, 1), (30, .iconst 0, 1), (31, .invokevirtual 88, 3), (34, .aload_n 0, 1), (35, .aload_n 0, 1), (36, .getfield 12, 3), (39, .invokevirtual 81, 3), (42, .putfield 61, 3), (45, .iconst 1, 1), (46, .ireturn, 1)] : List (Nat × Instr × Nat)), decode cX9_checkBegins x.1 = .ok (x.2.1, x.2.2) := by decide +kernel
theorem dX9_checkBegins_0 : decode cX9_checkBegins 0 = .ok (.aload_n 0, 1) := DX9_checkBegins_0 (0, .aload_n 0, 1) (List.mem_of_getElem? (i := 0) rfl)
theorem dX9_checkBegins_1 : decode cX9_checkBegins 1 = .ok (.getfield 53, 3) := DX9_checkBegins_0 (1, .getfield 53, 3) (List.mem_of_getElem? (i := 1) rfl)
theorem dX9_checkBegins_4 : decode cX9_checkBegins 4 = .ok (.ifCond .eq 17, 3) := DX9_checkBegins_0 (4, .ifCond .eq 17, 3) (List.mem_of_getElem? (i := 2) rfl)
theorem dX9_checkBegins_7 : decode cX9_checkBegins 7 = .ok (.aload_n 0, 1) := DX9_checkBegins_0 (7, .aload_n 0, 1) (List.mem_of_getElem? (i := 3) rfl)
theorem dX9_checkBegins_8 : decode cX9_checkBegins 8 = .ok (.getfield 61, 3) := DX9_checkBegins_0 (8, .getfield 61, 3) (List.mem_of_getElem? (i := 4) rfl)
theorem dX9_checkBegins_11 : decode cX9_checkBegins 11 = .ok (.ifCond .ne 10, 3) := DX9_checkBegins_0 (11, .ifCond .ne 10, 3) (List.mem_of_getElem? (i := 5) rfl)
theorem dX9_checkBegins_14 : decode cX9_checkBegins 14 = .ok (.aload_n 0, 1) := DX9_checkBegins_0 (14, .aload_n 0, 1) (List.mem_of_getElem? (i := 6) rfl)
theorem dX9_checkBegins_15 : decode cX9_checkBegins 15 = .ok (.invokevirtual 107, 3) := DX9_checkBegins_0 (15, .invokevirtual 107, 3) (List.mem_of_getElem? (i := 7) rfl)
theorem dX9_checkBegins_18 : decode cX9_checkBegins 18 = .ok (.ifCond .eq 5, 3) := DX9_checkBegins_0 (18, .ifCond .eq 5, 3) (List.mem_of_getElem? (i := 8) rfl)
theorem dX9_checkBegins_21 : decode cX9_checkBegins 21 = .ok (.iconst 0, 1) := DX9_checkBegins_0 (21, .iconst 0, 1) (List.mem_of_getElem? (i := 9) rfl)
theorem dX9_checkBegins_22 : decode cX9_checkBegins 22 = .ok (.ireturn, 1) := DX9_checkBegins_0 (22, .ireturn, 1) (List.mem_of_getElem? (i := 10) rfl)
theorem dX9_checkBegins_23 : decode cX9_checkBegins 23 = .ok (.aload_n 0, 1) := DX9_checkBegins_0 (23, .aload_n 0, 1) (List.mem_of_getElem? (i := 11) rfl)
theorem dX9_checkBegins_24 : decode cX9_checkBegins 24 = .ok (.getfield 12, 3) := DX9_checkBegins_0 (24, .getfield 12, 3) (List.mem_of_getElem? (i := 12) rfl)
theorem dX9_checkBegins_27 : decode cX9_checkBegins 27 = .ok (.bipush 8, 2) := DX9_checkBegins_0 (27, .bipush 8, 2) (List.mem_of_getElem? (i := 13) rfl)
theorem dX9_checkBegins_29 : decode cX9_checkBegins 29 = .ok (.iconst 0, 1) := DX9_checkBegins_0 (29, .iconst 0, 1) (List.mem_of_getElem? (i := 14) rfl)
theorem dX9_checkBegins_30 : decode cX9_checkBegins 30 = .ok (.iconst 0, 1) := DX9_checkBegins_0 (30, .iconst 0, 1) (List.mem_of_getElem? (i := 15) rfl)
theorem dX9_checkBegins_31 : decode cX9_checkBegins 31 = .ok (.invokevirtual 88, 3) := DX9_checkBegins_0 (31, .invokevirtual 88, 3) (List.mem_of_getElem? (i := 16) rfl)
theorem dX9_checkBegins_34 : decode cX9_checkBegins 34 = .ok (.aload_n 0, 1) := DX9_checkBegins_0 (34, .aload_n 0, 1) (List.mem_of_getElem? (i := 17) rfl)
theorem dX9_checkBegins_35 : decode cX9_checkBegins 35 = .ok (.aload_n 0, 1) := DX9_checkBegins_0 (35, .aload_n 0, 1) (List.mem_of_getElem? (i := 18) rfl)
theorem dX9_checkBegins_36 : decode cX9_checkBegins 36 = .ok (.getfield 12, 3) := DX9_checkBegins_0 (36, .getfield 12, 3) (List.mem_of_getElem? (i := 19) rfl)
theorem dX9_checkBegins_39 : decode cX9_checkBegins 39 = .ok (.invokevirtual 81, 3) := DX9_checkBegins_0 (39, .invokevirtual 81, 3) (List.mem_of_getElem? (i := 20) rfl)
theorem dX9_checkBegins_42 : decode cX9_checkBegins 42 = .ok (.putfield 61, 3) := DX9_checkBegins_0 (42, .putfield 61, 3) (List.mem_of_getElem? (i := 21) rfl)
theorem dX9_checkBegins_45 : decode cX9_checkBegins 45 = .ok (.iconst 1, 1) := DX9_checkBegins_0 (45, .iconst 1, 1) (List.mem_of_getElem? (i := 22) rfl)
theorem dX9_checkBegins_46 : decode cX9_checkBegins 46 = .ok (.ireturn, 1) := DX9_checkBegins_0 (46, .ireturn, 1) (List.mem_of_getElem? (i := 23) rfl)
set_option maxRecDepth 20000 in
theorem ggX9_dumpPage_X10_isPage : GoodIn wsX9_dumpPage wsX10_isPage := goodIn_r _ [5] rfl (by decide +kernel)
set_option maxRecDepth 20000 in
theorem gX9_dumpPage_X10_isPage_n210 : GoodIn wsX9_dumpPage (wsX10_isPage) := ggX9_dumpPage_X10_isPage
set_option maxRecDepth 20000 in
theorem ggX9_dumpPage_X3_isLost : GoodIn wsX9_dumpPage wsX3_isLost := goodIn_r _ [10, 11, 35, 36, 37, 38, 39, 40, 41, 42, 43, 44, 45, 46] rfl (by decide +kernel)
set_option maxRecDepth 20000 in
theorem gX9_dumpPage_X3_isLost : GoodIn wsX9_dumpPage (wsV RX9 142 RX3 yX3_isLost wsX3_isLost) := goodIn_app (goodIn_of _ (by decide +kernel)) ggX9_dumpPage_X3_isLost
set_option maxRecDepth 20000 in
theorem ggX9_dumpPage_X3_dump : GoodIn wsX9_dumpPage wsX3_dump := goodIn_r _ [15, 16, 17, 18, 19, 20, 21, 22, 23, 35, 36, 37, 38, 39, 40, 41, 42, 43, 44, 45, 46] rfl (by decide +kernel)
set_option maxRecDepth 20000 in
theorem gX9_dumpPage_X3_dump : GoodIn wsX9_dumpPage (wsV RX9 234 RX3 yX3_dump wsX3_dump) := goodIn_app (goodIn_of _ (by decide +kernel)) ggX9_dumpPage_X3_dump
set_option maxRecDepth 100000 in
theorem DX9_checkEnds_0 : ∀ x ∈ ([(0, .aload_n 0, 1), (1, .getfield 53, 3), (4, .ifCond .eq 17, 3), (7, .aload_n 0, 1), (8, .getfield 61, 3), (11, .ifCond .eq 10, 3), (14, .aload_n 0, 1), (15, .invokevirtual 107, 3), (18, .ifCond .eq 5, 3), (21, .iconst 0, 1), (22, .ireturn, 1), (23, .aload_n 0, 1), (24, .getfield 12, 3), (27, .bipush 10, 2), (29, .iconst 0, 1), (30, .iconst 0, 1), (31, .invokevirtual 88, 3), (34, .aload_n 0, 1), (35, .getfield 28, 3), (38, .iconst 1, 1), (39, .invokevirtual 223, 3), (42, .aload_n 0, 1), (43, .getfield 28, 3), (46, .iconst 2, 1), (47, .invokevirtual 223, 3), (50, .ior, 1), (51, .istore_n 1, 1), (52, .aload_n 0, 1), (53, .getfield 12, 3), (56, .iload_n 1, 1), (57, .invokestatic 226, 3), (60, .invokevirtual 153, 3), (63, .iconst 1, 1), (64, .istore_n 2, 1), (65, .iload_n 2, 1), (66, .bipush 9, 2), (68, .if_icmp .gt 61, 3), (71, .aload_n 0, 1), (72, .getfield 28, 3), (75, .getfield 77, 3)] : List (Nat × Instr × Nat)), decode cX9_checkEnds x.1 = .ok (x.2.1, x.2.2) := by decide +kernel
theorem dX9_checkEnds_0 : decode cX9_checkEnds 0 = .ok (.aload_n 0, 1) := DX9_checkEnds_0 (0, .aload_n 0, 1) (List.mem_of_getElem? (i := 0) rfl)
theorem dX9_checkEnds_1 : decode cX9_checkEnds 1 = .ok (.getfield 53, 3) := DX9_checkEnds_0 (1, .getfield 53, 3) (List.mem_of_getElem? (i := 1) rfl)
theorem dX9_checkEnds_4 : decode cX9_checkEnds 4 = .ok (.ifCond .eq 17, 3) := DX9_checkEnds_0 (4, .ifCond .eq 17, 3) (List.mem_of_getElem? (i := 2) rfl)
theorem dX9_checkEnds_7 : decode cX9_checkEnds 7 = .ok (.aload_n 0, 1) := DX9_checkEnds_0 (7, .aload_n 0, 1) (List.mem_of_getElem? (i := 3) rfl)
theorem dX9_checkEnds_8 : decode cX9_checkEnds 8 = .ok (.getfield 61, 3) := DX9_checkEnds_0 (8, .getfield 61, 3) (List.mem_of_getElem? (i := 4) rfl)
theorem dX9_checkEnds_11 : decode cX9_checkEnds 11 = .ok (.ifCond .eq 10, 3) := DX9_checkEnds_0 (11, .ifCond .eq 10, 3) (List.mem_of_getElem? (i := 5) rfl)
theorem dX9_checkEnds_14 : decode cX9_checkEnds 14 = .ok (.aload_n 0, 1) := DX9_checkEnds_0 (14, .aload_n 0, 1) (List.mem_of_getElem? (i := 6) rfl)
theorem dX9_checkEnds_15 : decode cX9_checkEnds 15 = .ok (.invokevirtual 107, 3) := DX9_checkEnds_0 (15, .invokevirtual 107, 3) (List.mem_of_getElem? (i := 7) rfl)
theorem dX9_checkEnds_18 : decode cX9_checkEnds 18 = .ok (.ifCond .eq 5, 3) := DX9_checkEnds_0 (18, .ifCond .eq 5, 3) (List.mem_of_getElem? (i := 8) rfl)
theorem dX9_checkEnds_21 : decode cX9_checkEnds 21 = .ok (.iconst 0, 1) := DX9_checkEnds_0 (21, .iconst 0, 1) (List.mem_of_getElem? (i := 9) rfl)
theorem dX9_checkEnds_22 : decode cX9_checkEnds 22 = .ok (.ireturn, 1) := DX9_checkEnds_0 (22, .ireturn, 1) (List.mem_of_getElem? (i := 10) rfl)
theorem dX9_checkEnds_23 : decode cX9_checkEnds 23 = .ok (.aload_n 0, 1) := DX9_checkEnds_0 (23, .aload_n 0, 1) (List.mem_of_getElem? (i := 11) rfl)
theorem dX9_checkEnds_24 : decode cX9_checkEnds 24 = .ok (.getfield 12, 3) := DX9_checkEnds_0 (24, .getfield 12, 3) (List.mem_of_getElem? (i := 12) rfl)
theorem dX9_checkEnds_27 : decode cX9_checkEnds 27 = .ok (.bipush 10, 2) := DX9_checkEnds_0 (27, .bipush 10, 2) (List.mem_of_getElem? (i := 13) rfl)
theorem dX9_checkEnds_29 : decode cX9_checkEnds 29 = .ok (.iconst 0, 1) := DX9_checkEnds_0 (29, .iconst 0, 1) (List.mem_of_getElem? (i := 14) rfl)
theorem dX9_checkEnds_30 : decode cX9_checkEnds 30 = .ok (.iconst 0, 1) := DX9_checkEnds_0 (30, .iconst 0, 1) (List.mem_of_getElem? (i := 15) rfl)
theorem dX9_checkEnds_31 : decode cX9_checkEnds 31 = .ok (.invokevirtual 88, 3) := DX9_checkEnds_0 (31, .invokevirtual 88, 3) (List.mem_of_getElem? (i := 16) rfl)
theorem dX9_checkEnds_34 : decode cX9_checkEnds 34 = .ok (.aload_n 0, 1) := DX9_checkEnds_0 (34, .aload_n 0, 1) (List.mem_of_getElem? (i := 17) rfl)
theorem dX9_checkEnds_35 : decode cX9_checkEnds 35 = .ok (.getfield 28, 3) := DX9_checkEnds_0 (35, .getfield 28, 3) (List.mem_of_getElem? (i := 18) rfl)
theorem dX9_checkEnds_38 : decode cX9_checkEnds 38 = .ok (.iconst 1, 1) := DX9_checkEnds_0 (38, .iconst 1, 1) (List.mem_of_getElem? (i := 19) rfl)
theorem dX9_checkEnds_39 : decode cX9_checkEnds 39 = .ok (.invokevirtual 223, 3) := DX9_checkEnds_0 (39, .invokevirtual 223, 3) (List.mem_of_getElem? (i := 20) rfl)
theorem dX9_checkEnds_42 : decode cX9_checkEnds 42 = .ok (.aload_n 0, 1) := DX9_checkEnds_0 (42, .aload_n 0, 1) (List.mem_of_getElem? (i := 21) rfl)
theorem dX9_checkEnds_43 : decode cX9_checkEnds 43 = .ok (.getfield 28, 3) := DX9_checkEnds_0 (43, .getfield 28, 3) (List.mem_of_getElem? (i := 22) rfl)
theorem dX9_checkEnds_46 : decode cX9_checkEnds 46 = .ok (.iconst 2, 1) := DX9_checkEnds_0 (46, .iconst 2, 1) (List.mem_of_getElem? (i := 23) rfl)
theorem dX9_checkEnds_47 : decode cX9_checkEnds 47 = .ok (.invokevirtual 223, 3) := DX9_checkEnds_0 (47, .invokevirtual 223, 3) (List.mem_of_getElem? (i := 24) rfl)
theorem dX9_checkEnds_50 : decode cX9_checkEnds 50 = .ok (.ior, 1) := DX9_checkEnds_0 (50, .ior, 1) (List.mem_of_getElem? (i := 25) rfl)
theorem dX9_checkEnds_51 : decode cX9_checkEnds 51 = .ok (.istore_n 1, 1) := DX9_checkEnds_0 (51, .istore_n 1, 1) (List.mem_of_getElem? (i := 26) rfl)
theorem dX9_checkEnds_52 : decode cX9_checkEnds 52 = .ok (.aload_n 0, 1) := DX9_checkEnds_0 (52, .aload_n 0, 1) (List.mem_of_getElem? (i := 27) rfl)
theorem dX9_checkEnds_53 : decode cX9_checkEnds 53 = .ok (.getfield 12, 3) := DX9_checkEnds_0 (53, .getfield 12, 3) (List.mem_of_getElem? (i := 28) rfl)
theorem dX9_checkEnds_56 : decode cX9_checkEnds 56 = .ok (.iload_n 1, 1) := DX9_checkEnds_0 (56, .iload_n 1, 1) (List.mem_of_getElem? (i := 29) rfl)
theorem dX9_checkEnds_57 : decode cX9_checkEnds 57 = .ok (.invokestatic 226, 3) := DX9_checkEnds_0 (57, .invokestatic 226, 3) (List.mem_of_getElem? (i := 30) rfl)
theorem dX9_checkEnds_60 : decode cX9_checkEnds 60 = .ok (.invokevirtual 153, 3) := DX9_checkEnds_0 (60, .invokevirtual 153, 3) (List.mem_of_getElem? (i := 31) rfl)
theorem dX9_checkEnds_63 : decode cX9_checkEnds 63 = .ok (.iconst 1, 1) := DX9_checkEnds_0 (63, .iconst 1, 1) (List.mem_of_getElem? (i := 32) rfl)
theorem dX9_checkEnds_64 : decode cX9_checkEnds 64 = .ok (.istore_n 2, 1) := DX9_checkEnds_0 (64, .istore_n 2, 1) (List.mem_of_getElem? (i := 33) rfl)
theorem dX9_checkEnds_65 : decode cX9_checkEnds 65 = .ok (.iload_n 2, 1) := DX9_checkEnds_0 (65, .iload_n 2, 1) (List.mem_of_getElem? (i := 34) rfl)
theorem dX9_checkEnds_66 : decode cX9_checkEnds 66 = .ok (.bipush 9, 2) := DX9_checkEnds_0 (66, .bipush 9, 2) (List.mem_of_getElem? (i := 35) rfl)
theorem dX9_checkEnds_68 : decode cX9_checkEnds 68 = .ok (.if_icmp .gt 61, 3) := DX9_checkEnds_0 (68, .if_icmp .gt 61, 3) (List.mem_of_getElem? (i := 36) rfl)
theorem dX9_checkEnds_71 : decode cX9_checkEnds 71 = .ok (.aload_n 0, 1) := DX9_checkEnds_0 (71, .aload_n 0, 1) (List.mem_of_getElem? (i := 37) rfl)
theorem dX9_checkEnds_72 : decode cX9_checkEnds 72 = .ok (.getfield 28, 3) := DX9_checkEnds_0 (72, .getfield 28, 3) (List.mem_of_getElem? (i := 38) rfl)
theorem dX9_checkEnds_75 : decode cX9_checkEnds 75 = .ok (.getfield 77, 3) := DX9_checkEnds_0 (75, .getfield 77, 3) (List.mem_of_getElem? (i := 39) rfl)
set_option maxRecDepth 100000 in
theorem DX9_checkEnds_40 : ∀ x ∈ ([(78, .iload_n 2, 1), (79, .iaload, 1), (80, .ifCond .eq 43, 3), (83, .aload_n 0, 1), (84, .getfield 12, 3), (87, .iload_n 2, 1), (88, .invokevirtual 153, 3), (91, .aload_n 0, 1), (92, .getfield 12, 3), (95, .aload_n 0, 1), (96, .getfield 28, 3), (99, .getfield 77, 3), (102, .iload_n 2, 1), (103, .iaload, 1), (104, .invokevirtual 153, 3), (107, .aload_n 0, 1), (108, .getfield 12, 3), (111, .aload_n 0, 1), (112, .getfield 28, 3), (115, .getfield 85, 3), (118, .iload_n 2, 1), (119, .iaload, 1), (120, .invokevirtual 139, 3), (123, .iinc 2 1, 3), (126, .goto (-61), 3), (129, .aload_n 0, 1), (130, .getfield 12, 3), (133, .aload_n 0, 1), (134, .getfield 21, 3), (137, .invokevirtual 231, 3), (140, .invokevirtual 153, 3), (143, .iconst 0, 1), (144, .istore_n 2, 1), (145, .iload_n 2, 1), (146, .bipush 16, 2), (148, .if_icmp .ge 58, 3), (151, .aload_n 0, 1), (152, .getfield 21, 3), (155, .iload_n 2, 1), (156, .invokevirtual 213, 3)] : List (Nat × Instr × Nat)), decode cX9_checkEnds x.1 = .ok (x.2.1, x.2.2) := by decide +kernel
theorem dX9_checkEnds_78 : decode cX9_checkEnds 78 = .ok (.iload_n 2, 1) := DX9_checkEnds_40 (78, .iload_n 2, 1) (List.mem_of_getElem? (i := 0) rfl)
theorem dX9_checkEnds_79 : decode cX9_checkEnds 79 = .ok (.iaload, 1) := DX9_checkEnds_40 (79, .iaload, 1) (List.mem_of_getElem? (i := 1) rfl)
theorem dX9_checkEnds_80 : decode cX9_checkEnds 80 = .ok (.ifCond .eq 43, 3) := DX9_checkEnds_40 (80, .ifCond .eq 43, 3) (List.mem_of_getElem? (i := 2) rfl)
theorem dX9_checkEnds_83 : decode cX9_checkEnds 83 = .ok (.aload_n 0, 1) := DX9_checkEnds_40 (83, .aload_n 0, 1) (List.mem_of_getElem? (i := 3) rfl)
theorem dX9_checkEnds_84 : decode cX9_checkEnds 84 = .ok (.getfield 12, 3) := DX9_checkEnds_40 (84, .getfield 12, 3) (List.mem_of_getElem? (i := 4) rfl)
theorem dX9_checkEnds_87 : decode cX9_checkEnds 87 = .ok (.iload_n 2, 1) := DX9_checkEnds_40 (87, .iload_n 2, 1) (List.mem_of_getElem? (i := 5) rfl)
theorem dX9_checkEnds_88 : decode cX9_checkEnds 88 = .ok (.invokevirtual 153, 3) := DX9_checkEnds_40 (88, .invokevirtual 153, 3) (List.mem_of_getElem? (i := 6) rfl)
theorem dX9_checkEnds_91 : decode cX9_checkEnds 91 = .ok (.aload_n 0, 1) := DX9_checkEnds_40 (91, .aload_n 0, 1) (List.mem_of_getElem? (i := 7) rfl)
theorem dX9_checkEnds_92 : decode cX9_checkEnds 92 = .ok (.getfield 12, 3) := DX9_checkEnds_40 (92, .getfield 12, 3) (List.mem_of_getElem? (i := 8) rfl)
theorem dX9_checkEnds_95 : decode cX9_checkEnds 95 = .ok (.aload_n 0, 1) := DX9_checkEnds_40 (95, .aload_n 0, 1) (List.mem_of_getElem? (i := 9) rfl)
theorem dX9_checkEnds_96 : decode cX9_checkEnds 96 = .ok (.getfield 28, 3) := DX9_checkEnds_40 (96, .getfield 28, 3) (List.mem_of_getElem? (i := 10) rfl)
theorem dX9_checkEnds_99 : decode cX9_checkEnds 99 = .ok (.getfield 77, 3) := DX9_checkEnds_40 (99, .getfield 77, 3) (List.mem_of_getElem? (i := 11) rfl)
theorem dX9_checkEnds_102 : decode cX9_checkEnds 102 = .ok (.iload_n 2, 1) := DX9_checkEnds_40 (102, .iload_n 2, 1) (List.mem_of_getElem? (i := 12) rfl)
theorem dX9_checkEnds_103 : decode cX9_checkEnds 103 = .ok (.iaload, 1) := DX9_checkEnds_40 (103, .iaload, 1) (List.mem_of_getElem? (i := 13) rfl)
theorem dX9_checkEnds_104 : decode cX9_checkEnds 104 = .ok (.invokevirtual 153, 3) := DX9_checkEnds_40 (104, .invokevirtual 153, 3) (List.mem_of_getElem? (i := 14) rfl)
theorem dX9_checkEnds_107 : decode cX9_checkEnds 107 = .ok (.aload_n 0, 1) := DX9_checkEnds_40 (107, .aload_n 0, 1) (List.mem_of_getElem? (i := 15) rfl)
theorem dX9_checkEnds_108 : decode cX9_checkEnds 108 = .ok (.getfield 12, 3) := DX9_checkEnds_40 (108, .getfield 12, 3) (List.mem_of_getElem? (i := 16) rfl)
theorem dX9_checkEnds_111 : decode cX9_checkEnds 111 = .ok (.aload_n 0, 1) := DX9_checkEnds_40 (111, .aload_n 0, 1) (List.mem_of_getElem? (i := 17) rfl)
theorem dX9_checkEnds_112 : decode cX9_checkEnds 112 = .ok (.getfield 28, 3) := DX9_checkEnds_40 (112, .getfield 28, 3) (List.mem_of_getElem? (i := 18) rfl)
theorem dX9_checkEnds_115 : decode cX9_checkEnds 115 = .ok (.getfield 85, 3) := DX9_checkEnds_40 (115, .getfield 85, 3) (List.mem_of_getElem? (i := 19) rfl)
theorem dX9_checkEnds_118 : decode cX9_checkEnds 118 = .ok (.iload_n 2, 1) := DX9_checkEnds_40 (118, .iload_n 2, 1) (List.mem_of_getElem? (i := 20) rfl)
theorem dX9_checkEnds_119 : decode cX9_checkEnds 119 = .ok (.iaload, 1) := DX9_checkEnds_40 (119, .iaload, 1) (List.mem_of_getElem? (i := 21) rfl)
theorem dX9_checkEnds_120 : decode cX9_checkEnds 120 = .ok (.invokevirtual 139, 3) := DX9_checkEnds_40 (120, .invokevirtual 139, 3) (List.mem_of_getElem? (i := 22) rfl)
theorem dX9_checkEnds_123 : decode cX9_checkEnds 123 = .ok (.iinc 2 1, 3) := DX9_checkEnds_40 (123, .iinc 2 1, 3) (List.mem_of_getElem? (i := 23) rfl)
theorem dX9_checkEnds_126 : decode cX9_checkEnds 126 = .ok (.goto (-61), 3) := DX9_checkEnds_40 (126, .goto (-61), 3) (List.mem_of_getElem? (i := 24) rfl)
theorem dX9_checkEnds_129 : decode cX9_checkEnds 129 = .ok (.aload_n 0, 1) := DX9_checkEnds_40 (129, .aload_n 0, 1) (List.mem_of_getElem? (i := 25) rfl)
theorem dX9_checkEnds_130 : decode cX9_checkEnds 130 = .ok (.getfield 12, 3) := DX9_checkEnds_40 (130, .getfield 12, 3) (List.mem_of_getElem? (i := 26) rfl)
theorem dX9_checkEnds_133 : decode cX9_checkEnds 133 = .ok (.aload_n 0, 1) := DX9_checkEnds_40 (133, .aload_n 0, 1) (List.mem_of_getElem? (i := 27) rfl)
theorem dX9_checkEnds_134 : decode cX9_checkEnds 134 = .ok (.getfield 21, 3) := DX9_checkEnds_40 (134, .getfield 21, 3) (List.mem_of_getElem? (i := 28) rfl)
theorem dX9_checkEnds_137 : decode cX9_checkEnds 137 = .ok (.invokevirtual 231, 3) := DX9_checkEnds_40 (137, .invokevirtual 231, 3) (List.mem_of_getElem? (i := 29) rfl)
theorem dX9_checkEnds_140 : decode cX9_checkEnds 140 = .ok (.invokevirtual 153, 3) := DX9_checkEnds_40 (140, .invokevirtual 153, 3) (List.mem_of_getElem? (i := 30) rfl)
theorem dX9_checkEnds_143 : decode cX9_checkEnds 143 = .ok (.iconst 0, 1) := DX9_checkEnds_40 (143, .iconst 0, 1) (List.mem_of_getElem? (i := 31) rfl)
theorem dX9_checkEnds_144 : decode cX9_checkEnds 144 = .ok (.istore_n 2, 1) := DX9_checkEnds_40 (144, .istore_n 2, 1) (List.mem_of_getElem? (i := 32) rfl)
theorem dX9_checkEnds_145 : decode cX9_checkEnds 145 = .ok (.iload_n 2, 1) := DX9_checkEnds_40 (145, .iload_n 2, 1) (List.mem_of_getElem? (i := 33) rfl)
theorem dX9_checkEnds_146 : decode cX9_checkEnds 146 = .ok (.bipush 16, 2) := DX9_checkEnds_40 (146, .bipush 16, 2) (List.mem_of_getElem? (i := 34) rfl)
theorem dX9_checkEnds_148 : decode cX9_checkEnds 148 = .ok (.if_icmp .ge 58, 3) := DX9_checkEnds_40 (148, .if_icmp .ge 58, 3) (List.mem_of_getElem? (i := 35) rfl)
theorem dX9_checkEnds_151 : decode cX9_checkEnds 151 = .ok (.aload_n 0, 1) := DX9_checkEnds_40 (151, .aload_n 0, 1) (List.mem_of_getElem? (i := 36) rfl)
theorem dX9_checkEnds_152 : decode cX9_checkEnds 152 = .ok (.getfield 21, 3) := DX9_checkEnds_40 (152, .getfield 21, 3) (List.mem_of_getElem? (i := 37) rfl)
theorem dX9_checkEnds_155 : decode cX9_checkEnds 155 = .ok (.iload_n 2, 1) := DX9_checkEnds_40 (155, .iload_n 2, 1) (List.mem_of_getElem? (i := 38) rfl)
theorem dX9_checkEnds_156 : decode cX9_checkEnds 156 = .ok (.invokevirtual 213, 3) := DX9_checkEnds_40 (156, .invokevirtual 213, 3) (List.mem_of_getElem? (i := 39) rfl)
set_option maxRecDepth 100000 in
theorem DX9_checkEnds_80 : ∀ x ∈ ([(159, .istore_n 3, 1), (160, .iload_n 3, 1), (161, .ifCond .lt 39, 3), (164, .aload_n 0, 1), (165, .getfield 21, 3), (168, .getfield 216, 3), (171, .iload_n 3, 1), (172, .iaload, 1), (173, .ifCond .eq 27, 3), (176, .aload_n 0, 1), (177, .getfield 12, 3), (180, .iload_n 2, 1), (181, .invokevirtual 153, 3), (184, .aload_n 0, 1), (185, .getfield 12, 3), (188, .aload_n 0, 1), (189, .getfield 21, 3), (192, .getfield 216, 3), (195, .iload_n 3, 1), (196, .iaload, 1), (197, .invokevirtual 139, 3), (200, .iinc 2 1, 3), (203, .goto (-58), 3), (206, .aload_n 0, 1), (207, .getfield 12, 3), (210, .aload_n 0, 1), (211, .getfield 12, 3), (214, .invokevirtual 81, 3), (217, .invokevirtual 117, 3), (220, .aload_n 0, 1), (221, .aload_n 0, 1), (222, .getfield 61, 3), (225, .putfield 57, 3), (228, .aload_n 0, 1), (229, .iconst 0, 1), (230, .putfield 61, 3), (233, .iconst 1, 1), (234, .ireturn, 1)] : List (Nat × Instr × Nat)), decode cX9_checkEnds x.1 = .ok (x.2.1, x.2.2) := by decide +kernel
theorem dX9_checkEnds_159 : decode cX9_checkEnds 159 = .ok (.istore_n 3, 1) := DX9_checkEnds_80 (159, .istore_n 3, 1) (List.mem_of_getElem? (i := 0) rfl)
theorem dX9_checkEnds_160 : decode cX9_checkEnds 160 = .ok (.iload_n 3, 1) := DX9_checkEnds_80 (160, .iload_n 3, 1) (List.mem_of_getElem? (i := 1) rfl)
theorem dX9_checkEnds_161 : decode cX9_checkEnds 161 = .ok (.ifCond .lt 39, 3) := DX9_checkEnds_80 (161, .ifCond .lt 39, 3) (List.mem_of_getElem? (i := 2) rfl)
theorem dX9_checkEnds_164 : decode cX9_checkEnds 164 = .ok (.aload_n 0, 1) := DX9_checkEnds_80 (164, .aload_n 0, 1) (List.mem_of_getElem? (i := 3) rfl)
theorem dX9_checkEnds_165 : decode cX9_checkEnds 165 = .ok (.getfield 21, 3) := DX9_checkEnds_80 (165, .getfield 21, 3) (List.mem_of_getElem? (i := 4) rfl)
theorem dX9_checkEnds_168 : decode cX9_checkEnds 168 = .ok (.getfield 216, 3) := DX9_checkEnds_80 (168, .getfield 216, 3) (List.mem_of_getElem? (i := 5) rfl)
theorem dX9_checkEnds_171 : decode cX9_checkEnds 171 = .ok (.iload_n 3, 1) := DX9_checkEnds_80 (171, .iload_n 3, 1) (List.mem_of_getElem? (i := 6) rfl)
theorem dX9_checkEnds_172 : decode cX9_checkEnds 172 = .ok (.iaload, 1) := DX9_checkEnds_80 (172, .iaload, 1) (List.mem_of_getElem? (i := 7) rfl)
theorem dX9_checkEnds_173 : decode cX9_checkEnds 173 = .ok (.ifCond .eq 27, 3) := DX9_checkEnds_80 (173, .ifCond .eq 27, 3) (List.mem_of_getElem? (i := 8) rfl)
theorem dX9_checkEnds_176 : decode cX9_checkEnds 176 = .ok (.aload_n 0, 1) := DX9_checkEnds_80 (176, .aload_n 0, 1) (List.mem_of_getElem? (i := 9) rfl)
theorem dX9_checkEnds_177 : decode cX9_checkEnds 177 = .ok (.getfield 12, 3) := DX9_checkEnds_80 (177, .getfield 12, 3) (List.mem_of_getElem? (i := 10) rfl)
theorem dX9_checkEnds_180 : decode cX9_checkEnds 180 = .ok (.iload_n 2, 1) := DX9_checkEnds_80 (180, .iload_n 2, 1) (List.mem_of_getElem? (i := 11) rfl)
theorem dX9_checkEnds_181 : decode cX9_checkEnds 181 = .ok (.invokevirtual 153, 3) := DX9_checkEnds_80 (181, .invokevirtual 153, 3) (List.mem_of_getElem? (i := 12) rfl)
theorem dX9_checkEnds_184 : decode cX9_checkEnds 184 = .ok (.aload_n 0, 1) := DX9_checkEnds_80 (184, .aload_n 0, 1) (List.mem_of_getElem? (i := 13) rfl)
theorem dX9_checkEnds_185 : decode cX9_checkEnds 185 = .ok (.getfield 12, 3) := DX9_checkEnds_80 (185, .getfield 12, 3) (List.mem_of_getElem? (i := 14) rfl)
theorem dX9_checkEnds_188 : decode cX9_checkEnds 188 = .ok (.aload_n 0, 1) := DX9_checkEnds_80 (188, .aload_n 0, 1) (List.mem_of_getElem? (i := 15) rfl)
theorem dX9_checkEnds_189 : decode cX9_checkEnds 189 = .ok (.getfield 21, 3) := DX9_checkEnds_80 (189, .getfield 21, 3) (List.mem_of_getElem? (i := 16) rfl)
theorem dX9_checkEnds_192 : decode cX9_checkEnds 192 = .ok (.getfield 216, 3) := DX9_checkEnds_80 (192, .getfield 216, 3) (List.mem_of_getElem? (i := 17) rfl)
theorem dX9_checkEnds_195 : decode cX9_checkEnds 195 = .ok (.iload_n 3, 1) := DX9_checkEnds_80 (195, .iload_n 3, 1) (List.mem_of_getElem? (i := 18) rfl)
theorem dX9_checkEnds_196 : decode cX9_checkEnds 196 = .ok (.iaload, 1) := DX9_checkEnds_80 (196, .iaload, 1) (List.mem_of_getElem? (i := 19) rfl)
theorem dX9_checkEnds_197 : decode cX9_checkEnds 197 = .ok (.invokevirtual 139, 3) := DX9_checkEnds_80 (197, .invokevirtual 139, 3) (List.mem_of_getElem? (i := 20) rfl)
theorem dX9_checkEnds_200 : decode cX9_checkEnds 200 = .ok (.iinc 2 1, 3) := DX9_checkEnds_80 (200, .iinc 2 1, 3) (List.mem_of_getElem? (i := 21) rfl)
theorem dX9_checkEnds_203 : decode cX9_checkEnds 203 = .ok (.goto (-58), 3) := DX9_checkEnds_80 (203, .goto (-58), 3) (List.mem_of_getElem? (i := 22) rfl)
theorem dX9_checkEnds_206 : decode cX9_checkEnds 206 = .ok (.aload_n 0, 1) := DX9_checkEnds_80 (206, .aload_n 0, 1) (List.mem_of_getElem? (i := 23) rfl)
theorem dX9_checkEnds_207 : decode cX9_checkEnds 207 = .ok (.getfield 12, 3) := DX9_checkEnds_80 (207, .getfield 12, 3) (List.mem_of_getElem? (i := 24) rfl)
theorem dX9_checkEnds_210 : decode cX9_checkEnds 210 = .ok (.aload_n 0, 1) := DX9_checkEnds_80 (210, .aload_n 0, 1) (List.mem_of_getElem? (i := 25) rfl)
theorem dX9_checkEnds_211 : decode cX9_checkEnds 211 = .ok (.getfield 12, 3) := DX9_checkEnds_80 (211, .getfield 12, 3) (List.mem_of_getElem? (i := 26) rfl)
theorem dX9_checkEnds_214 : decode cX9_checkEnds 214 = .ok (.invokevirtual 81, 3) := DX9_checkEnds_80 (214, .invokevirtual 81, 3) (List.mem_of_getElem? (i := 27) rfl)
theorem dX9_checkEnds_217 : decode cX9_checkEnds 217 = .ok (.invokevirtual 117, 3) := DX9_checkEnds_80 (217, .invokevirtual 117, 3) (List.mem_of_getElem? (i := 28) rfl)
theorem dX9_checkEnds_220 : decode cX9_checkEnds 220 = .ok (.aload_n 0, 1) := DX9_checkEnds_80 (220, .aload_n 0, 1) (List.mem_of_getElem? (i := 29) rfl)
theorem dX9_checkEnds_221 : decode cX9_checkEnds 221 = .ok (.aload_n 0, 1) := DX9_checkEnds_80 (221, .aload_n 0, 1) (List.mem_of_getElem? (i := 30) rfl)
theorem dX9_checkEnds_222 : decode cX9_checkEnds 222 = .ok (.getfield 61, 3) := DX9_checkEnds_80 (222, .getfield 61, 3) (List.mem_of_getElem? (i := 31) rfl)
theorem dX9_checkEnds_225 : decode cX9_checkEnds 225 = .ok (.putfield 57, 3) := DX9_checkEnds_80 (225, .putfield 57, 3) (List.mem_of_getElem? (i := 32) rfl)
theorem dX9_checkEnds_228 : decode cX9_checkEnds 228 = .ok (.aload_n 0, 1) := DX9_checkEnds_80 (228, .aload_n 0, 1) (List.mem_of_getElem? (i := 33) rfl)
theorem dX9_checkEnds_229 : decode cX9_checkEnds 229 = .ok (.iconst 0, 1) := DX9_checkEnds_80 (229, .iconst 0, 1) (List.mem_of_getElem? (i := 34) rfl)
theorem dX9_checkEnds_230 : decode cX9_checkEnds 230 = .ok (.putfield 61, 3) := DX9_checkEnds_80 (230, .putfield 61, 3) (List.mem_of_getElem? (i := 35) rfl)
theorem dX9_checkEnds_233 : decode cX9_checkEnds 233 = .ok (.iconst 1, 1) := DX9_checkEnds_80 (233, .iconst 1, 1) (List.mem_of_getElem? (i := 36) rfl)
theorem dX9_checkEnds_234 : decode cX9_checkEnds 234 = .ok (.ireturn, 1) := DX9_checkEnds_80 (234, .ireturn, 1) (List.mem_of_getElem? (i := 37) rfl)
set_option maxRecDepth 20000 in
theorem ggX9_losePage_X10_isPage : GoodIn wsX9_losePage wsX10_isPage := goodIn_r _ [6] rfl (by decide +kernel)
set_option maxRecDepth 20000 in
theorem gX9_losePage_X10_isPage_n210 : GoodIn wsX9_losePage (wsX10_isPage) := ggX9_losePage_X10_isPage
set_option maxRecDepth 20000 in
theorem ggX9_losePage_X3_isLost : GoodIn wsX9_losePage wsX3_isLost := goodIn_r _ [11, 12, 43, 44, 45, 46, 47, 48, 49, 50, 51, 52, 53, 54] rfl (by decide +kernel)
set_option maxRecDepth 20000 in
theorem gX9_losePage_X3_isLost : GoodIn wsX9_losePage (wsV RX9 142 RX3 yX3_isLost wsX3_isLost) := goodIn_app (goodIn_of _ (by decide +kernel)) ggX9_losePage_X3_isLost
set_option maxRecDepth 20000 in
theorem ggX9_losePage_X3_frameOf : GoodIn wsX9_losePage wsX3_frameOf := goodIn_r _ [16, 17, 18, 43, 44, 45, 46, 47, 48, 49, 50, 51, 52, 53, 54] rfl (by decide +kernel)
set_option maxRecDepth 20000 in
theorem gX9_losePage_X3_frameOf : GoodIn wsX9_losePage (wsV RX9 213 RX3 yX3_frameOf wsX3_frameOf) := goodIn_app (goodIn_of _ (by decide +kernel)) ggX9_losePage_X3_frameOf
set_option maxRecDepth 20000 in
theorem ggX9_losePage_X0_anyIn : GoodIn wsX9_losePage wsX0_anyIn := goodIn_r _ [23, 24, 25, 55, 56, 57, 58, 59, 60, 61] rfl (by decide +kernel)
set_option maxRecDepth 20000 in
theorem gX9_losePage_X0_anyIn : GoodIn wsX9_losePage (wsV RX9 237 RX0 yX0_anyIn wsX0_anyIn) := goodIn_app (goodIn_of _ (by decide +kernel)) ggX9_losePage_X0_anyIn
set_option maxRecDepth 20000 in
theorem ggX9_losePage_X3_lose : GoodIn wsX9_losePage wsX3_lose := goodIn_r _ [29, 30, 31, 12, 43, 44, 45, 46, 47, 48, 49, 50, 51, 52, 53, 54] rfl (by decide +kernel)
set_option maxRecDepth 20000 in
theorem gX9_losePage_X3_lose : GoodIn wsX9_losePage (wsV RX9 240 RX3 yX3_lose wsX3_lose) := goodIn_app (goodIn_of _ (by decide +kernel)) ggX9_losePage_X3_lose
set_option maxRecDepth 100000 in
theorem DX9_dumpPage_0 : ∀ x ∈ ([(0, .aload_n 0, 1), (1, .getfield 53, 3), (4, .ifCond .eq 21, 3), (7, .iload_n 1, 1), (8, .invokestatic 210, 3), (11, .ifCond .eq 14, 3), (14, .aload_n 0, 1), (15, .getfield 21, 3), (18, .iload_n 1, 1), (19, .invokevirtual 142, 3), (22, .ifCond .eq 5, 3), (25, .iconst 0, 1), (26, .ireturn, 1), (27, .aload_n 0, 1), (28, .getfield 21, 3), (31, .iload_n 1, 1), (32, .invokevirtual 234, 3), (35, .iconst 1, 1), (36, .ireturn, 1)] : List (Nat × Instr × Nat)), decode cX9_dumpPage x.1 = .ok (x.2.1, x.2.2) := by decide +kernel
theorem dX9_dumpPage_0 : decode cX9_dumpPage 0 = .ok (.aload_n 0, 1) := DX9_dumpPage_0 (0, .aload_n 0, 1) (List.mem_of_getElem? (i := 0) rfl)
theorem dX9_dumpPage_1 : decode cX9_dumpPage 1 = .ok (.getfield 53, 3) := DX9_dumpPage_0 (1, .getfield 53, 3) (List.mem_of_getElem? (i := 1) rfl)
theorem dX9_dumpPage_4 : decode cX9_dumpPage 4 = .ok (.ifCond .eq 21, 3) := DX9_dumpPage_0 (4, .ifCond .eq 21, 3) (List.mem_of_getElem? (i := 2) rfl)
theorem dX9_dumpPage_7 : decode cX9_dumpPage 7 = .ok (.iload_n 1, 1) := DX9_dumpPage_0 (7, .iload_n 1, 1) (List.mem_of_getElem? (i := 3) rfl)
theorem dX9_dumpPage_8 : decode cX9_dumpPage 8 = .ok (.invokestatic 210, 3) := DX9_dumpPage_0 (8, .invokestatic 210, 3) (List.mem_of_getElem? (i := 4) rfl)
theorem dX9_dumpPage_11 : decode cX9_dumpPage 11 = .ok (.ifCond .eq 14, 3) := DX9_dumpPage_0 (11, .ifCond .eq 14, 3) (List.mem_of_getElem? (i := 5) rfl)
theorem dX9_dumpPage_14 : decode cX9_dumpPage 14 = .ok (.aload_n 0, 1) := DX9_dumpPage_0 (14, .aload_n 0, 1) (List.mem_of_getElem? (i := 6) rfl)
theorem dX9_dumpPage_15 : decode cX9_dumpPage 15 = .ok (.getfield 21, 3) := DX9_dumpPage_0 (15, .getfield 21, 3) (List.mem_of_getElem? (i := 7) rfl)
theorem dX9_dumpPage_18 : decode cX9_dumpPage 18 = .ok (.iload_n 1, 1) := DX9_dumpPage_0 (18, .iload_n 1, 1) (List.mem_of_getElem? (i := 8) rfl)
theorem dX9_dumpPage_19 : decode cX9_dumpPage 19 = .ok (.invokevirtual 142, 3) := DX9_dumpPage_0 (19, .invokevirtual 142, 3) (List.mem_of_getElem? (i := 9) rfl)
theorem dX9_dumpPage_22 : decode cX9_dumpPage 22 = .ok (.ifCond .eq 5, 3) := DX9_dumpPage_0 (22, .ifCond .eq 5, 3) (List.mem_of_getElem? (i := 10) rfl)
theorem dX9_dumpPage_25 : decode cX9_dumpPage 25 = .ok (.iconst 0, 1) := DX9_dumpPage_0 (25, .iconst 0, 1) (List.mem_of_getElem? (i := 11) rfl)
theorem dX9_dumpPage_26 : decode cX9_dumpPage 26 = .ok (.ireturn, 1) := DX9_dumpPage_0 (26, .ireturn, 1) (List.mem_of_getElem? (i := 12) rfl)
theorem dX9_dumpPage_27 : decode cX9_dumpPage 27 = .ok (.aload_n 0, 1) := DX9_dumpPage_0 (27, .aload_n 0, 1) (List.mem_of_getElem? (i := 13) rfl)
theorem dX9_dumpPage_28 : decode cX9_dumpPage 28 = .ok (.getfield 21, 3) := DX9_dumpPage_0 (28, .getfield 21, 3) (List.mem_of_getElem? (i := 14) rfl)
theorem dX9_dumpPage_31 : decode cX9_dumpPage 31 = .ok (.iload_n 1, 1) := DX9_dumpPage_0 (31, .iload_n 1, 1) (List.mem_of_getElem? (i := 15) rfl)
theorem dX9_dumpPage_32 : decode cX9_dumpPage 32 = .ok (.invokevirtual 234, 3) := DX9_dumpPage_0 (32, .invokevirtual 234, 3) (List.mem_of_getElem? (i := 16) rfl)
theorem dX9_dumpPage_35 : decode cX9_dumpPage 35 = .ok (.iconst 1, 1) := DX9_dumpPage_0 (35, .iconst 1, 1) (List.mem_of_getElem? (i := 17) rfl)
theorem dX9_dumpPage_36 : decode cX9_dumpPage 36 = .ok (.ireturn, 1) := DX9_dumpPage_0 (36, .ireturn, 1) (List.mem_of_getElem? (i := 18) rfl)
set_option maxRecDepth 20000 in
theorem ggX9_restorePage_X10_isPage : GoodIn wsX9_restorePage wsX10_isPage := goodIn_r _ [6] rfl (by decide +kernel)
set_option maxRecDepth 20000 in
theorem gX9_restorePage_X10_isPage_n210 : GoodIn wsX9_restorePage (wsX10_isPage) := ggX9_restorePage_X10_isPage
set_option maxRecDepth 20000 in
theorem ggX9_restorePage_X3_isLost : GoodIn wsX9_restorePage wsX3_isLost := goodIn_r _ [11, 12, 77, 78, 79, 80, 81, 82, 83, 84, 85, 86, 87, 88] rfl (by decide +kernel)
set_option maxRecDepth 20000 in
theorem gX9_restorePage_X3_isLost : GoodIn wsX9_restorePage (wsV RX9 142 RX3 yX3_isLost wsX3_isLost) := goodIn_app (goodIn_of _ (by decide +kernel)) ggX9_restorePage_X3_isLost
set_option maxRecDepth 20000 in
theorem ggX9_restorePage_X3_restore : GoodIn wsX9_restorePage wsX3_restore := goodIn_r _ [16, 17, 18, 19, 20, 21, 22, 23, 24, 25, 12, 26, 27, 28, 29, 30, 31, 32, 33, 34, 35, 36, 37, 38, 39, 40, 41, 42, 43, 44, 45, 46, 47, 48, 49, 50, 51, 52, 53, 54, 55, 56, 57, 58, 59, 60, 61, 62, 63, 64, 65, 77, 78, 79, 80, 81, 82, 83, 84, 85, 86, 87, 88, 89, 90, 91, 92] rfl (by decide +kernel)
set_option maxRecDepth 20000 in
theorem gX9_restorePage_X3_restore : GoodIn wsX9_restorePage (wsV RX9 243 RX3 yX3_restore wsX3_restore) := goodIn_app (goodIn_of _ (by decide +kernel)) ggX9_restorePage_X3_restore
set_option maxRecDepth 100000 in
theorem DX9_losePage_0 : ∀ x ∈ ([(0, .aload_n 0, 1), (1, .getfield 53, 3), (4, .ifCond .eq 43, 3), (7, .iload_n 1, 1), (8, .invokestatic 210, 3), (11, .ifCond .eq 36, 3), (14, .aload_n 0, 1), (15, .getfield 21, 3), (18, .iload_n 1, 1), (19, .invokevirtual 142, 3), (22, .ifCond .ne 25, 3), (25, .aload_n 0, 1), (26, .getfield 21, 3), (29, .iload_n 1, 1), (30, .invokevirtual 213, 3), (33, .ifCond .ge 14, 3), (36, .aload_n 0, 1), (37, .getfield 35, 3), (40, .iload_n 1, 1), (41, .invokevirtual 237, 3), (44, .ifCond .eq 5, 3), (47, .iconst 0, 1), (48, .ireturn, 1), (49, .aload_n 0, 1), (50, .getfield 21, 3), (53, .iload_n 1, 1), (54, .invokevirtual 240, 3), (57, .iconst 1, 1), (58, .ireturn, 1)] : List (Nat × Instr × Nat)), decode cX9_losePage x.1 = .ok (x.2.1, x.2.2) := by decide +kernel
theorem dX9_losePage_0 : decode cX9_losePage 0 = .ok (.aload_n 0, 1) := DX9_losePage_0 (0, .aload_n 0, 1) (List.mem_of_getElem? (i := 0) rfl)
theorem dX9_losePage_1 : decode cX9_losePage 1 = .ok (.getfield 53, 3) := DX9_losePage_0 (1, .getfield 53, 3) (List.mem_of_getElem? (i := 1) rfl)
theorem dX9_losePage_4 : decode cX9_losePage 4 = .ok (.ifCond .eq 43, 3) := DX9_losePage_0 (4, .ifCond .eq 43, 3) (List.mem_of_getElem? (i := 2) rfl)
theorem dX9_losePage_7 : decode cX9_losePage 7 = .ok (.iload_n 1, 1) := DX9_losePage_0 (7, .iload_n 1, 1) (List.mem_of_getElem? (i := 3) rfl)
theorem dX9_losePage_8 : decode cX9_losePage 8 = .ok (.invokestatic 210, 3) := DX9_losePage_0 (8, .invokestatic 210, 3) (List.mem_of_getElem? (i := 4) rfl)
theorem dX9_losePage_11 : decode cX9_losePage 11 = .ok (.ifCond .eq 36, 3) := DX9_losePage_0 (11, .ifCond .eq 36, 3) (List.mem_of_getElem? (i := 5) rfl)
theorem dX9_losePage_14 : decode cX9_losePage 14 = .ok (.aload_n 0, 1) := DX9_losePage_0 (14, .aload_n 0, 1) (List.mem_of_getElem? (i := 6) rfl)
theorem dX9_losePage_15 : decode cX9_losePage 15 = .ok (.getfield 21, 3) := DX9_losePage_0 (15, .getfield 21, 3) (List.mem_of_getElem? (i := 7) rfl)
theorem dX9_losePage_18 : decode cX9_losePage 18 = .ok (.iload_n 1, 1) := DX9_losePage_0 (18, .iload_n 1, 1) (List.mem_of_getElem? (i := 8) rfl)
theorem dX9_losePage_19 : decode cX9_losePage 19 = .ok (.invokevirtual 142, 3) := DX9_losePage_0 (19, .invokevirtual 142, 3) (List.mem_of_getElem? (i := 9) rfl)
theorem dX9_losePage_22 : decode cX9_losePage 22 = .ok (.ifCond .ne 25, 3) := DX9_losePage_0 (22, .ifCond .ne 25, 3) (List.mem_of_getElem? (i := 10) rfl)
theorem dX9_losePage_25 : decode cX9_losePage 25 = .ok (.aload_n 0, 1) := DX9_losePage_0 (25, .aload_n 0, 1) (List.mem_of_getElem? (i := 11) rfl)
theorem dX9_losePage_26 : decode cX9_losePage 26 = .ok (.getfield 21, 3) := DX9_losePage_0 (26, .getfield 21, 3) (List.mem_of_getElem? (i := 12) rfl)
theorem dX9_losePage_29 : decode cX9_losePage 29 = .ok (.iload_n 1, 1) := DX9_losePage_0 (29, .iload_n 1, 1) (List.mem_of_getElem? (i := 13) rfl)
theorem dX9_losePage_30 : decode cX9_losePage 30 = .ok (.invokevirtual 213, 3) := DX9_losePage_0 (30, .invokevirtual 213, 3) (List.mem_of_getElem? (i := 14) rfl)
theorem dX9_losePage_33 : decode cX9_losePage 33 = .ok (.ifCond .ge 14, 3) := DX9_losePage_0 (33, .ifCond .ge 14, 3) (List.mem_of_getElem? (i := 15) rfl)
theorem dX9_losePage_36 : decode cX9_losePage 36 = .ok (.aload_n 0, 1) := DX9_losePage_0 (36, .aload_n 0, 1) (List.mem_of_getElem? (i := 16) rfl)
theorem dX9_losePage_37 : decode cX9_losePage 37 = .ok (.getfield 35, 3) := DX9_losePage_0 (37, .getfield 35, 3) (List.mem_of_getElem? (i := 17) rfl)
theorem dX9_losePage_40 : decode cX9_losePage 40 = .ok (.iload_n 1, 1) := DX9_losePage_0 (40, .iload_n 1, 1) (List.mem_of_getElem? (i := 18) rfl)
theorem dX9_losePage_41 : decode cX9_losePage 41 = .ok (.invokevirtual 237, 3) := DX9_losePage_0 (41, .invokevirtual 237, 3) (List.mem_of_getElem? (i := 19) rfl)
theorem dX9_losePage_44 : decode cX9_losePage 44 = .ok (.ifCond .eq 5, 3) := DX9_losePage_0 (44, .ifCond .eq 5, 3) (List.mem_of_getElem? (i := 20) rfl)
theorem dX9_losePage_47 : decode cX9_losePage 47 = .ok (.iconst 0, 1) := DX9_losePage_0 (47, .iconst 0, 1) (List.mem_of_getElem? (i := 21) rfl)
theorem dX9_losePage_48 : decode cX9_losePage 48 = .ok (.ireturn, 1) := DX9_losePage_0 (48, .ireturn, 1) (List.mem_of_getElem? (i := 22) rfl)
theorem dX9_losePage_49 : decode cX9_losePage 49 = .ok (.aload_n 0, 1) := DX9_losePage_0 (49, .aload_n 0, 1) (List.mem_of_getElem? (i := 23) rfl)
theorem dX9_losePage_50 : decode cX9_losePage 50 = .ok (.getfield 21, 3) := DX9_losePage_0 (50, .getfield 21, 3) (List.mem_of_getElem? (i := 24) rfl)
theorem dX9_losePage_53 : decode cX9_losePage 53 = .ok (.iload_n 1, 1) := DX9_losePage_0 (53, .iload_n 1, 1) (List.mem_of_getElem? (i := 25) rfl)
theorem dX9_losePage_54 : decode cX9_losePage 54 = .ok (.invokevirtual 240, 3) := DX9_losePage_0 (54, .invokevirtual 240, 3) (List.mem_of_getElem? (i := 26) rfl)
theorem dX9_losePage_57 : decode cX9_losePage 57 = .ok (.iconst 1, 1) := DX9_losePage_0 (57, .iconst 1, 1) (List.mem_of_getElem? (i := 27) rfl)
theorem dX9_losePage_58 : decode cX9_losePage 58 = .ok (.ireturn, 1) := DX9_losePage_0 (58, .ireturn, 1) (List.mem_of_getElem? (i := 28) rfl)
set_option maxRecDepth 20000 in
theorem ggX9_fall_X2_endAt : GoodIn wsX9_fall wsX2_endAt := goodIn_r _ [18, 19, 20, 63, 64, 65, 66] rfl (by decide +kernel)
set_option maxRecDepth 20000 in
theorem gX9_fall_X2_endAt : GoodIn wsX9_fall (wsV RX9 254 RX2 yX2_endAt wsX2_endAt) := goodIn_app (goodIn_of _ (by decide +kernel)) ggX9_fall_X2_endAt
set_option maxRecDepth 20000 in
theorem ggX9_fall_X3_emptyFrames : GoodIn wsX9_fall wsX3_emptyFrames := goodIn_r _ [25, 26, 27, 28, 29, 30, 31, 67, 68, 69, 70, 71, 72, 73, 74, 75, 76, 77, 78] rfl (by decide +kernel)
set_option maxRecDepth 20000 in
theorem gX9_fall_X3_emptyFrames : GoodIn wsX9_fall (wsV RX9 257 RX3 yX3_emptyFrames wsX3_emptyFrames) := goodIn_app (goodIn_of _ (by decide +kernel)) ggX9_fall_X3_emptyFrames
set_option maxRecDepth 20000 in
theorem ggX9_fall_X5_clear : GoodIn wsX9_fall wsX5_clear := goodIn_r _ [36, 37, 38, 39, 40, 29, 30, 31, 79, 80, 81] rfl (by decide +kernel)
set_option maxRecDepth 20000 in
theorem gX9_fall_X5_clear : GoodIn wsX9_fall (wsV RX9 260 RX5 yX5_clear wsX5_clear) := goodIn_app (goodIn_of _ (by decide +kernel)) ggX9_fall_X5_clear
set_option maxRecDepth 20000 in
theorem ggX9_fall_X0_clear : GoodIn wsX9_fall wsX0_clear := goodIn_r _ [45, 46, 47, 48, 49, 50, 51, 29, 30, 31, 82, 83, 84, 85, 86, 87, 88] rfl (by decide +kernel)
set_option maxRecDepth 20000 in
theorem gX9_fall_X0_clear : GoodIn wsX9_fall (wsV RX9 263 RX0 yX0_clear wsX0_clear) := goodIn_app (goodIn_of _ (by decide +kernel)) ggX9_fall_X0_clear
set_option maxRecDepth 100000 in
theorem DX9_restorePage_0 : ∀ x ∈ ([(0, .aload_n 0, 1), (1, .getfield 53, 3), (4, .ifCond .eq 21, 3), (7, .iload_n 1, 1), (8, .invokestatic 210, 3), (11, .ifCond .eq 14, 3), (14, .aload_n 0, 1), (15, .getfield 21, 3), (18, .iload_n 1, 1), (19, .invokevirtual 142, 3), (22, .ifCond .ne 5, 3), (25, .iconst 0, 1), (26, .ireturn, 1), (27, .aload_n 0, 1), (28, .getfield 21, 3), (31, .iload_n 1, 1), (32, .aload_n 0, 1), (33, .getfield 12, 3), (36, .invokevirtual 243, 3), (39, .iconst 1, 1), (40, .ireturn, 1)] : List (Nat × Instr × Nat)), decode cX9_restorePage x.1 = .ok (x.2.1, x.2.2) := by decide +kernel
theorem dX9_restorePage_0 : decode cX9_restorePage 0 = .ok (.aload_n 0, 1) := DX9_restorePage_0 (0, .aload_n 0, 1) (List.mem_of_getElem? (i := 0) rfl)
theorem dX9_restorePage_1 : decode cX9_restorePage 1 = .ok (.getfield 53, 3) := DX9_restorePage_0 (1, .getfield 53, 3) (List.mem_of_getElem? (i := 1) rfl)
theorem dX9_restorePage_4 : decode cX9_restorePage 4 = .ok (.ifCond .eq 21, 3) := DX9_restorePage_0 (4, .ifCond .eq 21, 3) (List.mem_of_getElem? (i := 2) rfl)
theorem dX9_restorePage_7 : decode cX9_restorePage 7 = .ok (.iload_n 1, 1) := DX9_restorePage_0 (7, .iload_n 1, 1) (List.mem_of_getElem? (i := 3) rfl)
theorem dX9_restorePage_8 : decode cX9_restorePage 8 = .ok (.invokestatic 210, 3) := DX9_restorePage_0 (8, .invokestatic 210, 3) (List.mem_of_getElem? (i := 4) rfl)
theorem dX9_restorePage_11 : decode cX9_restorePage 11 = .ok (.ifCond .eq 14, 3) := DX9_restorePage_0 (11, .ifCond .eq 14, 3) (List.mem_of_getElem? (i := 5) rfl)
theorem dX9_restorePage_14 : decode cX9_restorePage 14 = .ok (.aload_n 0, 1) := DX9_restorePage_0 (14, .aload_n 0, 1) (List.mem_of_getElem? (i := 6) rfl)
theorem dX9_restorePage_15 : decode cX9_restorePage 15 = .ok (.getfield 21, 3) := DX9_restorePage_0 (15, .getfield 21, 3) (List.mem_of_getElem? (i := 7) rfl)
theorem dX9_restorePage_18 : decode cX9_restorePage 18 = .ok (.iload_n 1, 1) := DX9_restorePage_0 (18, .iload_n 1, 1) (List.mem_of_getElem? (i := 8) rfl)
theorem dX9_restorePage_19 : decode cX9_restorePage 19 = .ok (.invokevirtual 142, 3) := DX9_restorePage_0 (19, .invokevirtual 142, 3) (List.mem_of_getElem? (i := 9) rfl)
theorem dX9_restorePage_22 : decode cX9_restorePage 22 = .ok (.ifCond .ne 5, 3) := DX9_restorePage_0 (22, .ifCond .ne 5, 3) (List.mem_of_getElem? (i := 10) rfl)
theorem dX9_restorePage_25 : decode cX9_restorePage 25 = .ok (.iconst 0, 1) := DX9_restorePage_0 (25, .iconst 0, 1) (List.mem_of_getElem? (i := 11) rfl)
theorem dX9_restorePage_26 : decode cX9_restorePage 26 = .ok (.ireturn, 1) := DX9_restorePage_0 (26, .ireturn, 1) (List.mem_of_getElem? (i := 12) rfl)
theorem dX9_restorePage_27 : decode cX9_restorePage 27 = .ok (.aload_n 0, 1) := DX9_restorePage_0 (27, .aload_n 0, 1) (List.mem_of_getElem? (i := 13) rfl)
theorem dX9_restorePage_28 : decode cX9_restorePage 28 = .ok (.getfield 21, 3) := DX9_restorePage_0 (28, .getfield 21, 3) (List.mem_of_getElem? (i := 14) rfl)
theorem dX9_restorePage_31 : decode cX9_restorePage 31 = .ok (.iload_n 1, 1) := DX9_restorePage_0 (31, .iload_n 1, 1) (List.mem_of_getElem? (i := 15) rfl)
theorem dX9_restorePage_32 : decode cX9_restorePage 32 = .ok (.aload_n 0, 1) := DX9_restorePage_0 (32, .aload_n 0, 1) (List.mem_of_getElem? (i := 16) rfl)
theorem dX9_restorePage_33 : decode cX9_restorePage 33 = .ok (.getfield 12, 3) := DX9_restorePage_0 (33, .getfield 12, 3) (List.mem_of_getElem? (i := 17) rfl)
theorem dX9_restorePage_36 : decode cX9_restorePage 36 = .ok (.invokevirtual 243, 3) := DX9_restorePage_0 (36, .invokevirtual 243, 3) (List.mem_of_getElem? (i := 18) rfl)
theorem dX9_restorePage_39 : decode cX9_restorePage 39 = .ok (.iconst 1, 1) := DX9_restorePage_0 (39, .iconst 1, 1) (List.mem_of_getElem? (i := 19) rfl)
theorem dX9_restorePage_40 : decode cX9_restorePage 40 = .ok (.ireturn, 1) := DX9_restorePage_0 (40, .ireturn, 1) (List.mem_of_getElem? (i := 20) rfl)
set_option maxRecDepth 100000 in
theorem DX9_fall_0 : ∀ x ∈ ([(0, .aload_n 0, 1), (1, .getfield 12, 3), (4, .aload_n 0, 1), (5, .getfield 12, 3), (8, .getfield 70, 3), (11, .aload_n 0, 1), (12, .getfield 12, 3), (15, .getfield 246, 3), (18, .iload_n 1, 1), (19, .iadd, 1), (20, .invokestatic 249, 3), (23, .invokevirtual 254, 3), (26, .aload_n 0, 1), (27, .getfield 21, 3), (30, .invokevirtual 257, 3), (33, .aload_n 0, 1), (34, .getfield 28, 3), (37, .invokevirtual 260, 3), (40, .aload_n 0, 1), (41, .getfield 35, 3), (44, .invokevirtual 263, 3), (47, .aload_n 0, 1), (48, .iconst 0, 1), (49, .putfield 61, 3), (52, .aload_n 0, 1), (53, .iconst 0, 1), (54, .putfield 53, 3), (57, .aload_n 0, 1), (58, .dup, 1), (59, .getfield 67, 3), (62, .iconst 1, 1), (63, .iadd, 1), (64, .putfield 67, 3), (67, .return_, 1)] : List (Nat × Instr × Nat)), decode cX9_fall x.1 = .ok (x.2.1, x.2.2) := by decide +kernel
theorem dX9_fall_0 : decode cX9_fall 0 = .ok (.aload_n 0, 1) := DX9_fall_0 (0, .aload_n 0, 1) (List.mem_of_getElem? (i := 0) rfl)
theorem dX9_fall_1 : decode cX9_fall 1 = .ok (.getfield 12, 3) := DX9_fall_0 (1, .getfield 12, 3) (List.mem_of_getElem? (i := 1) rfl)
theorem dX9_fall_4 : decode cX9_fall 4 = .ok (.aload_n 0, 1) := DX9_fall_0 (4, .aload_n 0, 1) (List.mem_of_getElem? (i := 2) rfl)
theorem dX9_fall_5 : decode cX9_fall 5 = .ok (.getfield 12, 3) := DX9_fall_0 (5, .getfield 12, 3) (List.mem_of_getElem? (i := 3) rfl)
theorem dX9_fall_8 : decode cX9_fall 8 = .ok (.getfield 70, 3) := DX9_fall_0 (8, .getfield 70, 3) (List.mem_of_getElem? (i := 4) rfl)
theorem dX9_fall_11 : decode cX9_fall 11 = .ok (.aload_n 0, 1) := DX9_fall_0 (11, .aload_n 0, 1) (List.mem_of_getElem? (i := 5) rfl)
theorem dX9_fall_12 : decode cX9_fall 12 = .ok (.getfield 12, 3) := DX9_fall_0 (12, .getfield 12, 3) (List.mem_of_getElem? (i := 6) rfl)
theorem dX9_fall_15 : decode cX9_fall 15 = .ok (.getfield 246, 3) := DX9_fall_0 (15, .getfield 246, 3) (List.mem_of_getElem? (i := 7) rfl)
theorem dX9_fall_18 : decode cX9_fall 18 = .ok (.iload_n 1, 1) := DX9_fall_0 (18, .iload_n 1, 1) (List.mem_of_getElem? (i := 8) rfl)
theorem dX9_fall_19 : decode cX9_fall 19 = .ok (.iadd, 1) := DX9_fall_0 (19, .iadd, 1) (List.mem_of_getElem? (i := 9) rfl)
theorem dX9_fall_20 : decode cX9_fall 20 = .ok (.invokestatic 249, 3) := DX9_fall_0 (20, .invokestatic 249, 3) (List.mem_of_getElem? (i := 10) rfl)
theorem dX9_fall_23 : decode cX9_fall 23 = .ok (.invokevirtual 254, 3) := DX9_fall_0 (23, .invokevirtual 254, 3) (List.mem_of_getElem? (i := 11) rfl)
theorem dX9_fall_26 : decode cX9_fall 26 = .ok (.aload_n 0, 1) := DX9_fall_0 (26, .aload_n 0, 1) (List.mem_of_getElem? (i := 12) rfl)
theorem dX9_fall_27 : decode cX9_fall 27 = .ok (.getfield 21, 3) := DX9_fall_0 (27, .getfield 21, 3) (List.mem_of_getElem? (i := 13) rfl)
theorem dX9_fall_30 : decode cX9_fall 30 = .ok (.invokevirtual 257, 3) := DX9_fall_0 (30, .invokevirtual 257, 3) (List.mem_of_getElem? (i := 14) rfl)
theorem dX9_fall_33 : decode cX9_fall 33 = .ok (.aload_n 0, 1) := DX9_fall_0 (33, .aload_n 0, 1) (List.mem_of_getElem? (i := 15) rfl)
theorem dX9_fall_34 : decode cX9_fall 34 = .ok (.getfield 28, 3) := DX9_fall_0 (34, .getfield 28, 3) (List.mem_of_getElem? (i := 16) rfl)
theorem dX9_fall_37 : decode cX9_fall 37 = .ok (.invokevirtual 260, 3) := DX9_fall_0 (37, .invokevirtual 260, 3) (List.mem_of_getElem? (i := 17) rfl)
theorem dX9_fall_40 : decode cX9_fall 40 = .ok (.aload_n 0, 1) := DX9_fall_0 (40, .aload_n 0, 1) (List.mem_of_getElem? (i := 18) rfl)
theorem dX9_fall_41 : decode cX9_fall 41 = .ok (.getfield 35, 3) := DX9_fall_0 (41, .getfield 35, 3) (List.mem_of_getElem? (i := 19) rfl)
theorem dX9_fall_44 : decode cX9_fall 44 = .ok (.invokevirtual 263, 3) := DX9_fall_0 (44, .invokevirtual 263, 3) (List.mem_of_getElem? (i := 20) rfl)
theorem dX9_fall_47 : decode cX9_fall 47 = .ok (.aload_n 0, 1) := DX9_fall_0 (47, .aload_n 0, 1) (List.mem_of_getElem? (i := 21) rfl)
theorem dX9_fall_48 : decode cX9_fall 48 = .ok (.iconst 0, 1) := DX9_fall_0 (48, .iconst 0, 1) (List.mem_of_getElem? (i := 22) rfl)
theorem dX9_fall_49 : decode cX9_fall 49 = .ok (.putfield 61, 3) := DX9_fall_0 (49, .putfield 61, 3) (List.mem_of_getElem? (i := 23) rfl)
theorem dX9_fall_52 : decode cX9_fall 52 = .ok (.aload_n 0, 1) := DX9_fall_0 (52, .aload_n 0, 1) (List.mem_of_getElem? (i := 24) rfl)
theorem dX9_fall_53 : decode cX9_fall 53 = .ok (.iconst 0, 1) := DX9_fall_0 (53, .iconst 0, 1) (List.mem_of_getElem? (i := 25) rfl)
theorem dX9_fall_54 : decode cX9_fall 54 = .ok (.putfield 53, 3) := DX9_fall_0 (54, .putfield 53, 3) (List.mem_of_getElem? (i := 26) rfl)
theorem dX9_fall_57 : decode cX9_fall 57 = .ok (.aload_n 0, 1) := DX9_fall_0 (57, .aload_n 0, 1) (List.mem_of_getElem? (i := 27) rfl)
theorem dX9_fall_58 : decode cX9_fall 58 = .ok (.dup, 1) := DX9_fall_0 (58, .dup, 1) (List.mem_of_getElem? (i := 28) rfl)
theorem dX9_fall_59 : decode cX9_fall 59 = .ok (.getfield 67, 3) := DX9_fall_0 (59, .getfield 67, 3) (List.mem_of_getElem? (i := 29) rfl)
theorem dX9_fall_62 : decode cX9_fall 62 = .ok (.iconst 1, 1) := DX9_fall_0 (62, .iconst 1, 1) (List.mem_of_getElem? (i := 30) rfl)
theorem dX9_fall_63 : decode cX9_fall 63 = .ok (.iadd, 1) := DX9_fall_0 (63, .iadd, 1) (List.mem_of_getElem? (i := 31) rfl)
theorem dX9_fall_64 : decode cX9_fall 64 = .ok (.putfield 67, 3) := DX9_fall_0 (64, .putfield 67, 3) (List.mem_of_getElem? (i := 32) rfl)
theorem dX9_fall_67 : decode cX9_fall 67 = .ok (.return_, 1) := DX9_fall_0 (67, .return_, 1) (List.mem_of_getElem? (i := 33) rfl)
set_option maxRecDepth 20000 in
theorem ggX9_needed_X9_firstFrom : GoodIn wsX9_needed wsX9_firstFrom := goodIn_r _ [14, 15, 34, 35, 36, 37, 38, 39, 40, 41, 42, 43, 44] rfl (by decide +kernel)
set_option maxRecDepth 20000 in
theorem gX9_needed_X9_firstFrom : GoodIn wsX9_needed (wsV RX9 264 RX9 yX9_firstFrom wsX9_firstFrom) := goodIn_app (goodIn_of _ (by decide +kernel)) ggX9_needed_X9_firstFrom
set_option maxRecDepth 20000 in
theorem ggX9_needed_X9_firstOf : GoodIn wsX9_needed wsX9_firstOf := goodIn_r _ [19, 8, 20, 21, 22, 23, 24, 25, 26, 27, 28, 29, 30, 31, 32, 33, 34, 35, 36, 37, 38, 39, 40, 41, 42, 43, 44, 57, 58, 59, 60, 61, 62, 63] rfl (by decide +kernel)
set_option maxRecDepth 20000 in
theorem gX9_needed_X9_firstOf : GoodIn wsX9_needed (wsV RX9 267 RX9 yX9_firstOf wsX9_firstOf) := goodIn_app (goodIn_of _ (by decide +kernel)) ggX9_needed_X9_firstOf
set_option maxRecDepth 100000 in
theorem DX9_firstFrom_0 : ∀ x ∈ ([(0, .aload_n 0, 1), (1, .getfield 57, 3), (4, .ifCond .ne 8, 3), (7, .bipush 8, 2), (9, .goto 7, 3), (12, .aload_n 0, 1), (13, .getfield 57, 3), (16, .ireturn, 1)] : List (Nat × Instr × Nat)), decode cX9_firstFrom x.1 = .ok (x.2.1, x.2.2) := by decide +kernel
theorem dX9_firstFrom_0 : decode cX9_firstFrom 0 = .ok (.aload_n 0, 1) := DX9_firstFrom_0 (0, .aload_n 0, 1) (List.mem_of_getElem? (i := 0) rfl)
theorem dX9_firstFrom_1 : decode cX9_firstFrom 1 = .ok (.getfield 57, 3) := DX9_firstFrom_0 (1, .getfield 57, 3) (List.mem_of_getElem? (i := 1) rfl)
theorem dX9_firstFrom_4 : decode cX9_firstFrom 4 = .ok (.ifCond .ne 8, 3) := DX9_firstFrom_0 (4, .ifCond .ne 8, 3) (List.mem_of_getElem? (i := 2) rfl)
theorem dX9_firstFrom_7 : decode cX9_firstFrom 7 = .ok (.bipush 8, 2) := DX9_firstFrom_0 (7, .bipush 8, 2) (List.mem_of_getElem? (i := 3) rfl)
theorem dX9_firstFrom_9 : decode cX9_firstFrom 9 = .ok (.goto 7, 3) := DX9_firstFrom_0 (9, .goto 7, 3) (List.mem_of_getElem? (i := 4) rfl)
theorem dX9_firstFrom_12 : decode cX9_firstFrom 12 = .ok (.aload_n 0, 1) := DX9_firstFrom_0 (12, .aload_n 0, 1) (List.mem_of_getElem? (i := 5) rfl)
theorem dX9_firstFrom_13 : decode cX9_firstFrom 13 = .ok (.getfield 57, 3) := DX9_firstFrom_0 (13, .getfield 57, 3) (List.mem_of_getElem? (i := 6) rfl)
theorem dX9_firstFrom_16 : decode cX9_firstFrom 16 = .ok (.ireturn, 1) := DX9_firstFrom_0 (16, .ireturn, 1) (List.mem_of_getElem? (i := 7) rfl)
set_option maxRecDepth 20000 in
theorem ggX9_firstOf_X2_pairAt : GoodIn wsX9_firstOf wsX2_pairAt := goodIn_r _ [9, 10, 11, 12, 8, 13, 14, 15, 30, 31, 32, 33] rfl (by decide +kernel)
set_option maxRecDepth 20000 in
theorem gX9_firstOf_X2_pairAt : GoodIn wsX9_firstOf (wsV RX9 195 RX2 yX2_pairAt wsX2_pairAt) := goodIn_app (goodIn_of _ (by decide +kernel)) ggX9_firstOf_X2_pairAt
set_option maxRecDepth 100000 in
theorem DX9_needed_0 : ∀ x ∈ ([(0, .aload_n 0, 1), (1, .getfield 53, 3), (4, .ifCond .ne 6, 3), (7, .bipush 8, 2), (9, .ireturn, 1), (10, .aload_n 0, 1), (11, .invokevirtual 264, 3), (14, .istore_n 1, 1), (15, .iconst 0, 1), (16, .istore_n 2, 1), (17, .iload_n 2, 1), (18, .bipush 8, 2), (20, .if_icmp .ge 35, 3), (23, .aload_n 0, 1), (24, .getfield 21, 3), (27, .getfield 216, 3), (30, .iload_n 2, 1), (31, .iaload, 1), (32, .ifCond .eq 17, 3), (35, .iload_n 1, 1), (36, .aload_n 0, 1), (37, .getfield 21, 3), (40, .getfield 216, 3), (43, .iload_n 2, 1), (44, .iaload, 1), (45, .invokestatic 249, 3), (48, .istore_n 1, 1), (49, .iinc 2 1, 3), (52, .goto (-35), 3), (55, .iconst 1, 1), (56, .istore_n 2, 1), (57, .iload_n 2, 1), (58, .bipush 9, 2), (60, .if_icmp .gt 31, 3), (63, .aload_n 0, 1), (64, .getfield 28, 3), (67, .getfield 77, 3), (70, .iload_n 2, 1), (71, .iaload, 1), (72, .ifCond .eq 13, 3)] : List (Nat × Instr × Nat)), decode cX9_needed x.1 = .ok (x.2.1, x.2.2) := by decide +kernel
theorem dX9_needed_0 : decode cX9_needed 0 = .ok (.aload_n 0, 1) := DX9_needed_0 (0, .aload_n 0, 1) (List.mem_of_getElem? (i := 0) rfl)
theorem dX9_needed_1 : decode cX9_needed 1 = .ok (.getfield 53, 3) := DX9_needed_0 (1, .getfield 53, 3) (List.mem_of_getElem? (i := 1) rfl)
theorem dX9_needed_4 : decode cX9_needed 4 = .ok (.ifCond .ne 6, 3) := DX9_needed_0 (4, .ifCond .ne 6, 3) (List.mem_of_getElem? (i := 2) rfl)
theorem dX9_needed_7 : decode cX9_needed 7 = .ok (.bipush 8, 2) := DX9_needed_0 (7, .bipush 8, 2) (List.mem_of_getElem? (i := 3) rfl)
theorem dX9_needed_9 : decode cX9_needed 9 = .ok (.ireturn, 1) := DX9_needed_0 (9, .ireturn, 1) (List.mem_of_getElem? (i := 4) rfl)
theorem dX9_needed_10 : decode cX9_needed 10 = .ok (.aload_n 0, 1) := DX9_needed_0 (10, .aload_n 0, 1) (List.mem_of_getElem? (i := 5) rfl)
theorem dX9_needed_11 : decode cX9_needed 11 = .ok (.invokevirtual 264, 3) := DX9_needed_0 (11, .invokevirtual 264, 3) (List.mem_of_getElem? (i := 6) rfl)
theorem dX9_needed_14 : decode cX9_needed 14 = .ok (.istore_n 1, 1) := DX9_needed_0 (14, .istore_n 1, 1) (List.mem_of_getElem? (i := 7) rfl)
theorem dX9_needed_15 : decode cX9_needed 15 = .ok (.iconst 0, 1) := DX9_needed_0 (15, .iconst 0, 1) (List.mem_of_getElem? (i := 8) rfl)
theorem dX9_needed_16 : decode cX9_needed 16 = .ok (.istore_n 2, 1) := DX9_needed_0 (16, .istore_n 2, 1) (List.mem_of_getElem? (i := 9) rfl)
theorem dX9_needed_17 : decode cX9_needed 17 = .ok (.iload_n 2, 1) := DX9_needed_0 (17, .iload_n 2, 1) (List.mem_of_getElem? (i := 10) rfl)
theorem dX9_needed_18 : decode cX9_needed 18 = .ok (.bipush 8, 2) := DX9_needed_0 (18, .bipush 8, 2) (List.mem_of_getElem? (i := 11) rfl)
theorem dX9_needed_20 : decode cX9_needed 20 = .ok (.if_icmp .ge 35, 3) := DX9_needed_0 (20, .if_icmp .ge 35, 3) (List.mem_of_getElem? (i := 12) rfl)
theorem dX9_needed_23 : decode cX9_needed 23 = .ok (.aload_n 0, 1) := DX9_needed_0 (23, .aload_n 0, 1) (List.mem_of_getElem? (i := 13) rfl)
theorem dX9_needed_24 : decode cX9_needed 24 = .ok (.getfield 21, 3) := DX9_needed_0 (24, .getfield 21, 3) (List.mem_of_getElem? (i := 14) rfl)
theorem dX9_needed_27 : decode cX9_needed 27 = .ok (.getfield 216, 3) := DX9_needed_0 (27, .getfield 216, 3) (List.mem_of_getElem? (i := 15) rfl)
theorem dX9_needed_30 : decode cX9_needed 30 = .ok (.iload_n 2, 1) := DX9_needed_0 (30, .iload_n 2, 1) (List.mem_of_getElem? (i := 16) rfl)
theorem dX9_needed_31 : decode cX9_needed 31 = .ok (.iaload, 1) := DX9_needed_0 (31, .iaload, 1) (List.mem_of_getElem? (i := 17) rfl)
theorem dX9_needed_32 : decode cX9_needed 32 = .ok (.ifCond .eq 17, 3) := DX9_needed_0 (32, .ifCond .eq 17, 3) (List.mem_of_getElem? (i := 18) rfl)
theorem dX9_needed_35 : decode cX9_needed 35 = .ok (.iload_n 1, 1) := DX9_needed_0 (35, .iload_n 1, 1) (List.mem_of_getElem? (i := 19) rfl)
theorem dX9_needed_36 : decode cX9_needed 36 = .ok (.aload_n 0, 1) := DX9_needed_0 (36, .aload_n 0, 1) (List.mem_of_getElem? (i := 20) rfl)
theorem dX9_needed_37 : decode cX9_needed 37 = .ok (.getfield 21, 3) := DX9_needed_0 (37, .getfield 21, 3) (List.mem_of_getElem? (i := 21) rfl)
theorem dX9_needed_40 : decode cX9_needed 40 = .ok (.getfield 216, 3) := DX9_needed_0 (40, .getfield 216, 3) (List.mem_of_getElem? (i := 22) rfl)
theorem dX9_needed_43 : decode cX9_needed 43 = .ok (.iload_n 2, 1) := DX9_needed_0 (43, .iload_n 2, 1) (List.mem_of_getElem? (i := 23) rfl)
theorem dX9_needed_44 : decode cX9_needed 44 = .ok (.iaload, 1) := DX9_needed_0 (44, .iaload, 1) (List.mem_of_getElem? (i := 24) rfl)
theorem dX9_needed_45 : decode cX9_needed 45 = .ok (.invokestatic 249, 3) := DX9_needed_0 (45, .invokestatic 249, 3) (List.mem_of_getElem? (i := 25) rfl)
theorem dX9_needed_48 : decode cX9_needed 48 = .ok (.istore_n 1, 1) := DX9_needed_0 (48, .istore_n 1, 1) (List.mem_of_getElem? (i := 26) rfl)
theorem dX9_needed_49 : decode cX9_needed 49 = .ok (.iinc 2 1, 3) := DX9_needed_0 (49, .iinc 2 1, 3) (List.mem_of_getElem? (i := 27) rfl)
theorem dX9_needed_52 : decode cX9_needed 52 = .ok (.goto (-35), 3) := DX9_needed_0 (52, .goto (-35), 3) (List.mem_of_getElem? (i := 28) rfl)
theorem dX9_needed_55 : decode cX9_needed 55 = .ok (.iconst 1, 1) := DX9_needed_0 (55, .iconst 1, 1) (List.mem_of_getElem? (i := 29) rfl)
theorem dX9_needed_56 : decode cX9_needed 56 = .ok (.istore_n 2, 1) := DX9_needed_0 (56, .istore_n 2, 1) (List.mem_of_getElem? (i := 30) rfl)
theorem dX9_needed_57 : decode cX9_needed 57 = .ok (.iload_n 2, 1) := DX9_needed_0 (57, .iload_n 2, 1) (List.mem_of_getElem? (i := 31) rfl)
theorem dX9_needed_58 : decode cX9_needed 58 = .ok (.bipush 9, 2) := DX9_needed_0 (58, .bipush 9, 2) (List.mem_of_getElem? (i := 32) rfl)
theorem dX9_needed_60 : decode cX9_needed 60 = .ok (.if_icmp .gt 31, 3) := DX9_needed_0 (60, .if_icmp .gt 31, 3) (List.mem_of_getElem? (i := 33) rfl)
theorem dX9_needed_63 : decode cX9_needed 63 = .ok (.aload_n 0, 1) := DX9_needed_0 (63, .aload_n 0, 1) (List.mem_of_getElem? (i := 34) rfl)
theorem dX9_needed_64 : decode cX9_needed 64 = .ok (.getfield 28, 3) := DX9_needed_0 (64, .getfield 28, 3) (List.mem_of_getElem? (i := 35) rfl)
theorem dX9_needed_67 : decode cX9_needed 67 = .ok (.getfield 77, 3) := DX9_needed_0 (67, .getfield 77, 3) (List.mem_of_getElem? (i := 36) rfl)
theorem dX9_needed_70 : decode cX9_needed 70 = .ok (.iload_n 2, 1) := DX9_needed_0 (70, .iload_n 2, 1) (List.mem_of_getElem? (i := 37) rfl)
theorem dX9_needed_71 : decode cX9_needed 71 = .ok (.iaload, 1) := DX9_needed_0 (71, .iaload, 1) (List.mem_of_getElem? (i := 38) rfl)
theorem dX9_needed_72 : decode cX9_needed 72 = .ok (.ifCond .eq 13, 3) := DX9_needed_0 (72, .ifCond .eq 13, 3) (List.mem_of_getElem? (i := 39) rfl)
set_option maxRecDepth 100000 in
theorem DX9_needed_40 : ∀ x ∈ ([(75, .iload_n 1, 1), (76, .aload_n 0, 1), (77, .iload_n 2, 1), (78, .invokevirtual 267, 3), (81, .invokestatic 249, 3), (84, .istore_n 1, 1), (85, .iinc 2 1, 3), (88, .goto (-31), 3), (91, .iload_n 1, 1), (92, .ireturn, 1)] : List (Nat × Instr × Nat)), decode cX9_needed x.1 = .ok (x.2.1, x.2.2) := by decide +kernel
theorem dX9_needed_75 : decode cX9_needed 75 = .ok (.iload_n 1, 1) := DX9_needed_40 (75, .iload_n 1, 1) (List.mem_of_getElem? (i := 0) rfl)
theorem dX9_needed_76 : decode cX9_needed 76 = .ok (.aload_n 0, 1) := DX9_needed_40 (76, .aload_n 0, 1) (List.mem_of_getElem? (i := 1) rfl)
theorem dX9_needed_77 : decode cX9_needed 77 = .ok (.iload_n 2, 1) := DX9_needed_40 (77, .iload_n 2, 1) (List.mem_of_getElem? (i := 2) rfl)
theorem dX9_needed_78 : decode cX9_needed 78 = .ok (.invokevirtual 267, 3) := DX9_needed_40 (78, .invokevirtual 267, 3) (List.mem_of_getElem? (i := 3) rfl)
theorem dX9_needed_81 : decode cX9_needed 81 = .ok (.invokestatic 249, 3) := DX9_needed_40 (81, .invokestatic 249, 3) (List.mem_of_getElem? (i := 4) rfl)
theorem dX9_needed_84 : decode cX9_needed 84 = .ok (.istore_n 1, 1) := DX9_needed_40 (84, .istore_n 1, 1) (List.mem_of_getElem? (i := 5) rfl)
theorem dX9_needed_85 : decode cX9_needed 85 = .ok (.iinc 2 1, 3) := DX9_needed_40 (85, .iinc 2 1, 3) (List.mem_of_getElem? (i := 6) rfl)
theorem dX9_needed_88 : decode cX9_needed 88 = .ok (.goto (-31), 3) := DX9_needed_40 (88, .goto (-31), 3) (List.mem_of_getElem? (i := 7) rfl)
theorem dX9_needed_91 : decode cX9_needed 91 = .ok (.iload_n 1, 1) := DX9_needed_40 (91, .iload_n 1, 1) (List.mem_of_getElem? (i := 8) rfl)
theorem dX9_needed_92 : decode cX9_needed 92 = .ok (.ireturn, 1) := DX9_needed_40 (92, .ireturn, 1) (List.mem_of_getElem? (i := 9) rfl)
set_option maxRecDepth 20000 in
theorem ggX9_copyFrom_X2_copyFrom : GoodIn wsX9_copyFrom wsX2_copyFrom := goodIn_r _ [16, 17, 18, 19, 20, 21, 22, 23, 24, 25, 26, 27, 98, 99, 100, 101] rfl (by decide +kernel)
set_option maxRecDepth 20000 in
theorem gX9_copyFrom_X2_copyFrom : GoodIn wsX9_copyFrom (wsV RX9 270 RX2 yX2_copyFrom wsX2_copyFrom) := goodIn_app (goodIn_of _ (by decide +kernel)) ggX9_copyFrom_X2_copyFrom
set_option maxRecDepth 20000 in
theorem ggX9_copyFrom_X3_copyFrom : GoodIn wsX9_copyFrom wsX3_copyFrom := goodIn_r _ [32, 33, 34, 25, 26, 27, 35, 36, 37, 38, 39, 40, 41, 42, 43, 44, 45, 102, 103, 104, 105, 106, 107, 108, 109, 110, 111, 112, 113] rfl (by decide +kernel)
set_option maxRecDepth 20000 in
theorem gX9_copyFrom_X3_copyFrom : GoodIn wsX9_copyFrom (wsV RX9 274 RX3 yX3_copyFrom wsX3_copyFrom) := goodIn_app (goodIn_of _ (by decide +kernel)) ggX9_copyFrom_X3_copyFrom
set_option maxRecDepth 20000 in
theorem ggX9_copyFrom_X5_copyFrom : GoodIn wsX9_copyFrom wsX5_copyFrom := goodIn_r _ [50, 51, 52, 25, 26, 27, 53, 54, 114, 115, 116] rfl (by decide +kernel)
set_option maxRecDepth 20000 in
theorem gX9_copyFrom_X5_copyFrom : GoodIn wsX9_copyFrom (wsV RX9 277 RX5 yX5_copyFrom wsX5_copyFrom) := goodIn_app (goodIn_of _ (by decide +kernel)) ggX9_copyFrom_X5_copyFrom
set_option maxRecDepth 20000 in
theorem ggX9_copyFrom_X0_copyFrom : GoodIn wsX9_copyFrom wsX0_copyFrom := goodIn_r _ [59, 60, 61, 25, 26, 27, 62, 63, 64, 65, 66, 67, 117, 118, 119, 120, 121, 122, 123] rfl (by decide +kernel)
set_option maxRecDepth 20000 in
theorem gX9_copyFrom_X0_copyFrom : GoodIn wsX9_copyFrom (wsV RX9 280 RX0 yX0_copyFrom wsX0_copyFrom) := goodIn_app (goodIn_of _ (by decide +kernel)) ggX9_copyFrom_X0_copyFrom
set_option maxRecDepth 20000 in
theorem ggX9_copyFrom_X7_copyFrom : GoodIn wsX9_copyFrom wsX7_copyFrom := goodIn_r _ [72, 73, 74, 25, 26, 27, 75, 76, 77, 124, 125, 126, 127] rfl (by decide +kernel)
set_option maxRecDepth 20000 in
theorem gX9_copyFrom_X7_copyFrom : GoodIn wsX9_copyFrom (wsV RX9 283 RX7 yX7_copyFrom wsX7_copyFrom) := goodIn_app (goodIn_of _ (by decide +kernel)) ggX9_copyFrom_X7_copyFrom
set_option maxRecDepth 20000 in
theorem ggX9_copyFrom_X6_copyFrom : GoodIn wsX9_copyFrom wsX6_copyFrom := goodIn_r _ [82, 83, 84, 25, 26, 27, 85, 86, 128, 129, 130] rfl (by decide +kernel)
set_option maxRecDepth 20000 in
theorem gX9_copyFrom_X6_copyFrom : GoodIn wsX9_copyFrom (wsV RX9 286 RX6 yX6_copyFrom wsX6_copyFrom) := goodIn_app (goodIn_of _ (by decide +kernel)) ggX9_copyFrom_X6_copyFrom
set_option maxRecDepth 100000 in
theorem DX9_firstOf_0 : ∀ x ∈ ([(0, .aload_n 0, 1), (1, .getfield 28, 3), (4, .getfield 85, 3), (7, .iload_n 1, 1), (8, .iaload, 1), (9, .istore_n 2, 1), (10, .iconst 0, 1), (11, .istore_n 3, 1), (12, .iload_n 3, 1), (13, .ldc 175, 2), (15, .if_icmp .ge 33, 3), (18, .aload_n 0, 1), (19, .getfield 12, 3), (22, .iload_n 2, 1), (23, .iconst 3, 1), (24, .iadd, 1), (25, .invokevirtual 195, 3), (28, .ifCond .eq 20, 3), (31, .aload_n 0, 1), (32, .getfield 12, 3), (35, .iload_n 2, 1), (36, .iconst 3, 1), (37, .iadd, 1), (38, .invokevirtual 195, 3), (41, .istore_n 2, 1), (42, .iinc 3 1, 3), (45, .goto (-33), 3), (48, .iload_n 2, 1), (49, .ireturn, 1)] : List (Nat × Instr × Nat)), decode cX9_firstOf x.1 = .ok (x.2.1, x.2.2) := by decide +kernel
theorem dX9_firstOf_0 : decode cX9_firstOf 0 = .ok (.aload_n 0, 1) := DX9_firstOf_0 (0, .aload_n 0, 1) (List.mem_of_getElem? (i := 0) rfl)
theorem dX9_firstOf_1 : decode cX9_firstOf 1 = .ok (.getfield 28, 3) := DX9_firstOf_0 (1, .getfield 28, 3) (List.mem_of_getElem? (i := 1) rfl)
theorem dX9_firstOf_4 : decode cX9_firstOf 4 = .ok (.getfield 85, 3) := DX9_firstOf_0 (4, .getfield 85, 3) (List.mem_of_getElem? (i := 2) rfl)
theorem dX9_firstOf_7 : decode cX9_firstOf 7 = .ok (.iload_n 1, 1) := DX9_firstOf_0 (7, .iload_n 1, 1) (List.mem_of_getElem? (i := 3) rfl)
theorem dX9_firstOf_8 : decode cX9_firstOf 8 = .ok (.iaload, 1) := DX9_firstOf_0 (8, .iaload, 1) (List.mem_of_getElem? (i := 4) rfl)
theorem dX9_firstOf_9 : decode cX9_firstOf 9 = .ok (.istore_n 2, 1) := DX9_firstOf_0 (9, .istore_n 2, 1) (List.mem_of_getElem? (i := 5) rfl)
theorem dX9_firstOf_10 : decode cX9_firstOf 10 = .ok (.iconst 0, 1) := DX9_firstOf_0 (10, .iconst 0, 1) (List.mem_of_getElem? (i := 6) rfl)
theorem dX9_firstOf_11 : decode cX9_firstOf 11 = .ok (.istore_n 3, 1) := DX9_firstOf_0 (11, .istore_n 3, 1) (List.mem_of_getElem? (i := 7) rfl)
theorem dX9_firstOf_12 : decode cX9_firstOf 12 = .ok (.iload_n 3, 1) := DX9_firstOf_0 (12, .iload_n 3, 1) (List.mem_of_getElem? (i := 8) rfl)
theorem dX9_firstOf_13 : decode cX9_firstOf 13 = .ok (.ldc 175, 2) := DX9_firstOf_0 (13, .ldc 175, 2) (List.mem_of_getElem? (i := 9) rfl)
theorem dX9_firstOf_15 : decode cX9_firstOf 15 = .ok (.if_icmp .ge 33, 3) := DX9_firstOf_0 (15, .if_icmp .ge 33, 3) (List.mem_of_getElem? (i := 10) rfl)
theorem dX9_firstOf_18 : decode cX9_firstOf 18 = .ok (.aload_n 0, 1) := DX9_firstOf_0 (18, .aload_n 0, 1) (List.mem_of_getElem? (i := 11) rfl)
theorem dX9_firstOf_19 : decode cX9_firstOf 19 = .ok (.getfield 12, 3) := DX9_firstOf_0 (19, .getfield 12, 3) (List.mem_of_getElem? (i := 12) rfl)
theorem dX9_firstOf_22 : decode cX9_firstOf 22 = .ok (.iload_n 2, 1) := DX9_firstOf_0 (22, .iload_n 2, 1) (List.mem_of_getElem? (i := 13) rfl)
theorem dX9_firstOf_23 : decode cX9_firstOf 23 = .ok (.iconst 3, 1) := DX9_firstOf_0 (23, .iconst 3, 1) (List.mem_of_getElem? (i := 14) rfl)
theorem dX9_firstOf_24 : decode cX9_firstOf 24 = .ok (.iadd, 1) := DX9_firstOf_0 (24, .iadd, 1) (List.mem_of_getElem? (i := 15) rfl)
theorem dX9_firstOf_25 : decode cX9_firstOf 25 = .ok (.invokevirtual 195, 3) := DX9_firstOf_0 (25, .invokevirtual 195, 3) (List.mem_of_getElem? (i := 16) rfl)
theorem dX9_firstOf_28 : decode cX9_firstOf 28 = .ok (.ifCond .eq 20, 3) := DX9_firstOf_0 (28, .ifCond .eq 20, 3) (List.mem_of_getElem? (i := 17) rfl)
theorem dX9_firstOf_31 : decode cX9_firstOf 31 = .ok (.aload_n 0, 1) := DX9_firstOf_0 (31, .aload_n 0, 1) (List.mem_of_getElem? (i := 18) rfl)
theorem dX9_firstOf_32 : decode cX9_firstOf 32 = .ok (.getfield 12, 3) := DX9_firstOf_0 (32, .getfield 12, 3) (List.mem_of_getElem? (i := 19) rfl)
theorem dX9_firstOf_35 : decode cX9_firstOf 35 = .ok (.iload_n 2, 1) := DX9_firstOf_0 (35, .iload_n 2, 1) (List.mem_of_getElem? (i := 20) rfl)
theorem dX9_firstOf_36 : decode cX9_firstOf 36 = .ok (.iconst 3, 1) := DX9_firstOf_0 (36, .iconst 3, 1) (List.mem_of_getElem? (i := 21) rfl)
theorem dX9_firstOf_37 : decode cX9_firstOf 37 = .ok (.iadd, 1) := DX9_firstOf_0 (37, .iadd, 1) (List.mem_of_getElem? (i := 22) rfl)
theorem dX9_firstOf_38 : decode cX9_firstOf 38 = .ok (.invokevirtual 195, 3) := DX9_firstOf_0 (38, .invokevirtual 195, 3) (List.mem_of_getElem? (i := 23) rfl)
theorem dX9_firstOf_41 : decode cX9_firstOf 41 = .ok (.istore_n 2, 1) := DX9_firstOf_0 (41, .istore_n 2, 1) (List.mem_of_getElem? (i := 24) rfl)
theorem dX9_firstOf_42 : decode cX9_firstOf 42 = .ok (.iinc 3 1, 3) := DX9_firstOf_0 (42, .iinc 3 1, 3) (List.mem_of_getElem? (i := 25) rfl)
theorem dX9_firstOf_45 : decode cX9_firstOf 45 = .ok (.goto (-33), 3) := DX9_firstOf_0 (45, .goto (-33), 3) (List.mem_of_getElem? (i := 26) rfl)
theorem dX9_firstOf_48 : decode cX9_firstOf 48 = .ok (.iload_n 2, 1) := DX9_firstOf_0 (48, .iload_n 2, 1) (List.mem_of_getElem? (i := 27) rfl)
theorem dX9_firstOf_49 : decode cX9_firstOf 49 = .ok (.ireturn, 1) := DX9_firstOf_0 (49, .ireturn, 1) (List.mem_of_getElem? (i := 28) rfl)
set_option maxRecDepth 20000 in
theorem ggX10_init_X9_init : GoodIn wsX10_init wsX9_init := goodIn_r _ [21, 22, 2, 3, 23, 24, 25, 26, 27, 28, 29, 30, 31, 32, 33, 34, 35, 36, 37, 38, 39, 40, 41, 42, 43, 44, 45, 46, 47, 48, 49, 50, 51, 52, 53, 54, 55, 56, 57, 58, 59, 60, 61, 62, 63, 64, 65, 66, 67, 68, 69, 70, 71, 72, 73, 74, 75, 76, 77, 78, 79, 80, 81, 82, 83, 84, 85, 86, 87, 88, 89, 90, 91, 92, 93, 94, 95, 96, 97, 98, 99, 100, 101, 102, 103, 104, 105, 106, 107, 108, 171, 172, 173, 174, 137, 138, 139, 140, 141, 142, 143, 144, 145, 146, 147, 175, 176, 177, 178, 179, 180, 181, 182, 183, 184, 185, 186, 187, 188, 189, 190, 191, 192, 193, 194, 195, 196, 197, 198, 199, 200, 201, 202, 203] rfl (by decide +kernel)
set_option maxRecDepth 20000 in
theorem gX10_init_X9_init_n9 : GoodIn wsX10_init (wsX9_init) := ggX10_init_X9_init
set_option maxRecDepth 20000 in
theorem ggX10_init_X8_init : GoodIn wsX10_init wsX8_init := goodIn_r _ [110, 111, 2, 3, 55, 112, 113, 114, 115, 116, 44, 45, 117, 118, 119, 120, 121, 103, 104, 105, 106, 107, 108, 154, 155, 156, 157, 158, 159, 160, 161, 162, 201, 202, 203] rfl (by decide +kernel)
set_option maxRecDepth 20000 in
theorem gX10_init_X8_init_n18 : GoodIn wsX10_init (wsX8_init) := ggX10_init_X8_init
set_option maxRecDepth 20000 in
theorem ggX10_init_X4_init : GoodIn wsX10_init wsX4_init := goodIn_r _ [123, 124, 2, 3, 55, 125, 126, 127, 128, 129, 130, 131, 163, 164, 165, 166, 167, 168, 169] rfl (by decide +kernel)
set_option maxRecDepth 20000 in
theorem gX10_init_X4_init_n25 : GoodIn wsX10_init (wsX4_init) := ggX10_init_X4_init
set_option maxRecDepth 20000 in
theorem ggX10_init_X1_init : GoodIn wsX10_init wsX1_init := goodIn_r _ [133, 134, 2, 3, 135, 32, 33, 136, 80, 81, 82, 55, 83, 84, 85, 187, 188, 189, 170] rfl (by decide +kernel)
set_option maxRecDepth 20000 in
theorem gX10_init_X1_init_n32 : GoodIn wsX10_init (wsX1_init) := ggX10_init_X1_init
set_option maxRecDepth 100000 in
theorem DX9_copyFrom_0 : ∀ x ∈ ([(0, .aload_n 0, 1), (1, .getfield 12, 3), (4, .aload_n 1, 1), (5, .getfield 12, 3), (8, .invokevirtual 270, 3), (11, .aload_n 0, 1), (12, .getfield 21, 3), (15, .aload_n 1, 1), (16, .getfield 21, 3), (19, .invokevirtual 274, 3), (22, .aload_n 0, 1), (23, .getfield 28, 3), (26, .aload_n 1, 1), (27, .getfield 28, 3), (30, .invokevirtual 277, 3), (33, .aload_n 0, 1), (34, .getfield 35, 3), (37, .aload_n 1, 1), (38, .getfield 35, 3), (41, .invokevirtual 280, 3), (44, .aload_n 0, 1), (45, .getfield 42, 3), (48, .aload_n 1, 1), (49, .getfield 42, 3), (52, .invokevirtual 283, 3), (55, .aload_n 0, 1), (56, .getfield 49, 3), (59, .aload_n 1, 1), (60, .getfield 49, 3), (63, .invokevirtual 286, 3), (66, .aload_n 0, 1), (67, .aload_n 1, 1), (68, .getfield 53, 3), (71, .putfield 53, 3), (74, .aload_n 0, 1), (75, .aload_n 1, 1), (76, .getfield 57, 3), (79, .putfield 57, 3), (82, .aload_n 0, 1), (83, .aload_n 1, 1)] : List (Nat × Instr × Nat)), decode cX9_copyFrom x.1 = .ok (x.2.1, x.2.2) := by decide +kernel
theorem dX9_copyFrom_0 : decode cX9_copyFrom 0 = .ok (.aload_n 0, 1) := DX9_copyFrom_0 (0, .aload_n 0, 1) (List.mem_of_getElem? (i := 0) rfl)
theorem dX9_copyFrom_1 : decode cX9_copyFrom 1 = .ok (.getfield 12, 3) := DX9_copyFrom_0 (1, .getfield 12, 3) (List.mem_of_getElem? (i := 1) rfl)
theorem dX9_copyFrom_4 : decode cX9_copyFrom 4 = .ok (.aload_n 1, 1) := DX9_copyFrom_0 (4, .aload_n 1, 1) (List.mem_of_getElem? (i := 2) rfl)
theorem dX9_copyFrom_5 : decode cX9_copyFrom 5 = .ok (.getfield 12, 3) := DX9_copyFrom_0 (5, .getfield 12, 3) (List.mem_of_getElem? (i := 3) rfl)
theorem dX9_copyFrom_8 : decode cX9_copyFrom 8 = .ok (.invokevirtual 270, 3) := DX9_copyFrom_0 (8, .invokevirtual 270, 3) (List.mem_of_getElem? (i := 4) rfl)
theorem dX9_copyFrom_11 : decode cX9_copyFrom 11 = .ok (.aload_n 0, 1) := DX9_copyFrom_0 (11, .aload_n 0, 1) (List.mem_of_getElem? (i := 5) rfl)
theorem dX9_copyFrom_12 : decode cX9_copyFrom 12 = .ok (.getfield 21, 3) := DX9_copyFrom_0 (12, .getfield 21, 3) (List.mem_of_getElem? (i := 6) rfl)
theorem dX9_copyFrom_15 : decode cX9_copyFrom 15 = .ok (.aload_n 1, 1) := DX9_copyFrom_0 (15, .aload_n 1, 1) (List.mem_of_getElem? (i := 7) rfl)
theorem dX9_copyFrom_16 : decode cX9_copyFrom 16 = .ok (.getfield 21, 3) := DX9_copyFrom_0 (16, .getfield 21, 3) (List.mem_of_getElem? (i := 8) rfl)
theorem dX9_copyFrom_19 : decode cX9_copyFrom 19 = .ok (.invokevirtual 274, 3) := DX9_copyFrom_0 (19, .invokevirtual 274, 3) (List.mem_of_getElem? (i := 9) rfl)
theorem dX9_copyFrom_22 : decode cX9_copyFrom 22 = .ok (.aload_n 0, 1) := DX9_copyFrom_0 (22, .aload_n 0, 1) (List.mem_of_getElem? (i := 10) rfl)
theorem dX9_copyFrom_23 : decode cX9_copyFrom 23 = .ok (.getfield 28, 3) := DX9_copyFrom_0 (23, .getfield 28, 3) (List.mem_of_getElem? (i := 11) rfl)
theorem dX9_copyFrom_26 : decode cX9_copyFrom 26 = .ok (.aload_n 1, 1) := DX9_copyFrom_0 (26, .aload_n 1, 1) (List.mem_of_getElem? (i := 12) rfl)
theorem dX9_copyFrom_27 : decode cX9_copyFrom 27 = .ok (.getfield 28, 3) := DX9_copyFrom_0 (27, .getfield 28, 3) (List.mem_of_getElem? (i := 13) rfl)
theorem dX9_copyFrom_30 : decode cX9_copyFrom 30 = .ok (.invokevirtual 277, 3) := DX9_copyFrom_0 (30, .invokevirtual 277, 3) (List.mem_of_getElem? (i := 14) rfl)
theorem dX9_copyFrom_33 : decode cX9_copyFrom 33 = .ok (.aload_n 0, 1) := DX9_copyFrom_0 (33, .aload_n 0, 1) (List.mem_of_getElem? (i := 15) rfl)
theorem dX9_copyFrom_34 : decode cX9_copyFrom 34 = .ok (.getfield 35, 3) := DX9_copyFrom_0 (34, .getfield 35, 3) (List.mem_of_getElem? (i := 16) rfl)
theorem dX9_copyFrom_37 : decode cX9_copyFrom 37 = .ok (.aload_n 1, 1) := DX9_copyFrom_0 (37, .aload_n 1, 1) (List.mem_of_getElem? (i := 17) rfl)
theorem dX9_copyFrom_38 : decode cX9_copyFrom 38 = .ok (.getfield 35, 3) := DX9_copyFrom_0 (38, .getfield 35, 3) (List.mem_of_getElem? (i := 18) rfl)
theorem dX9_copyFrom_41 : decode cX9_copyFrom 41 = .ok (.invokevirtual 280, 3) := DX9_copyFrom_0 (41, .invokevirtual 280, 3) (List.mem_of_getElem? (i := 19) rfl)
theorem dX9_copyFrom_44 : decode cX9_copyFrom 44 = .ok (.aload_n 0, 1) := DX9_copyFrom_0 (44, .aload_n 0, 1) (List.mem_of_getElem? (i := 20) rfl)
theorem dX9_copyFrom_45 : decode cX9_copyFrom 45 = .ok (.getfield 42, 3) := DX9_copyFrom_0 (45, .getfield 42, 3) (List.mem_of_getElem? (i := 21) rfl)
theorem dX9_copyFrom_48 : decode cX9_copyFrom 48 = .ok (.aload_n 1, 1) := DX9_copyFrom_0 (48, .aload_n 1, 1) (List.mem_of_getElem? (i := 22) rfl)
theorem dX9_copyFrom_49 : decode cX9_copyFrom 49 = .ok (.getfield 42, 3) := DX9_copyFrom_0 (49, .getfield 42, 3) (List.mem_of_getElem? (i := 23) rfl)
theorem dX9_copyFrom_52 : decode cX9_copyFrom 52 = .ok (.invokevirtual 283, 3) := DX9_copyFrom_0 (52, .invokevirtual 283, 3) (List.mem_of_getElem? (i := 24) rfl)
theorem dX9_copyFrom_55 : decode cX9_copyFrom 55 = .ok (.aload_n 0, 1) := DX9_copyFrom_0 (55, .aload_n 0, 1) (List.mem_of_getElem? (i := 25) rfl)
theorem dX9_copyFrom_56 : decode cX9_copyFrom 56 = .ok (.getfield 49, 3) := DX9_copyFrom_0 (56, .getfield 49, 3) (List.mem_of_getElem? (i := 26) rfl)
theorem dX9_copyFrom_59 : decode cX9_copyFrom 59 = .ok (.aload_n 1, 1) := DX9_copyFrom_0 (59, .aload_n 1, 1) (List.mem_of_getElem? (i := 27) rfl)
theorem dX9_copyFrom_60 : decode cX9_copyFrom 60 = .ok (.getfield 49, 3) := DX9_copyFrom_0 (60, .getfield 49, 3) (List.mem_of_getElem? (i := 28) rfl)
theorem dX9_copyFrom_63 : decode cX9_copyFrom 63 = .ok (.invokevirtual 286, 3) := DX9_copyFrom_0 (63, .invokevirtual 286, 3) (List.mem_of_getElem? (i := 29) rfl)
theorem dX9_copyFrom_66 : decode cX9_copyFrom 66 = .ok (.aload_n 0, 1) := DX9_copyFrom_0 (66, .aload_n 0, 1) (List.mem_of_getElem? (i := 30) rfl)
theorem dX9_copyFrom_67 : decode cX9_copyFrom 67 = .ok (.aload_n 1, 1) := DX9_copyFrom_0 (67, .aload_n 1, 1) (List.mem_of_getElem? (i := 31) rfl)
theorem dX9_copyFrom_68 : decode cX9_copyFrom 68 = .ok (.getfield 53, 3) := DX9_copyFrom_0 (68, .getfield 53, 3) (List.mem_of_getElem? (i := 32) rfl)
theorem dX9_copyFrom_71 : decode cX9_copyFrom 71 = .ok (.putfield 53, 3) := DX9_copyFrom_0 (71, .putfield 53, 3) (List.mem_of_getElem? (i := 33) rfl)
theorem dX9_copyFrom_74 : decode cX9_copyFrom 74 = .ok (.aload_n 0, 1) := DX9_copyFrom_0 (74, .aload_n 0, 1) (List.mem_of_getElem? (i := 34) rfl)
theorem dX9_copyFrom_75 : decode cX9_copyFrom 75 = .ok (.aload_n 1, 1) := DX9_copyFrom_0 (75, .aload_n 1, 1) (List.mem_of_getElem? (i := 35) rfl)
theorem dX9_copyFrom_76 : decode cX9_copyFrom 76 = .ok (.getfield 57, 3) := DX9_copyFrom_0 (76, .getfield 57, 3) (List.mem_of_getElem? (i := 36) rfl)
theorem dX9_copyFrom_79 : decode cX9_copyFrom 79 = .ok (.putfield 57, 3) := DX9_copyFrom_0 (79, .putfield 57, 3) (List.mem_of_getElem? (i := 37) rfl)
theorem dX9_copyFrom_82 : decode cX9_copyFrom 82 = .ok (.aload_n 0, 1) := DX9_copyFrom_0 (82, .aload_n 0, 1) (List.mem_of_getElem? (i := 38) rfl)
theorem dX9_copyFrom_83 : decode cX9_copyFrom 83 = .ok (.aload_n 1, 1) := DX9_copyFrom_0 (83, .aload_n 1, 1) (List.mem_of_getElem? (i := 39) rfl)
set_option maxRecDepth 100000 in
theorem DX9_copyFrom_40 : ∀ x ∈ ([(84, .getfield 61, 3), (87, .putfield 61, 3), (90, .aload_n 0, 1), (91, .aload_n 1, 1), (92, .getfield 64, 3), (95, .putfield 64, 3), (98, .aload_n 0, 1), (99, .aload_n 1, 1), (100, .getfield 67, 3), (103, .putfield 67, 3), (106, .return_, 1)] : List (Nat × Instr × Nat)), decode cX9_copyFrom x.1 = .ok (x.2.1, x.2.2) := by decide +kernel
theorem dX9_copyFrom_84 : decode cX9_copyFrom 84 = .ok (.getfield 61, 3) := DX9_copyFrom_40 (84, .getfield 61, 3) (List.mem_of_getElem? (i := 0) rfl)
theorem dX9_copyFrom_87 : decode cX9_copyFrom 87 = .ok (.putfield 61, 3) := DX9_copyFrom_40 (87, .putfield 61, 3) (List.mem_of_getElem? (i := 1) rfl)
theorem dX9_copyFrom_90 : decode cX9_copyFrom 90 = .ok (.aload_n 0, 1) := DX9_copyFrom_40 (90, .aload_n 0, 1) (List.mem_of_getElem? (i := 2) rfl)
theorem dX9_copyFrom_91 : decode cX9_copyFrom 91 = .ok (.aload_n 1, 1) := DX9_copyFrom_40 (91, .aload_n 1, 1) (List.mem_of_getElem? (i := 3) rfl)
theorem dX9_copyFrom_92 : decode cX9_copyFrom 92 = .ok (.getfield 64, 3) := DX9_copyFrom_40 (92, .getfield 64, 3) (List.mem_of_getElem? (i := 4) rfl)
theorem dX9_copyFrom_95 : decode cX9_copyFrom 95 = .ok (.putfield 64, 3) := DX9_copyFrom_40 (95, .putfield 64, 3) (List.mem_of_getElem? (i := 5) rfl)
theorem dX9_copyFrom_98 : decode cX9_copyFrom 98 = .ok (.aload_n 0, 1) := DX9_copyFrom_40 (98, .aload_n 0, 1) (List.mem_of_getElem? (i := 6) rfl)
theorem dX9_copyFrom_99 : decode cX9_copyFrom 99 = .ok (.aload_n 1, 1) := DX9_copyFrom_40 (99, .aload_n 1, 1) (List.mem_of_getElem? (i := 7) rfl)
theorem dX9_copyFrom_100 : decode cX9_copyFrom 100 = .ok (.getfield 67, 3) := DX9_copyFrom_40 (100, .getfield 67, 3) (List.mem_of_getElem? (i := 8) rfl)
theorem dX9_copyFrom_103 : decode cX9_copyFrom 103 = .ok (.putfield 67, 3) := DX9_copyFrom_40 (103, .putfield 67, 3) (List.mem_of_getElem? (i := 9) rfl)
theorem dX9_copyFrom_106 : decode cX9_copyFrom 106 = .ok (.return_, 1) := DX9_copyFrom_40 (106, .return_, 1) (List.mem_of_getElem? (i := 10) rfl)
set_option maxRecDepth 20000 in
theorem ggX10_frames_X3_holdsAny : GoodIn wsX10_frames wsX3_holdsAny := goodIn_r _ [9, 10, 28, 29, 30, 31, 32, 33, 34, 35, 36, 37, 38, 39] rfl (by decide +kernel)
set_option maxRecDepth 20000 in
theorem gX10_frames_X3_holdsAny : GoodIn wsX10_frames (wsV RX10 45 RX3 yX3_holdsAny wsX3_holdsAny) := goodIn_app (goodIn_of _ (by decide +kernel)) ggX10_frames_X3_holdsAny
set_option maxRecDepth 100000 in
theorem DX10_init_0 : ∀ x ∈ ([(0, .aload_n 0, 1), (1, .invokespecial 1, 3), (4, .aload_n 0, 1), (5, .new 7, 3), (8, .dup, 1), (9, .invokespecial 9, 3), (12, .putfield 10, 3), (15, .aload_n 0, 1), (16, .new 16, 3), (19, .dup, 1), (20, .invokespecial 18, 3), (23, .putfield 19, 3), (26, .aload_n 0, 1), (27, .new 23, 3), (30, .dup, 1), (31, .invokespecial 25, 3), (34, .putfield 26, 3), (37, .aload_n 0, 1), (38, .new 30, 3), (41, .dup, 1), (42, .invokespecial 32, 3), (45, .putfield 33, 3), (48, .return_, 1)] : List (Nat × Instr × Nat)), decode cX10_init x.1 = .ok (x.2.1, x.2.2) := by decide +kernel
theorem dX10_init_0 : decode cX10_init 0 = .ok (.aload_n 0, 1) := DX10_init_0 (0, .aload_n 0, 1) (List.mem_of_getElem? (i := 0) rfl)
theorem dX10_init_1 : decode cX10_init 1 = .ok (.invokespecial 1, 3) := DX10_init_0 (1, .invokespecial 1, 3) (List.mem_of_getElem? (i := 1) rfl)
theorem dX10_init_4 : decode cX10_init 4 = .ok (.aload_n 0, 1) := DX10_init_0 (4, .aload_n 0, 1) (List.mem_of_getElem? (i := 2) rfl)
theorem dX10_init_5 : decode cX10_init 5 = .ok (.new 7, 3) := DX10_init_0 (5, .new 7, 3) (List.mem_of_getElem? (i := 3) rfl)
theorem dX10_init_8 : decode cX10_init 8 = .ok (.dup, 1) := DX10_init_0 (8, .dup, 1) (List.mem_of_getElem? (i := 4) rfl)
theorem dX10_init_9 : decode cX10_init 9 = .ok (.invokespecial 9, 3) := DX10_init_0 (9, .invokespecial 9, 3) (List.mem_of_getElem? (i := 5) rfl)
theorem dX10_init_12 : decode cX10_init 12 = .ok (.putfield 10, 3) := DX10_init_0 (12, .putfield 10, 3) (List.mem_of_getElem? (i := 6) rfl)
theorem dX10_init_15 : decode cX10_init 15 = .ok (.aload_n 0, 1) := DX10_init_0 (15, .aload_n 0, 1) (List.mem_of_getElem? (i := 7) rfl)
theorem dX10_init_16 : decode cX10_init 16 = .ok (.new 16, 3) := DX10_init_0 (16, .new 16, 3) (List.mem_of_getElem? (i := 8) rfl)
theorem dX10_init_19 : decode cX10_init 19 = .ok (.dup, 1) := DX10_init_0 (19, .dup, 1) (List.mem_of_getElem? (i := 9) rfl)
theorem dX10_init_20 : decode cX10_init 20 = .ok (.invokespecial 18, 3) := DX10_init_0 (20, .invokespecial 18, 3) (List.mem_of_getElem? (i := 10) rfl)
theorem dX10_init_23 : decode cX10_init 23 = .ok (.putfield 19, 3) := DX10_init_0 (23, .putfield 19, 3) (List.mem_of_getElem? (i := 11) rfl)
theorem dX10_init_26 : decode cX10_init 26 = .ok (.aload_n 0, 1) := DX10_init_0 (26, .aload_n 0, 1) (List.mem_of_getElem? (i := 12) rfl)
theorem dX10_init_27 : decode cX10_init 27 = .ok (.new 23, 3) := DX10_init_0 (27, .new 23, 3) (List.mem_of_getElem? (i := 13) rfl)
theorem dX10_init_30 : decode cX10_init 30 = .ok (.dup, 1) := DX10_init_0 (30, .dup, 1) (List.mem_of_getElem? (i := 14) rfl)
theorem dX10_init_31 : decode cX10_init 31 = .ok (.invokespecial 25, 3) := DX10_init_0 (31, .invokespecial 25, 3) (List.mem_of_getElem? (i := 15) rfl)
theorem dX10_init_34 : decode cX10_init 34 = .ok (.putfield 26, 3) := DX10_init_0 (34, .putfield 26, 3) (List.mem_of_getElem? (i := 16) rfl)
theorem dX10_init_37 : decode cX10_init 37 = .ok (.aload_n 0, 1) := DX10_init_0 (37, .aload_n 0, 1) (List.mem_of_getElem? (i := 17) rfl)
theorem dX10_init_38 : decode cX10_init 38 = .ok (.new 30, 3) := DX10_init_0 (38, .new 30, 3) (List.mem_of_getElem? (i := 18) rfl)
theorem dX10_init_41 : decode cX10_init 41 = .ok (.dup, 1) := DX10_init_0 (41, .dup, 1) (List.mem_of_getElem? (i := 19) rfl)
theorem dX10_init_42 : decode cX10_init 42 = .ok (.invokespecial 32, 3) := DX10_init_0 (42, .invokespecial 32, 3) (List.mem_of_getElem? (i := 20) rfl)
theorem dX10_init_45 : decode cX10_init 45 = .ok (.putfield 33, 3) := DX10_init_0 (45, .putfield 33, 3) (List.mem_of_getElem? (i := 21) rfl)
theorem dX10_init_48 : decode cX10_init 48 = .ok (.return_, 1) := DX10_init_0 (48, .return_, 1) (List.mem_of_getElem? (i := 22) rfl)
set_option maxRecDepth 20000 in
theorem ggX10_act_X9_begin : GoodIn wsX10_act wsX9_begin := goodIn_r _ [6, 7, 8, 9, 10, 11, 12, 13, 14, 15, 5, 16, 17, 18, 19, 20, 21, 22, 23, 24, 25, 26, 27, 28, 29, 30, 31, 32, 33, 34, 35, 36, 37, 38, 39, 40, 41, 42, 43, 123, 124, 125, 126, 127, 128, 129, 130, 131, 132, 133, 134, 135, 136, 137, 138, 139, 140] rfl (by decide +kernel)
set_option maxRecDepth 20000 in
theorem gX10_act_X9_begin : GoodIn wsX10_act (wsV RX10 55 RX9 yX9_begin wsX9_begin) := goodIn_app (goodIn_of _ (by decide +kernel)) ggX10_act_X9_begin
set_option maxRecDepth 20000 in
theorem ggX10_act_X9_commit : GoodIn wsX10_act wsX9_commit := goodIn_r _ [47, 48, 49, 17, 50, 51, 52, 5, 53, 8, 9, 10, 11, 12, 13, 14, 15, 16, 18, 19, 20, 21, 22, 23, 24, 25, 26, 27, 28, 29, 30, 31, 32, 33, 34, 35, 36, 37, 38, 39, 40, 41, 42, 43, 54, 55, 56, 57, 58, 59, 60, 61, 62, 63, 64, 65, 66, 67, 68, 69, 70, 71, 72, 73, 74, 75, 76, 77, 78, 79, 80, 81, 82, 83, 84, 85, 86, 87, 88, 123, 124, 125, 126, 127, 128, 129, 130, 131, 132, 133, 141, 142, 143, 144, 145, 146, 147, 134, 135, 136, 137, 138, 139, 140] rfl (by decide +kernel)
set_option maxRecDepth 20000 in
theorem gX10_act_X9_commit : GoodIn wsX10_act (wsV RX10 59 RX9 yX9_commit wsX9_commit) := goodIn_app (goodIn_of _ (by decide +kernel)) ggX10_act_X9_commit
set_option maxRecDepth 20000 in
theorem ggX10_act_X9_abort : GoodIn wsX10_act wsX9_abort := goodIn_r _ [92, 8, 93, 9, 48, 94, 50, 51, 52, 5, 53, 10, 11, 12, 19, 20, 21, 22, 17, 23, 24, 25, 26, 27, 28, 29, 30, 31, 32, 33, 34, 35, 36, 37, 38, 39, 40, 41, 42, 43, 95, 84, 85, 78, 86, 87, 88, 123, 124, 125, 126, 127, 128, 129, 130, 131, 132, 133, 134, 135, 136, 141, 142, 143, 144, 145, 146, 147, 137, 138, 139, 140] rfl (by decide +kernel)
set_option maxRecDepth 20000 in
theorem gX10_act_X9_abort : GoodIn wsX10_act (wsV RX10 62 RX9 yX9_abort wsX9_abort) := goodIn_app (goodIn_of _ (by decide +kernel)) ggX10_act_X9_abort
set_option maxRecDepth 20000 in
theorem ggX10_act_X9_openTop : GoodIn wsX10_act wsX9_openTop := goodIn_r _ [99, 48, 8, 23, 50, 51, 52, 5, 53, 9, 10, 11, 12, 100, 101, 102, 78, 103, 88, 104, 123, 124, 125, 126, 127, 128, 129, 130, 131, 132, 133, 134, 135, 136, 141, 142, 143, 144, 145, 146, 147] rfl (by decide +kernel)
set_option maxRecDepth 20000 in
theorem gX10_act_X9_openTop : GoodIn wsX10_act (wsV RX10 65 RX9 yX9_openTop wsX9_openTop) := goodIn_app (goodIn_of _ (by decide +kernel)) ggX10_act_X9_openTop
set_option maxRecDepth 20000 in
theorem ggX10_act_X9_closeTop : GoodIn wsX10_act wsX9_closeTop := goodIn_r _ [108, 48, 49, 17, 8, 23, 50, 51, 52, 5, 53, 9, 10, 11, 12, 13, 14, 15, 16, 18, 24, 25, 26, 27, 28, 29, 30, 31, 32, 33, 34, 35, 109, 110, 111, 78, 112, 88, 104, 113, 114, 115, 116, 36, 37, 38, 39, 40, 41, 42, 43, 123, 124, 125, 126, 127, 128, 129, 130, 131, 132, 133, 141, 142, 143, 144, 145, 146, 147, 134, 135, 136, 137, 138, 139, 140] rfl (by decide +kernel)
set_option maxRecDepth 20000 in
theorem gX10_act_X9_closeTop : GoodIn wsX10_act (wsV RX10 68 RX9 yX9_closeTop wsX9_closeTop) := goodIn_app (goodIn_of _ (by decide +kernel)) ggX10_act_X9_closeTop
set_option maxRecDepth 100000 in
theorem DX10_frames_0 : ∀ x ∈ ([(0, .aload_n 0, 1), (1, .getfield 10, 3), (4, .getfield 37, 3), (7, .ifCond .eq 27, 3), (10, .iload_n 1, 1), (11, .iconst 1, 1), (12, .if_icmp .lt 22, 3), (15, .iload_n 1, 1), (16, .bipush 8, 2), (18, .if_icmp .gt 16, 3), (21, .aload_n 0, 1), (22, .getfield 10, 3), (25, .getfield 41, 3), (28, .invokevirtual 45, 3), (31, .ifCond .eq 5, 3), (34, .iconst 0, 1), (35, .ireturn, 1), (36, .aload_n 0, 1), (37, .getfield 10, 3), (40, .getfield 41, 3), (43, .iload_n 1, 1), (44, .putfield 51, 3), (47, .iconst 1, 1), (48, .ireturn, 1)] : List (Nat × Instr × Nat)), decode cX10_frames x.1 = .ok (x.2.1, x.2.2) := by decide +kernel
theorem dX10_frames_0 : decode cX10_frames 0 = .ok (.aload_n 0, 1) := DX10_frames_0 (0, .aload_n 0, 1) (List.mem_of_getElem? (i := 0) rfl)
theorem dX10_frames_1 : decode cX10_frames 1 = .ok (.getfield 10, 3) := DX10_frames_0 (1, .getfield 10, 3) (List.mem_of_getElem? (i := 1) rfl)
theorem dX10_frames_4 : decode cX10_frames 4 = .ok (.getfield 37, 3) := DX10_frames_0 (4, .getfield 37, 3) (List.mem_of_getElem? (i := 2) rfl)
theorem dX10_frames_7 : decode cX10_frames 7 = .ok (.ifCond .eq 27, 3) := DX10_frames_0 (7, .ifCond .eq 27, 3) (List.mem_of_getElem? (i := 3) rfl)
theorem dX10_frames_10 : decode cX10_frames 10 = .ok (.iload_n 1, 1) := DX10_frames_0 (10, .iload_n 1, 1) (List.mem_of_getElem? (i := 4) rfl)
theorem dX10_frames_11 : decode cX10_frames 11 = .ok (.iconst 1, 1) := DX10_frames_0 (11, .iconst 1, 1) (List.mem_of_getElem? (i := 5) rfl)
theorem dX10_frames_12 : decode cX10_frames 12 = .ok (.if_icmp .lt 22, 3) := DX10_frames_0 (12, .if_icmp .lt 22, 3) (List.mem_of_getElem? (i := 6) rfl)
theorem dX10_frames_15 : decode cX10_frames 15 = .ok (.iload_n 1, 1) := DX10_frames_0 (15, .iload_n 1, 1) (List.mem_of_getElem? (i := 7) rfl)
theorem dX10_frames_16 : decode cX10_frames 16 = .ok (.bipush 8, 2) := DX10_frames_0 (16, .bipush 8, 2) (List.mem_of_getElem? (i := 8) rfl)
theorem dX10_frames_18 : decode cX10_frames 18 = .ok (.if_icmp .gt 16, 3) := DX10_frames_0 (18, .if_icmp .gt 16, 3) (List.mem_of_getElem? (i := 9) rfl)
theorem dX10_frames_21 : decode cX10_frames 21 = .ok (.aload_n 0, 1) := DX10_frames_0 (21, .aload_n 0, 1) (List.mem_of_getElem? (i := 10) rfl)
theorem dX10_frames_22 : decode cX10_frames 22 = .ok (.getfield 10, 3) := DX10_frames_0 (22, .getfield 10, 3) (List.mem_of_getElem? (i := 11) rfl)
theorem dX10_frames_25 : decode cX10_frames 25 = .ok (.getfield 41, 3) := DX10_frames_0 (25, .getfield 41, 3) (List.mem_of_getElem? (i := 12) rfl)
theorem dX10_frames_28 : decode cX10_frames 28 = .ok (.invokevirtual 45, 3) := DX10_frames_0 (28, .invokevirtual 45, 3) (List.mem_of_getElem? (i := 13) rfl)
theorem dX10_frames_31 : decode cX10_frames 31 = .ok (.ifCond .eq 5, 3) := DX10_frames_0 (31, .ifCond .eq 5, 3) (List.mem_of_getElem? (i := 14) rfl)
theorem dX10_frames_34 : decode cX10_frames 34 = .ok (.iconst 0, 1) := DX10_frames_0 (34, .iconst 0, 1) (List.mem_of_getElem? (i := 15) rfl)
theorem dX10_frames_35 : decode cX10_frames 35 = .ok (.ireturn, 1) := DX10_frames_0 (35, .ireturn, 1) (List.mem_of_getElem? (i := 16) rfl)
theorem dX10_frames_36 : decode cX10_frames 36 = .ok (.aload_n 0, 1) := DX10_frames_0 (36, .aload_n 0, 1) (List.mem_of_getElem? (i := 17) rfl)
theorem dX10_frames_37 : decode cX10_frames 37 = .ok (.getfield 10, 3) := DX10_frames_0 (37, .getfield 10, 3) (List.mem_of_getElem? (i := 18) rfl)
theorem dX10_frames_40 : decode cX10_frames 40 = .ok (.getfield 41, 3) := DX10_frames_0 (40, .getfield 41, 3) (List.mem_of_getElem? (i := 19) rfl)
theorem dX10_frames_43 : decode cX10_frames 43 = .ok (.iload_n 1, 1) := DX10_frames_0 (43, .iload_n 1, 1) (List.mem_of_getElem? (i := 20) rfl)
theorem dX10_frames_44 : decode cX10_frames 44 = .ok (.putfield 51, 3) := DX10_frames_0 (44, .putfield 51, 3) (List.mem_of_getElem? (i := 21) rfl)
theorem dX10_frames_47 : decode cX10_frames 47 = .ok (.iconst 1, 1) := DX10_frames_0 (47, .iconst 1, 1) (List.mem_of_getElem? (i := 22) rfl)
theorem dX10_frames_48 : decode cX10_frames 48 = .ok (.ireturn, 1) := DX10_frames_0 (48, .ireturn, 1) (List.mem_of_getElem? (i := 23) rfl)
set_option maxRecDepth 20000 in
theorem ggX10_write_X9_change : GoodIn wsX10_write wsX9_change := goodIn_r _ [6, 7, 8, 9, 10, 11, 12, 13, 14, 15, 5, 16, 17, 18, 19, 20, 21, 22, 23, 24, 25, 26, 27, 28, 29, 30, 31, 32, 33, 34, 35, 36, 37, 38, 39, 40, 41, 42, 43, 44, 45, 46, 47, 48, 49, 50, 51, 52, 53, 54, 55, 56, 57, 58, 59, 60, 61, 62, 63, 64, 65, 66, 67, 68, 69, 70, 71, 72, 73, 74, 75, 76, 77, 78, 79, 80, 81, 82, 83, 84, 85, 86, 87, 88, 89, 90, 91, 92, 93, 94, 95, 96, 97, 98, 99, 100, 101, 102, 103, 104, 105, 106, 107, 108, 109, 110, 111, 112, 113, 114, 115, 116, 117, 118, 119, 126, 127, 128, 129, 130, 131, 132, 133, 134, 135, 136, 137, 138, 139, 140, 141, 142, 143, 144, 145, 146, 147, 148, 149, 150, 151, 152, 153, 154, 155, 156, 157, 158, 159, 160, 161, 162] rfl (by decide +kernel)
set_option maxRecDepth 20000 in
theorem gX10_write_X9_change : GoodIn wsX10_write (wsV RX10 71 RX9 yX9_change wsX9_change) := goodIn_app (goodIn_of _ (by decide +kernel)) ggX10_write_X9_change
set_option maxRecDepth 100000 in
theorem DX10_act_0 : ∀ x ∈ ([(0, .iload_n 2, 1), (1, .tableswitch 80 0 4 #[35, 44, 53, 62, 71], 35), (36, .aload_n 0, 1), (37, .getfield 10, 3), (40, .iload_n 1, 1), (41, .invokevirtual 55, 3), (44, .ireturn, 1), (45, .aload_n 0, 1), (46, .getfield 10, 3), (49, .iload_n 1, 1), (50, .invokevirtual 59, 3), (53, .ireturn, 1), (54, .aload_n 0, 1), (55, .getfield 10, 3), (58, .iload_n 1, 1), (59, .invokevirtual 62, 3), (62, .ireturn, 1), (63, .aload_n 0, 1), (64, .getfield 10, 3), (67, .iload_n 1, 1), (68, .invokevirtual 65, 3), (71, .ireturn, 1), (72, .aload_n 0, 1), (73, .getfield 10, 3), (76, .iload_n 1, 1), (77, .invokevirtual 68, 3), (80, .ireturn, 1), (81, .iconst 0, 1), (82, .ireturn, 1)] : List (Nat × Instr × Nat)), decode cX10_act x.1 = .ok (x.2.1, x.2.2) := by decide +kernel
theorem dX10_act_0 : decode cX10_act 0 = .ok (.iload_n 2, 1) := DX10_act_0 (0, .iload_n 2, 1) (List.mem_of_getElem? (i := 0) rfl)
theorem dX10_act_1 : decode cX10_act 1 = .ok (.tableswitch 80 0 4 #[35, 44, 53, 62, 71], 35) := DX10_act_0 (1, .tableswitch 80 0 4 #[35, 44, 53, 62, 71], 35) (List.mem_of_getElem? (i := 1) rfl)
theorem dX10_act_36 : decode cX10_act 36 = .ok (.aload_n 0, 1) := DX10_act_0 (36, .aload_n 0, 1) (List.mem_of_getElem? (i := 2) rfl)
theorem dX10_act_37 : decode cX10_act 37 = .ok (.getfield 10, 3) := DX10_act_0 (37, .getfield 10, 3) (List.mem_of_getElem? (i := 3) rfl)
theorem dX10_act_40 : decode cX10_act 40 = .ok (.iload_n 1, 1) := DX10_act_0 (40, .iload_n 1, 1) (List.mem_of_getElem? (i := 4) rfl)
theorem dX10_act_41 : decode cX10_act 41 = .ok (.invokevirtual 55, 3) := DX10_act_0 (41, .invokevirtual 55, 3) (List.mem_of_getElem? (i := 5) rfl)
theorem dX10_act_44 : decode cX10_act 44 = .ok (.ireturn, 1) := DX10_act_0 (44, .ireturn, 1) (List.mem_of_getElem? (i := 6) rfl)
theorem dX10_act_45 : decode cX10_act 45 = .ok (.aload_n 0, 1) := DX10_act_0 (45, .aload_n 0, 1) (List.mem_of_getElem? (i := 7) rfl)
theorem dX10_act_46 : decode cX10_act 46 = .ok (.getfield 10, 3) := DX10_act_0 (46, .getfield 10, 3) (List.mem_of_getElem? (i := 8) rfl)
theorem dX10_act_49 : decode cX10_act 49 = .ok (.iload_n 1, 1) := DX10_act_0 (49, .iload_n 1, 1) (List.mem_of_getElem? (i := 9) rfl)
theorem dX10_act_50 : decode cX10_act 50 = .ok (.invokevirtual 59, 3) := DX10_act_0 (50, .invokevirtual 59, 3) (List.mem_of_getElem? (i := 10) rfl)
theorem dX10_act_53 : decode cX10_act 53 = .ok (.ireturn, 1) := DX10_act_0 (53, .ireturn, 1) (List.mem_of_getElem? (i := 11) rfl)
theorem dX10_act_54 : decode cX10_act 54 = .ok (.aload_n 0, 1) := DX10_act_0 (54, .aload_n 0, 1) (List.mem_of_getElem? (i := 12) rfl)
theorem dX10_act_55 : decode cX10_act 55 = .ok (.getfield 10, 3) := DX10_act_0 (55, .getfield 10, 3) (List.mem_of_getElem? (i := 13) rfl)
theorem dX10_act_58 : decode cX10_act 58 = .ok (.iload_n 1, 1) := DX10_act_0 (58, .iload_n 1, 1) (List.mem_of_getElem? (i := 14) rfl)
theorem dX10_act_59 : decode cX10_act 59 = .ok (.invokevirtual 62, 3) := DX10_act_0 (59, .invokevirtual 62, 3) (List.mem_of_getElem? (i := 15) rfl)
theorem dX10_act_62 : decode cX10_act 62 = .ok (.ireturn, 1) := DX10_act_0 (62, .ireturn, 1) (List.mem_of_getElem? (i := 16) rfl)
theorem dX10_act_63 : decode cX10_act 63 = .ok (.aload_n 0, 1) := DX10_act_0 (63, .aload_n 0, 1) (List.mem_of_getElem? (i := 17) rfl)
theorem dX10_act_64 : decode cX10_act 64 = .ok (.getfield 10, 3) := DX10_act_0 (64, .getfield 10, 3) (List.mem_of_getElem? (i := 18) rfl)
theorem dX10_act_67 : decode cX10_act 67 = .ok (.iload_n 1, 1) := DX10_act_0 (67, .iload_n 1, 1) (List.mem_of_getElem? (i := 19) rfl)
theorem dX10_act_68 : decode cX10_act 68 = .ok (.invokevirtual 65, 3) := DX10_act_0 (68, .invokevirtual 65, 3) (List.mem_of_getElem? (i := 20) rfl)
theorem dX10_act_71 : decode cX10_act 71 = .ok (.ireturn, 1) := DX10_act_0 (71, .ireturn, 1) (List.mem_of_getElem? (i := 21) rfl)
theorem dX10_act_72 : decode cX10_act 72 = .ok (.aload_n 0, 1) := DX10_act_0 (72, .aload_n 0, 1) (List.mem_of_getElem? (i := 22) rfl)
theorem dX10_act_73 : decode cX10_act 73 = .ok (.getfield 10, 3) := DX10_act_0 (73, .getfield 10, 3) (List.mem_of_getElem? (i := 23) rfl)
theorem dX10_act_76 : decode cX10_act 76 = .ok (.iload_n 1, 1) := DX10_act_0 (76, .iload_n 1, 1) (List.mem_of_getElem? (i := 24) rfl)
theorem dX10_act_77 : decode cX10_act 77 = .ok (.invokevirtual 68, 3) := DX10_act_0 (77, .invokevirtual 68, 3) (List.mem_of_getElem? (i := 25) rfl)
theorem dX10_act_80 : decode cX10_act 80 = .ok (.ireturn, 1) := DX10_act_0 (80, .ireturn, 1) (List.mem_of_getElem? (i := 26) rfl)
theorem dX10_act_81 : decode cX10_act 81 = .ok (.iconst 0, 1) := DX10_act_0 (81, .iconst 0, 1) (List.mem_of_getElem? (i := 27) rfl)
theorem dX10_act_82 : decode cX10_act 82 = .ok (.ireturn, 1) := DX10_act_0 (82, .ireturn, 1) (List.mem_of_getElem? (i := 28) rfl)
set_option maxRecDepth 20000 in
theorem ggX10_add_X9_change : GoodIn wsX10_add wsX9_change := goodIn_r _ [6, 7, 8, 9, 10, 11, 12, 13, 14, 15, 5, 16, 17, 18, 19, 20, 21, 22, 23, 24, 25, 26, 27, 28, 29, 30, 31, 32, 33, 34, 35, 36, 37, 38, 39, 40, 41, 42, 43, 44, 45, 46, 47, 48, 49, 50, 51, 52, 53, 54, 55, 56, 57, 58, 59, 60, 61, 62, 63, 64, 65, 66, 67, 68, 69, 70, 71, 72, 73, 74, 75, 76, 77, 78, 79, 80, 81, 82, 83, 84, 85, 86, 87, 88, 89, 90, 91, 92, 93, 94, 95, 96, 97, 98, 99, 100, 101, 102, 103, 104, 105, 106, 107, 108, 109, 110, 111, 112, 113, 114, 115, 116, 117, 118, 119, 126, 127, 128, 129, 130, 131, 132, 133, 134, 135, 136, 137, 138, 139, 140, 141, 142, 143, 144, 145, 146, 147, 148, 149, 150, 151, 152, 153, 154, 155, 156, 157, 158, 159, 160, 161, 162] rfl (by decide +kernel)
set_option maxRecDepth 20000 in
theorem gX10_add_X9_change : GoodIn wsX10_add (wsV RX10 71 RX9 yX9_change wsX9_change) := goodIn_app (goodIn_of _ (by decide +kernel)) ggX10_add_X9_change
set_option maxRecDepth 100000 in
theorem DX10_write_0 : ∀ x ∈ ([(0, .aload_n 0, 1), (1, .getfield 10, 3), (4, .iload_n 1, 1), (5, .iload_n 2, 1), (6, .iload_n 3, 1), (7, .iconst 2, 1), (8, .invokevirtual 71, 3), (11, .ireturn, 1)] : List (Nat × Instr × Nat)), decode cX10_write x.1 = .ok (x.2.1, x.2.2) := by decide +kernel
theorem dX10_write_0 : decode cX10_write 0 = .ok (.aload_n 0, 1) := DX10_write_0 (0, .aload_n 0, 1) (List.mem_of_getElem? (i := 0) rfl)
theorem dX10_write_1 : decode cX10_write 1 = .ok (.getfield 10, 3) := DX10_write_0 (1, .getfield 10, 3) (List.mem_of_getElem? (i := 1) rfl)
theorem dX10_write_4 : decode cX10_write 4 = .ok (.iload_n 1, 1) := DX10_write_0 (4, .iload_n 1, 1) (List.mem_of_getElem? (i := 2) rfl)
theorem dX10_write_5 : decode cX10_write 5 = .ok (.iload_n 2, 1) := DX10_write_0 (5, .iload_n 2, 1) (List.mem_of_getElem? (i := 3) rfl)
theorem dX10_write_6 : decode cX10_write 6 = .ok (.iload_n 3, 1) := DX10_write_0 (6, .iload_n 3, 1) (List.mem_of_getElem? (i := 4) rfl)
theorem dX10_write_7 : decode cX10_write 7 = .ok (.iconst 2, 1) := DX10_write_0 (7, .iconst 2, 1) (List.mem_of_getElem? (i := 5) rfl)
theorem dX10_write_8 : decode cX10_write 8 = .ok (.invokevirtual 71, 3) := DX10_write_0 (8, .invokevirtual 71, 3) (List.mem_of_getElem? (i := 6) rfl)
theorem dX10_write_11 : decode cX10_write 11 = .ok (.ireturn, 1) := DX10_write_0 (11, .ireturn, 1) (List.mem_of_getElem? (i := 7) rfl)
set_option maxRecDepth 20000 in
theorem ggX10_save_X9_putSave : GoodIn wsX10_save wsX9_putSave := goodIn_r _ [6, 7, 8, 9, 10, 11, 12, 13, 5, 14, 15, 16, 17, 18, 19, 20, 21, 22, 23, 24, 25, 32, 33, 34, 35, 36, 37, 38, 39, 40, 41, 42, 43, 44, 45, 46, 47, 48, 49, 50, 51, 52] rfl (by decide +kernel)
set_option maxRecDepth 20000 in
theorem gX10_save_X9_putSave : GoodIn wsX10_save (wsV RX10 75 RX9 yX9_putSave wsX9_putSave) := goodIn_app (goodIn_of _ (by decide +kernel)) ggX10_save_X9_putSave
set_option maxRecDepth 100000 in
theorem DX10_add_0 : ∀ x ∈ ([(0, .aload_n 0, 1), (1, .getfield 10, 3), (4, .iload_n 1, 1), (5, .iload_n 2, 1), (6, .iload_n 3, 1), (7, .iconst 3, 1), (8, .invokevirtual 71, 3), (11, .ireturn, 1)] : List (Nat × Instr × Nat)), decode cX10_add x.1 = .ok (x.2.1, x.2.2) := by decide +kernel
theorem dX10_add_0 : decode cX10_add 0 = .ok (.aload_n 0, 1) := DX10_add_0 (0, .aload_n 0, 1) (List.mem_of_getElem? (i := 0) rfl)
theorem dX10_add_1 : decode cX10_add 1 = .ok (.getfield 10, 3) := DX10_add_0 (1, .getfield 10, 3) (List.mem_of_getElem? (i := 1) rfl)
theorem dX10_add_4 : decode cX10_add 4 = .ok (.iload_n 1, 1) := DX10_add_0 (4, .iload_n 1, 1) (List.mem_of_getElem? (i := 2) rfl)
theorem dX10_add_5 : decode cX10_add 5 = .ok (.iload_n 2, 1) := DX10_add_0 (5, .iload_n 2, 1) (List.mem_of_getElem? (i := 3) rfl)
theorem dX10_add_6 : decode cX10_add 6 = .ok (.iload_n 3, 1) := DX10_add_0 (6, .iload_n 3, 1) (List.mem_of_getElem? (i := 4) rfl)
theorem dX10_add_7 : decode cX10_add 7 = .ok (.iconst 3, 1) := DX10_add_0 (7, .iconst 3, 1) (List.mem_of_getElem? (i := 5) rfl)
theorem dX10_add_8 : decode cX10_add 8 = .ok (.invokevirtual 71, 3) := DX10_add_0 (8, .invokevirtual 71, 3) (List.mem_of_getElem? (i := 6) rfl)
theorem dX10_add_11 : decode cX10_add 11 = .ok (.ireturn, 1) := DX10_add_0 (11, .ireturn, 1) (List.mem_of_getElem? (i := 7) rfl)
set_option maxRecDepth 20000 in
theorem ggX10_back_X9_goBack : GoodIn wsX10_back wsX9_goBack := goodIn_r _ [6, 7, 8, 9, 10, 11, 12, 13, 14, 15, 16, 5, 17, 18, 19, 20, 21, 22, 23, 24, 25, 26, 27, 28, 29, 30, 31, 32, 33, 34, 35, 36, 37, 38, 39, 40, 41, 42, 43, 44, 45, 46, 47, 48, 49, 50, 51, 52, 53, 54, 55, 56, 57, 58, 59, 60, 61, 62, 63, 64, 65, 66, 67, 68, 69, 70, 71, 72, 73, 74, 75, 76, 77, 78, 79, 80, 81, 82, 83, 84, 85, 86, 87, 88, 89, 90, 91, 92, 93, 94, 95, 96, 97, 98, 99, 100, 101, 102, 103, 104, 105, 106, 107, 108, 109, 110, 111, 112, 113, 114, 115, 116, 117, 118, 119, 120, 121, 122, 123, 124, 125, 126, 127, 128, 129, 130, 131, 132, 133, 140, 141, 142, 143, 144, 145, 146, 147, 148, 149, 150, 151, 152, 153, 154, 155, 156, 157, 158, 159, 160, 161, 162, 163, 164, 165, 166, 167, 168, 169, 170, 171, 172, 173, 174, 175, 176] rfl (by decide +kernel)
set_option maxRecDepth 20000 in
theorem gX10_back_X9_goBack : GoodIn wsX10_back (wsV RX10 79 RX9 yX9_goBack wsX9_goBack) := goodIn_app (goodIn_of _ (by decide +kernel)) ggX10_back_X9_goBack
set_option maxRecDepth 100000 in
theorem DX10_save_0 : ∀ x ∈ ([(0, .aload_n 0, 1), (1, .getfield 10, 3), (4, .iload_n 1, 1), (5, .invokevirtual 75, 3), (8, .ireturn, 1)] : List (Nat × Instr × Nat)), decode cX10_save x.1 = .ok (x.2.1, x.2.2) := by decide +kernel
theorem dX10_save_0 : decode cX10_save 0 = .ok (.aload_n 0, 1) := DX10_save_0 (0, .aload_n 0, 1) (List.mem_of_getElem? (i := 0) rfl)
theorem dX10_save_1 : decode cX10_save 1 = .ok (.getfield 10, 3) := DX10_save_0 (1, .getfield 10, 3) (List.mem_of_getElem? (i := 1) rfl)
theorem dX10_save_4 : decode cX10_save 4 = .ok (.iload_n 1, 1) := DX10_save_0 (4, .iload_n 1, 1) (List.mem_of_getElem? (i := 2) rfl)
theorem dX10_save_5 : decode cX10_save 5 = .ok (.invokevirtual 75, 3) := DX10_save_0 (5, .invokevirtual 75, 3) (List.mem_of_getElem? (i := 3) rfl)
theorem dX10_save_8 : decode cX10_save 8 = .ok (.ireturn, 1) := DX10_save_0 (8, .ireturn, 1) (List.mem_of_getElem? (i := 4) rfl)
set_option maxRecDepth 20000 in
theorem ggX10_roll_X9_rollBack : GoodIn wsX10_roll wsX9_rollBack := goodIn_r _ [6, 7, 8, 9, 10, 11, 12, 13, 14, 15, 16, 17, 18, 19, 20, 21, 22, 23, 24, 25, 26, 27, 28, 29, 30, 31, 32, 33, 34, 35, 36, 37, 38, 39, 40, 5, 41, 42, 43, 44, 45, 46, 47, 48, 49, 50, 51, 52, 53, 54, 55, 56, 57, 58, 59, 60, 61, 62, 63, 64, 65, 66, 67, 68, 69, 70, 71, 72, 73, 74, 75, 76, 77, 78, 79, 80, 81, 82, 83, 84, 85, 86, 87, 88, 89, 90, 91, 92, 93, 94, 95, 96, 97, 98, 99, 100, 101, 102, 103, 104, 105, 106, 107, 108, 109, 110, 111, 112, 113, 114, 115, 116, 117, 118, 119, 120, 121, 122, 123, 124, 125, 126, 127, 128, 129, 130, 131, 132, 133, 134, 135, 136, 137, 138, 139, 140, 141, 142, 143, 144, 145, 146, 147, 148, 149, 156, 157, 158, 159, 160, 161, 162, 163, 164, 165, 166, 167, 168, 169, 170, 171, 172, 173, 174, 175, 176, 177, 178, 179, 180, 181, 182, 183, 184, 185, 186, 187, 188, 189, 190, 191, 192] rfl (by decide +kernel)
set_option maxRecDepth 20000 in
theorem gX10_roll_X9_rollBack : GoodIn wsX10_roll (wsV RX10 83 RX9 yX9_rollBack wsX9_rollBack) := goodIn_app (goodIn_of _ (by decide +kernel)) ggX10_roll_X9_rollBack
set_option maxRecDepth 100000 in
theorem DX10_back_0 : ∀ x ∈ ([(0, .aload_n 0, 1), (1, .getfield 10, 3), (4, .iload_n 1, 1), (5, .iload_n 2, 1), (6, .invokevirtual 79, 3), (9, .ireturn, 1)] : List (Nat × Instr × Nat)), decode cX10_back x.1 = .ok (x.2.1, x.2.2) := by decide +kernel
theorem dX10_back_0 : decode cX10_back 0 = .ok (.aload_n 0, 1) := DX10_back_0 (0, .aload_n 0, 1) (List.mem_of_getElem? (i := 0) rfl)
theorem dX10_back_1 : decode cX10_back 1 = .ok (.getfield 10, 3) := DX10_back_0 (1, .getfield 10, 3) (List.mem_of_getElem? (i := 1) rfl)
theorem dX10_back_4 : decode cX10_back 4 = .ok (.iload_n 1, 1) := DX10_back_0 (4, .iload_n 1, 1) (List.mem_of_getElem? (i := 2) rfl)
theorem dX10_back_5 : decode cX10_back 5 = .ok (.iload_n 2, 1) := DX10_back_0 (5, .iload_n 2, 1) (List.mem_of_getElem? (i := 3) rfl)
theorem dX10_back_6 : decode cX10_back 6 = .ok (.invokevirtual 79, 3) := DX10_back_0 (6, .invokevirtual 79, 3) (List.mem_of_getElem? (i := 4) rfl)
theorem dX10_back_9 : decode cX10_back 9 = .ok (.ireturn, 1) := DX10_back_0 (9, .ireturn, 1) (List.mem_of_getElem? (i := 5) rfl)
set_option maxRecDepth 20000 in
theorem ggX10_keep_X9_flush : GoodIn wsX10_keep wsX9_flush := goodIn_r _ [6, 7, 8, 9, 10, 11, 12, 13, 14, 15, 16, 17, 18, 19, 20, 21, 22, 23, 24, 25, 26, 27, 28, 29, 30, 31, 32, 33, 34, 35, 36, 37, 38, 39, 40, 41, 42, 43, 44, 189, 190, 191, 192, 193, 194, 195, 196, 197, 198, 199, 200, 201, 202, 203] rfl (by decide +kernel)
set_option maxRecDepth 20000 in
theorem gX10_keep_X9_flush : GoodIn wsX10_keep (wsV RX10 86 RX9 yX9_flush wsX9_flush) := goodIn_app (goodIn_of _ (by decide +kernel)) ggX10_keep_X9_flush
set_option maxRecDepth 20000 in
theorem ggX10_keep_X9_writePage : GoodIn wsX10_keep wsX9_writePage := goodIn_r _ [48, 7, 49, 50, 8, 51, 52, 53, 54, 55, 56, 57, 58, 59, 60, 61, 62, 63, 64, 65, 66, 67, 68, 69, 70, 71, 72, 73, 74, 42, 43, 12, 44, 40, 20, 21, 22, 23, 14, 19, 189, 190, 191, 192, 193, 194, 195, 196, 197, 198, 199, 204, 205, 206, 207, 208, 209, 210, 211, 212, 213, 214, 215, 200, 201, 202, 203] rfl (by decide +kernel)
set_option maxRecDepth 20000 in
theorem gX10_keep_X9_writePage : GoodIn wsX10_keep (wsV RX10 89 RX9 yX9_writePage wsX9_writePage) := goodIn_app (goodIn_of _ (by decide +kernel)) ggX10_keep_X9_writePage
set_option maxRecDepth 20000 in
theorem ggX10_keep_X9_checkBegins : GoodIn wsX10_keep wsX9_checkBegins := goodIn_r _ [78, 7, 79, 8, 80, 81, 82, 5, 83, 84, 85, 86, 87, 12, 88, 14, 89, 90, 91, 92, 93, 19, 94, 95, 96, 97, 189, 190, 191, 192, 193, 194, 195, 196, 197, 198, 199, 200, 201, 202, 203] rfl (by decide +kernel)
set_option maxRecDepth 20000 in
theorem gX10_keep_X9_checkBegins : GoodIn wsX10_keep (wsV RX10 92 RX9 yX9_checkBegins wsX9_checkBegins) := goodIn_app (goodIn_of _ (by decide +kernel)) ggX10_keep_X9_checkBegins
set_option maxRecDepth 20000 in
theorem ggX10_keep_X9_checkEnds : GoodIn wsX10_keep wsX9_checkEnds := goodIn_r _ [101, 7, 79, 8, 102, 103, 104, 49, 50, 105, 80, 81, 82, 5, 83, 84, 85, 86, 87, 12, 88, 14, 89, 90, 91, 92, 93, 19, 106, 107, 108, 109, 110, 111, 112, 113, 114, 115, 116, 117, 118, 119, 120, 121, 122, 123, 124, 125, 126, 57, 127, 73, 54, 55, 56, 58, 59, 60, 94, 95, 96, 97, 41, 42, 43, 44, 40, 20, 21, 22, 23, 189, 190, 191, 192, 193, 194, 195, 196, 197, 198, 199, 216, 217, 218, 204, 205, 206, 207, 208, 209, 210, 211, 212, 213, 214, 215, 200, 201, 202, 203] rfl (by decide +kernel)
set_option maxRecDepth 20000 in
theorem gX10_keep_X9_checkEnds : GoodIn wsX10_keep (wsV RX10 95 RX9 yX9_checkEnds wsX9_checkEnds) := goodIn_app (goodIn_of _ (by decide +kernel)) ggX10_keep_X9_checkEnds
set_option maxRecDepth 20000 in
theorem ggX10_keep_X9_dumpPage : GoodIn wsX10_keep wsX9_dumpPage := goodIn_r _ [131, 7, 49, 51, 52, 53, 132, 133, 134, 57, 135, 136, 137, 138, 139, 140, 67, 141, 68, 69, 70, 71, 142, 72, 189, 190, 191, 192, 193, 194, 195, 196, 197, 198, 199, 204, 205, 206, 207, 208, 209, 210, 211, 212, 213, 214, 215] rfl (by decide +kernel)
set_option maxRecDepth 20000 in
theorem gX10_keep_X9_dumpPage : GoodIn wsX10_keep (wsV RX10 98 RX9 yX9_dumpPage wsX9_dumpPage) := goodIn_app (goodIn_of _ (by decide +kernel)) ggX10_keep_X9_dumpPage
set_option maxRecDepth 20000 in
theorem ggX10_keep_X9_losePage : GoodIn wsX10_keep wsX9_losePage := goodIn_r _ [146, 7, 49, 147, 51, 52, 53, 132, 133, 134, 57, 135, 136, 54, 55, 56, 58, 59, 60, 148, 149, 150, 151, 152, 153, 154, 155, 156, 157, 158, 67, 72, 189, 190, 191, 192, 193, 194, 195, 196, 197, 198, 199, 204, 205, 206, 207, 208, 209, 210, 211, 212, 213, 214, 215, 219, 220, 221, 222, 223, 224, 225] rfl (by decide +kernel)
set_option maxRecDepth 20000 in
theorem gX10_keep_X9_losePage : GoodIn wsX10_keep (wsV RX10 101 RX9 yX9_losePage wsX9_losePage) := goodIn_app (goodIn_of _ (by decide +kernel)) ggX10_keep_X9_losePage
set_option maxRecDepth 20000 in
theorem ggX10_keep_X9_restorePage : GoodIn wsX10_keep wsX9_restorePage := goodIn_r _ [162, 7, 49, 8, 51, 52, 53, 132, 133, 134, 57, 135, 136, 163, 164, 165, 166, 141, 67, 68, 69, 70, 71, 72, 142, 167, 168, 37, 38, 12, 39, 14, 40, 169, 16, 17, 18, 19, 20, 21, 22, 23, 24, 25, 26, 27, 170, 171, 172, 173, 174, 175, 176, 177, 178, 179, 180, 181, 182, 29, 30, 31, 32, 33, 34, 35, 189, 190, 191, 192, 193, 194, 195, 196, 197, 198, 199, 204, 205, 206, 207, 208, 209, 210, 211, 212, 213, 214, 215, 200, 201, 202, 203] rfl (by decide +kernel)
set_option maxRecDepth 20000 in
theorem gX10_keep_X9_restorePage : GoodIn wsX10_keep (wsV RX10 104 RX9 yX9_restorePage wsX9_restorePage) := goodIn_app (goodIn_of _ (by decide +kernel)) ggX10_keep_X9_restorePage
set_option maxRecDepth 100000 in
theorem DX10_roll_0 : ∀ x ∈ ([(0, .iload_n 2, 1), (1, .iconst 1, 1), (2, .if_icmp .lt 9, 3), (5, .iload_n 2, 1), (6, .bipush 20, 2), (8, .if_icmp .le 7, 3), (11, .iconst (-1), 1), (12, .goto 12, 3), (15, .aload_n 0, 1), (16, .getfield 10, 3), (19, .iload_n 1, 1), (20, .iload_n 2, 1), (21, .invokevirtual 83, 3), (24, .ireturn, 1)] : List (Nat × Instr × Nat)), decode cX10_roll x.1 = .ok (x.2.1, x.2.2) := by decide +kernel
theorem dX10_roll_0 : decode cX10_roll 0 = .ok (.iload_n 2, 1) := DX10_roll_0 (0, .iload_n 2, 1) (List.mem_of_getElem? (i := 0) rfl)
theorem dX10_roll_1 : decode cX10_roll 1 = .ok (.iconst 1, 1) := DX10_roll_0 (1, .iconst 1, 1) (List.mem_of_getElem? (i := 1) rfl)
theorem dX10_roll_2 : decode cX10_roll 2 = .ok (.if_icmp .lt 9, 3) := DX10_roll_0 (2, .if_icmp .lt 9, 3) (List.mem_of_getElem? (i := 2) rfl)
theorem dX10_roll_5 : decode cX10_roll 5 = .ok (.iload_n 2, 1) := DX10_roll_0 (5, .iload_n 2, 1) (List.mem_of_getElem? (i := 3) rfl)
theorem dX10_roll_6 : decode cX10_roll 6 = .ok (.bipush 20, 2) := DX10_roll_0 (6, .bipush 20, 2) (List.mem_of_getElem? (i := 4) rfl)
theorem dX10_roll_8 : decode cX10_roll 8 = .ok (.if_icmp .le 7, 3) := DX10_roll_0 (8, .if_icmp .le 7, 3) (List.mem_of_getElem? (i := 5) rfl)
theorem dX10_roll_11 : decode cX10_roll 11 = .ok (.iconst (-1), 1) := DX10_roll_0 (11, .iconst (-1), 1) (List.mem_of_getElem? (i := 6) rfl)
theorem dX10_roll_12 : decode cX10_roll 12 = .ok (.goto 12, 3) := DX10_roll_0 (12, .goto 12, 3) (List.mem_of_getElem? (i := 7) rfl)
theorem dX10_roll_15 : decode cX10_roll 15 = .ok (.aload_n 0, 1) := DX10_roll_0 (15, .aload_n 0, 1) (List.mem_of_getElem? (i := 8) rfl)
theorem dX10_roll_16 : decode cX10_roll 16 = .ok (.getfield 10, 3) := DX10_roll_0 (16, .getfield 10, 3) (List.mem_of_getElem? (i := 9) rfl)
theorem dX10_roll_19 : decode cX10_roll 19 = .ok (.iload_n 1, 1) := DX10_roll_0 (19, .iload_n 1, 1) (List.mem_of_getElem? (i := 10) rfl)
theorem dX10_roll_20 : decode cX10_roll 20 = .ok (.iload_n 2, 1) := DX10_roll_0 (20, .iload_n 2, 1) (List.mem_of_getElem? (i := 11) rfl)
theorem dX10_roll_21 : decode cX10_roll 21 = .ok (.invokevirtual 83, 3) := DX10_roll_0 (21, .invokevirtual 83, 3) (List.mem_of_getElem? (i := 12) rfl)
theorem dX10_roll_24 : decode cX10_roll 24 = .ok (.ireturn, 1) := DX10_roll_0 (24, .ireturn, 1) (List.mem_of_getElem? (i := 13) rfl)
set_option maxRecDepth 20000 in
theorem ggX10_crash_X9_fall : GoodIn wsX10_crash wsX9_fall := goodIn_r _ [7, 8, 9, 10, 11, 12, 13, 14, 15, 16, 17, 18, 19, 20, 21, 22, 23, 24, 25, 26, 27, 28, 29, 30, 31, 32, 33, 34, 35, 36, 37, 38, 39, 40, 41, 42, 43, 44, 45, 46, 47, 48, 49, 50, 51, 52, 53, 54, 55, 56, 57, 58, 65, 66, 67, 68, 69, 70, 71, 72, 73, 74, 75, 76, 77, 78, 79, 80, 81, 82, 83, 84, 85, 86, 87, 88, 89, 90, 91, 92, 93, 94, 95, 96, 97, 98, 99, 100, 101] rfl (by decide +kernel)
set_option maxRecDepth 20000 in
theorem gX10_crash_X9_fall : GoodIn wsX10_crash (wsV RX10 107 RX9 yX9_fall wsX9_fall) := goodIn_app (goodIn_of _ (by decide +kernel)) ggX10_crash_X9_fall
set_option maxRecDepth 100000 in
theorem DX10_keep_0 : ∀ x ∈ ([(0, .iload_n 1, 1), (1, .tableswitch 104 0 6 #[43, 52, 61, 69, 77, 86, 95], 43), (44, .aload_n 0, 1), (45, .getfield 10, 3), (48, .iload_n 2, 1), (49, .invokevirtual 86, 3), (52, .ireturn, 1), (53, .aload_n 0, 1), (54, .getfield 10, 3), (57, .iload_n 2, 1), (58, .invokevirtual 89, 3), (61, .ireturn, 1), (62, .aload_n 0, 1), (63, .getfield 10, 3), (66, .invokevirtual 92, 3), (69, .ireturn, 1), (70, .aload_n 0, 1), (71, .getfield 10, 3), (74, .invokevirtual 95, 3), (77, .ireturn, 1), (78, .aload_n 0, 1), (79, .getfield 10, 3), (82, .iload_n 2, 1), (83, .invokevirtual 98, 3), (86, .ireturn, 1), (87, .aload_n 0, 1), (88, .getfield 10, 3), (91, .iload_n 2, 1), (92, .invokevirtual 101, 3), (95, .ireturn, 1), (96, .aload_n 0, 1), (97, .getfield 10, 3), (100, .iload_n 2, 1), (101, .invokevirtual 104, 3), (104, .ireturn, 1), (105, .iconst 0, 1), (106, .ireturn, 1)] : List (Nat × Instr × Nat)), decode cX10_keep x.1 = .ok (x.2.1, x.2.2) := by decide +kernel
theorem dX10_keep_0 : decode cX10_keep 0 = .ok (.iload_n 1, 1) := DX10_keep_0 (0, .iload_n 1, 1) (List.mem_of_getElem? (i := 0) rfl)
theorem dX10_keep_1 : decode cX10_keep 1 = .ok (.tableswitch 104 0 6 #[43, 52, 61, 69, 77, 86, 95], 43) := DX10_keep_0 (1, .tableswitch 104 0 6 #[43, 52, 61, 69, 77, 86, 95], 43) (List.mem_of_getElem? (i := 1) rfl)
theorem dX10_keep_44 : decode cX10_keep 44 = .ok (.aload_n 0, 1) := DX10_keep_0 (44, .aload_n 0, 1) (List.mem_of_getElem? (i := 2) rfl)
theorem dX10_keep_45 : decode cX10_keep 45 = .ok (.getfield 10, 3) := DX10_keep_0 (45, .getfield 10, 3) (List.mem_of_getElem? (i := 3) rfl)
theorem dX10_keep_48 : decode cX10_keep 48 = .ok (.iload_n 2, 1) := DX10_keep_0 (48, .iload_n 2, 1) (List.mem_of_getElem? (i := 4) rfl)
theorem dX10_keep_49 : decode cX10_keep 49 = .ok (.invokevirtual 86, 3) := DX10_keep_0 (49, .invokevirtual 86, 3) (List.mem_of_getElem? (i := 5) rfl)
theorem dX10_keep_52 : decode cX10_keep 52 = .ok (.ireturn, 1) := DX10_keep_0 (52, .ireturn, 1) (List.mem_of_getElem? (i := 6) rfl)
theorem dX10_keep_53 : decode cX10_keep 53 = .ok (.aload_n 0, 1) := DX10_keep_0 (53, .aload_n 0, 1) (List.mem_of_getElem? (i := 7) rfl)
theorem dX10_keep_54 : decode cX10_keep 54 = .ok (.getfield 10, 3) := DX10_keep_0 (54, .getfield 10, 3) (List.mem_of_getElem? (i := 8) rfl)
theorem dX10_keep_57 : decode cX10_keep 57 = .ok (.iload_n 2, 1) := DX10_keep_0 (57, .iload_n 2, 1) (List.mem_of_getElem? (i := 9) rfl)
theorem dX10_keep_58 : decode cX10_keep 58 = .ok (.invokevirtual 89, 3) := DX10_keep_0 (58, .invokevirtual 89, 3) (List.mem_of_getElem? (i := 10) rfl)
theorem dX10_keep_61 : decode cX10_keep 61 = .ok (.ireturn, 1) := DX10_keep_0 (61, .ireturn, 1) (List.mem_of_getElem? (i := 11) rfl)
theorem dX10_keep_62 : decode cX10_keep 62 = .ok (.aload_n 0, 1) := DX10_keep_0 (62, .aload_n 0, 1) (List.mem_of_getElem? (i := 12) rfl)
theorem dX10_keep_63 : decode cX10_keep 63 = .ok (.getfield 10, 3) := DX10_keep_0 (63, .getfield 10, 3) (List.mem_of_getElem? (i := 13) rfl)
theorem dX10_keep_66 : decode cX10_keep 66 = .ok (.invokevirtual 92, 3) := DX10_keep_0 (66, .invokevirtual 92, 3) (List.mem_of_getElem? (i := 14) rfl)
theorem dX10_keep_69 : decode cX10_keep 69 = .ok (.ireturn, 1) := DX10_keep_0 (69, .ireturn, 1) (List.mem_of_getElem? (i := 15) rfl)
theorem dX10_keep_70 : decode cX10_keep 70 = .ok (.aload_n 0, 1) := DX10_keep_0 (70, .aload_n 0, 1) (List.mem_of_getElem? (i := 16) rfl)
theorem dX10_keep_71 : decode cX10_keep 71 = .ok (.getfield 10, 3) := DX10_keep_0 (71, .getfield 10, 3) (List.mem_of_getElem? (i := 17) rfl)
theorem dX10_keep_74 : decode cX10_keep 74 = .ok (.invokevirtual 95, 3) := DX10_keep_0 (74, .invokevirtual 95, 3) (List.mem_of_getElem? (i := 18) rfl)
theorem dX10_keep_77 : decode cX10_keep 77 = .ok (.ireturn, 1) := DX10_keep_0 (77, .ireturn, 1) (List.mem_of_getElem? (i := 19) rfl)
theorem dX10_keep_78 : decode cX10_keep 78 = .ok (.aload_n 0, 1) := DX10_keep_0 (78, .aload_n 0, 1) (List.mem_of_getElem? (i := 20) rfl)
theorem dX10_keep_79 : decode cX10_keep 79 = .ok (.getfield 10, 3) := DX10_keep_0 (79, .getfield 10, 3) (List.mem_of_getElem? (i := 21) rfl)
theorem dX10_keep_82 : decode cX10_keep 82 = .ok (.iload_n 2, 1) := DX10_keep_0 (82, .iload_n 2, 1) (List.mem_of_getElem? (i := 22) rfl)
theorem dX10_keep_83 : decode cX10_keep 83 = .ok (.invokevirtual 98, 3) := DX10_keep_0 (83, .invokevirtual 98, 3) (List.mem_of_getElem? (i := 23) rfl)
theorem dX10_keep_86 : decode cX10_keep 86 = .ok (.ireturn, 1) := DX10_keep_0 (86, .ireturn, 1) (List.mem_of_getElem? (i := 24) rfl)
theorem dX10_keep_87 : decode cX10_keep 87 = .ok (.aload_n 0, 1) := DX10_keep_0 (87, .aload_n 0, 1) (List.mem_of_getElem? (i := 25) rfl)
theorem dX10_keep_88 : decode cX10_keep 88 = .ok (.getfield 10, 3) := DX10_keep_0 (88, .getfield 10, 3) (List.mem_of_getElem? (i := 26) rfl)
theorem dX10_keep_91 : decode cX10_keep 91 = .ok (.iload_n 2, 1) := DX10_keep_0 (91, .iload_n 2, 1) (List.mem_of_getElem? (i := 27) rfl)
theorem dX10_keep_92 : decode cX10_keep 92 = .ok (.invokevirtual 101, 3) := DX10_keep_0 (92, .invokevirtual 101, 3) (List.mem_of_getElem? (i := 28) rfl)
theorem dX10_keep_95 : decode cX10_keep 95 = .ok (.ireturn, 1) := DX10_keep_0 (95, .ireturn, 1) (List.mem_of_getElem? (i := 29) rfl)
theorem dX10_keep_96 : decode cX10_keep 96 = .ok (.aload_n 0, 1) := DX10_keep_0 (96, .aload_n 0, 1) (List.mem_of_getElem? (i := 30) rfl)
theorem dX10_keep_97 : decode cX10_keep 97 = .ok (.getfield 10, 3) := DX10_keep_0 (97, .getfield 10, 3) (List.mem_of_getElem? (i := 31) rfl)
theorem dX10_keep_100 : decode cX10_keep 100 = .ok (.iload_n 2, 1) := DX10_keep_0 (100, .iload_n 2, 1) (List.mem_of_getElem? (i := 32) rfl)
theorem dX10_keep_101 : decode cX10_keep 101 = .ok (.invokevirtual 104, 3) := DX10_keep_0 (101, .invokevirtual 104, 3) (List.mem_of_getElem? (i := 33) rfl)
theorem dX10_keep_104 : decode cX10_keep 104 = .ok (.ireturn, 1) := DX10_keep_0 (104, .ireturn, 1) (List.mem_of_getElem? (i := 34) rfl)
theorem dX10_keep_105 : decode cX10_keep 105 = .ok (.iconst 0, 1) := DX10_keep_0 (105, .iconst 0, 1) (List.mem_of_getElem? (i := 35) rfl)
theorem dX10_keep_106 : decode cX10_keep 106 = .ok (.ireturn, 1) := DX10_keep_0 (106, .ireturn, 1) (List.mem_of_getElem? (i := 36) rfl)
set_option maxRecDepth 20000 in
theorem ggX10_recover_X4_attempt : GoodIn wsX10_recover wsX4_attempt := goodIn_r _ [8, 9, 10, 11, 12, 13, 14, 15, 16, 17, 18, 19, 20, 21, 22, 23, 24, 25, 26, 27, 28, 29, 30, 31, 32, 33, 34, 35, 36, 37, 38, 39, 40, 41, 42, 43, 44, 45, 46, 47, 48, 49, 50, 51, 52, 53, 54, 55, 56, 57, 58, 59, 60, 61, 62, 63, 64, 65, 66, 67, 68, 69, 70, 71, 72, 73, 74, 75, 76, 7, 77, 78, 79, 80, 81, 82, 83, 84, 85, 86, 87, 88, 89, 90, 91, 92, 93, 94, 95, 96, 97, 98, 99, 100, 101, 102, 103, 104, 105, 106, 107, 108, 109, 110, 111, 112, 113, 114, 115, 116, 117, 118, 119, 120, 121, 122, 123, 124, 125, 126, 127, 128, 129, 130, 131, 132, 133, 134, 135, 136, 137, 138, 139, 140, 141, 142, 143, 144, 145, 146, 147, 148, 149, 150, 151, 152, 153, 154, 155, 156, 157, 158, 159, 160, 161, 162, 163, 164, 165, 166, 167, 168, 169, 170, 171, 172, 173, 174, 175, 176, 177, 178, 179, 180, 181, 182, 183, 184, 185, 186, 187, 188, 189, 190, 191, 192, 193, 194, 195, 196, 197, 198, 199, 200, 201, 202, 203, 204, 205, 206, 207, 208, 209, 210, 211, 212, 213, 214, 215, 216, 217, 218, 219, 220, 221, 222, 223, 224, 225, 226, 227, 228, 229, 230, 231, 232, 233, 234, 235, 236, 237, 238, 239, 240, 241, 242, 243, 244, 245, 246, 247, 248, 249, 250, 251, 252, 253, 254, 255, 256, 257, 258, 259, 260, 261, 262, 263, 264, 265, 266, 267, 268, 269, 270, 271, 272, 273, 274, 275, 276, 277, 278, 279, 280, 281, 282, 283, 284, 285, 286, 287, 288, 289, 290, 291, 292, 293, 294, 295, 296, 297, 298, 316, 317, 318, 319, 320, 321, 322, 305, 306, 307, 308, 309, 310, 311, 312, 313, 314, 315, 323, 324, 325, 326, 327, 328, 329, 330, 331, 332, 333, 334, 335, 336, 337, 338, 339, 340, 341, 342, 343, 344, 345, 346, 347, 348, 349, 350, 351, 352] rfl (by decide +kernel)
set_option maxRecDepth 20000 in
theorem gX10_recover_X4_attempt : GoodIn wsX10_recover (wsV RX10 111 RX4 yX4_attempt wsX4_attempt) := goodIn_app (goodIn_of _ (by decide +kernel)) ggX10_recover_X4_attempt
set_option maxRecDepth 100000 in
theorem DX10_crash_0 : ∀ x ∈ ([(0, .aload_n 0, 1), (1, .getfield 10, 3), (4, .getfield 37, 3), (7, .ifCond .eq 14, 3), (10, .iload_n 1, 1), (11, .ifCond .lt 10, 3), (14, .iload_n 1, 1), (15, .sipush 999, 3), (18, .if_icmp .le 5, 3), (21, .iconst 0, 1), (22, .ireturn, 1), (23, .aload_n 0, 1), (24, .getfield 10, 3), (27, .iload_n 1, 1), (28, .invokevirtual 107, 3), (31, .iconst 1, 1), (32, .ireturn, 1)] : List (Nat × Instr × Nat)), decode cX10_crash x.1 = .ok (x.2.1, x.2.2) := by decide +kernel
theorem dX10_crash_0 : decode cX10_crash 0 = .ok (.aload_n 0, 1) := DX10_crash_0 (0, .aload_n 0, 1) (List.mem_of_getElem? (i := 0) rfl)
theorem dX10_crash_1 : decode cX10_crash 1 = .ok (.getfield 10, 3) := DX10_crash_0 (1, .getfield 10, 3) (List.mem_of_getElem? (i := 1) rfl)
theorem dX10_crash_4 : decode cX10_crash 4 = .ok (.getfield 37, 3) := DX10_crash_0 (4, .getfield 37, 3) (List.mem_of_getElem? (i := 2) rfl)
theorem dX10_crash_7 : decode cX10_crash 7 = .ok (.ifCond .eq 14, 3) := DX10_crash_0 (7, .ifCond .eq 14, 3) (List.mem_of_getElem? (i := 3) rfl)
theorem dX10_crash_10 : decode cX10_crash 10 = .ok (.iload_n 1, 1) := DX10_crash_0 (10, .iload_n 1, 1) (List.mem_of_getElem? (i := 4) rfl)
theorem dX10_crash_11 : decode cX10_crash 11 = .ok (.ifCond .lt 10, 3) := DX10_crash_0 (11, .ifCond .lt 10, 3) (List.mem_of_getElem? (i := 5) rfl)
theorem dX10_crash_14 : decode cX10_crash 14 = .ok (.iload_n 1, 1) := DX10_crash_0 (14, .iload_n 1, 1) (List.mem_of_getElem? (i := 6) rfl)
theorem dX10_crash_15 : decode cX10_crash 15 = .ok (.sipush 999, 3) := DX10_crash_0 (15, .sipush 999, 3) (List.mem_of_getElem? (i := 7) rfl)
theorem dX10_crash_18 : decode cX10_crash 18 = .ok (.if_icmp .le 5, 3) := DX10_crash_0 (18, .if_icmp .le 5, 3) (List.mem_of_getElem? (i := 8) rfl)
theorem dX10_crash_21 : decode cX10_crash 21 = .ok (.iconst 0, 1) := DX10_crash_0 (21, .iconst 0, 1) (List.mem_of_getElem? (i := 9) rfl)
theorem dX10_crash_22 : decode cX10_crash 22 = .ok (.ireturn, 1) := DX10_crash_0 (22, .ireturn, 1) (List.mem_of_getElem? (i := 10) rfl)
theorem dX10_crash_23 : decode cX10_crash 23 = .ok (.aload_n 0, 1) := DX10_crash_0 (23, .aload_n 0, 1) (List.mem_of_getElem? (i := 11) rfl)
theorem dX10_crash_24 : decode cX10_crash 24 = .ok (.getfield 10, 3) := DX10_crash_0 (24, .getfield 10, 3) (List.mem_of_getElem? (i := 12) rfl)
theorem dX10_crash_27 : decode cX10_crash 27 = .ok (.iload_n 1, 1) := DX10_crash_0 (27, .iload_n 1, 1) (List.mem_of_getElem? (i := 13) rfl)
theorem dX10_crash_28 : decode cX10_crash 28 = .ok (.invokevirtual 107, 3) := DX10_crash_0 (28, .invokevirtual 107, 3) (List.mem_of_getElem? (i := 14) rfl)
theorem dX10_crash_31 : decode cX10_crash 31 = .ok (.iconst 1, 1) := DX10_crash_0 (31, .iconst 1, 1) (List.mem_of_getElem? (i := 15) rfl)
theorem dX10_crash_32 : decode cX10_crash 32 = .ok (.ireturn, 1) := DX10_crash_0 (32, .ireturn, 1) (List.mem_of_getElem? (i := 16) rfl)
set_option maxRecDepth 20000 in
theorem ggX10_feed_X8_append : GoodIn wsX10_feed wsX8_append := goodIn_r _ [7, 8, 9, 16, 17, 18, 19, 20, 21, 22, 23, 24] rfl (by decide +kernel)
set_option maxRecDepth 20000 in
theorem gX10_feed_X8_append : GoodIn wsX10_feed (wsV RX10 118 RX8 yX8_append wsX8_append) := goodIn_app (goodIn_of _ (by decide +kernel)) ggX10_feed_X8_append
set_option maxRecDepth 100000 in
theorem DX10_recover_0 : ∀ x ∈ ([(0, .aload_n 0, 1), (1, .getfield 10, 3), (4, .getfield 37, 3), (7, .ifCond .ne 14, 3), (10, .iload_n 1, 1), (11, .iconst (-1), 1), (12, .if_icmp .lt 9, 3), (15, .iload_n 1, 1), (16, .bipush 99, 2), (18, .if_icmp .le 5, 3), (21, .iconst (-1), 1), (22, .ireturn, 1), (23, .aload_n 0, 1), (24, .getfield 26, 3), (27, .aload_n 0, 1), (28, .getfield 10, 3), (31, .iload_n 1, 1), (32, .invokevirtual 111, 3), (35, .ireturn, 1)] : List (Nat × Instr × Nat)), decode cX10_recover x.1 = .ok (x.2.1, x.2.2) := by decide +kernel
theorem dX10_recover_0 : decode cX10_recover 0 = .ok (.aload_n 0, 1) := DX10_recover_0 (0, .aload_n 0, 1) (List.mem_of_getElem? (i := 0) rfl)
theorem dX10_recover_1 : decode cX10_recover 1 = .ok (.getfield 10, 3) := DX10_recover_0 (1, .getfield 10, 3) (List.mem_of_getElem? (i := 1) rfl)
theorem dX10_recover_4 : decode cX10_recover 4 = .ok (.getfield 37, 3) := DX10_recover_0 (4, .getfield 37, 3) (List.mem_of_getElem? (i := 2) rfl)
theorem dX10_recover_7 : decode cX10_recover 7 = .ok (.ifCond .ne 14, 3) := DX10_recover_0 (7, .ifCond .ne 14, 3) (List.mem_of_getElem? (i := 3) rfl)
theorem dX10_recover_10 : decode cX10_recover 10 = .ok (.iload_n 1, 1) := DX10_recover_0 (10, .iload_n 1, 1) (List.mem_of_getElem? (i := 4) rfl)
theorem dX10_recover_11 : decode cX10_recover 11 = .ok (.iconst (-1), 1) := DX10_recover_0 (11, .iconst (-1), 1) (List.mem_of_getElem? (i := 5) rfl)
theorem dX10_recover_12 : decode cX10_recover 12 = .ok (.if_icmp .lt 9, 3) := DX10_recover_0 (12, .if_icmp .lt 9, 3) (List.mem_of_getElem? (i := 6) rfl)
theorem dX10_recover_15 : decode cX10_recover 15 = .ok (.iload_n 1, 1) := DX10_recover_0 (15, .iload_n 1, 1) (List.mem_of_getElem? (i := 7) rfl)
theorem dX10_recover_16 : decode cX10_recover 16 = .ok (.bipush 99, 2) := DX10_recover_0 (16, .bipush 99, 2) (List.mem_of_getElem? (i := 8) rfl)
theorem dX10_recover_18 : decode cX10_recover 18 = .ok (.if_icmp .le 5, 3) := DX10_recover_0 (18, .if_icmp .le 5, 3) (List.mem_of_getElem? (i := 9) rfl)
theorem dX10_recover_21 : decode cX10_recover 21 = .ok (.iconst (-1), 1) := DX10_recover_0 (21, .iconst (-1), 1) (List.mem_of_getElem? (i := 10) rfl)
theorem dX10_recover_22 : decode cX10_recover 22 = .ok (.ireturn, 1) := DX10_recover_0 (22, .ireturn, 1) (List.mem_of_getElem? (i := 11) rfl)
theorem dX10_recover_23 : decode cX10_recover 23 = .ok (.aload_n 0, 1) := DX10_recover_0 (23, .aload_n 0, 1) (List.mem_of_getElem? (i := 12) rfl)
theorem dX10_recover_24 : decode cX10_recover 24 = .ok (.getfield 26, 3) := DX10_recover_0 (24, .getfield 26, 3) (List.mem_of_getElem? (i := 13) rfl)
theorem dX10_recover_27 : decode cX10_recover 27 = .ok (.aload_n 0, 1) := DX10_recover_0 (27, .aload_n 0, 1) (List.mem_of_getElem? (i := 14) rfl)
theorem dX10_recover_28 : decode cX10_recover 28 = .ok (.getfield 10, 3) := DX10_recover_0 (28, .getfield 10, 3) (List.mem_of_getElem? (i := 15) rfl)
theorem dX10_recover_31 : decode cX10_recover 31 = .ok (.iload_n 1, 1) := DX10_recover_0 (31, .iload_n 1, 1) (List.mem_of_getElem? (i := 16) rfl)
theorem dX10_recover_32 : decode cX10_recover 32 = .ok (.invokevirtual 111, 3) := DX10_recover_0 (32, .invokevirtual 111, 3) (List.mem_of_getElem? (i := 17) rfl)
theorem dX10_recover_35 : decode cX10_recover 35 = .ok (.ireturn, 1) := DX10_recover_0 (35, .ireturn, 1) (List.mem_of_getElem? (i := 18) rfl)
set_option maxRecDepth 100000 in
theorem DX10_feed_0 : ∀ x ∈ ([(0, .aload_n 0, 1), (1, .getfield 19, 3), (4, .getfield 115, 3), (7, .sipush 380, 3), (10, .if_icmp .le 5, 3), (13, .iconst (-1), 1), (14, .ireturn, 1), (15, .aload_n 0, 1), (16, .getfield 19, 3), (19, .iload_n 1, 1), (20, .invokevirtual 118, 3), (23, .aload_n 0, 1), (24, .getfield 19, 3), (27, .iload_n 2, 1), (28, .invokevirtual 118, 3), (31, .aload_n 0, 1), (32, .getfield 19, 3), (35, .iload_n 3, 1), (36, .invokevirtual 118, 3), (39, .aload_n 0, 1), (40, .getfield 19, 3), (43, .iload 4, 2), (45, .invokevirtual 118, 3), (48, .aload_n 0, 1), (49, .getfield 19, 3), (52, .iload 5, 2), (54, .invokevirtual 118, 3), (57, .aload_n 0, 1), (58, .getfield 19, 3), (61, .getfield 115, 3), (64, .ireturn, 1)] : List (Nat × Instr × Nat)), decode cX10_feed x.1 = .ok (x.2.1, x.2.2) := by decide +kernel
theorem dX10_feed_0 : decode cX10_feed 0 = .ok (.aload_n 0, 1) := DX10_feed_0 (0, .aload_n 0, 1) (List.mem_of_getElem? (i := 0) rfl)
theorem dX10_feed_1 : decode cX10_feed 1 = .ok (.getfield 19, 3) := DX10_feed_0 (1, .getfield 19, 3) (List.mem_of_getElem? (i := 1) rfl)
theorem dX10_feed_4 : decode cX10_feed 4 = .ok (.getfield 115, 3) := DX10_feed_0 (4, .getfield 115, 3) (List.mem_of_getElem? (i := 2) rfl)
theorem dX10_feed_7 : decode cX10_feed 7 = .ok (.sipush 380, 3) := DX10_feed_0 (7, .sipush 380, 3) (List.mem_of_getElem? (i := 3) rfl)
theorem dX10_feed_10 : decode cX10_feed 10 = .ok (.if_icmp .le 5, 3) := DX10_feed_0 (10, .if_icmp .le 5, 3) (List.mem_of_getElem? (i := 4) rfl)
theorem dX10_feed_13 : decode cX10_feed 13 = .ok (.iconst (-1), 1) := DX10_feed_0 (13, .iconst (-1), 1) (List.mem_of_getElem? (i := 5) rfl)
theorem dX10_feed_14 : decode cX10_feed 14 = .ok (.ireturn, 1) := DX10_feed_0 (14, .ireturn, 1) (List.mem_of_getElem? (i := 6) rfl)
theorem dX10_feed_15 : decode cX10_feed 15 = .ok (.aload_n 0, 1) := DX10_feed_0 (15, .aload_n 0, 1) (List.mem_of_getElem? (i := 7) rfl)
theorem dX10_feed_16 : decode cX10_feed 16 = .ok (.getfield 19, 3) := DX10_feed_0 (16, .getfield 19, 3) (List.mem_of_getElem? (i := 8) rfl)
theorem dX10_feed_19 : decode cX10_feed 19 = .ok (.iload_n 1, 1) := DX10_feed_0 (19, .iload_n 1, 1) (List.mem_of_getElem? (i := 9) rfl)
theorem dX10_feed_20 : decode cX10_feed 20 = .ok (.invokevirtual 118, 3) := DX10_feed_0 (20, .invokevirtual 118, 3) (List.mem_of_getElem? (i := 10) rfl)
theorem dX10_feed_23 : decode cX10_feed 23 = .ok (.aload_n 0, 1) := DX10_feed_0 (23, .aload_n 0, 1) (List.mem_of_getElem? (i := 11) rfl)
theorem dX10_feed_24 : decode cX10_feed 24 = .ok (.getfield 19, 3) := DX10_feed_0 (24, .getfield 19, 3) (List.mem_of_getElem? (i := 12) rfl)
theorem dX10_feed_27 : decode cX10_feed 27 = .ok (.iload_n 2, 1) := DX10_feed_0 (27, .iload_n 2, 1) (List.mem_of_getElem? (i := 13) rfl)
theorem dX10_feed_28 : decode cX10_feed 28 = .ok (.invokevirtual 118, 3) := DX10_feed_0 (28, .invokevirtual 118, 3) (List.mem_of_getElem? (i := 14) rfl)
theorem dX10_feed_31 : decode cX10_feed 31 = .ok (.aload_n 0, 1) := DX10_feed_0 (31, .aload_n 0, 1) (List.mem_of_getElem? (i := 15) rfl)
theorem dX10_feed_32 : decode cX10_feed 32 = .ok (.getfield 19, 3) := DX10_feed_0 (32, .getfield 19, 3) (List.mem_of_getElem? (i := 16) rfl)
theorem dX10_feed_35 : decode cX10_feed 35 = .ok (.iload_n 3, 1) := DX10_feed_0 (35, .iload_n 3, 1) (List.mem_of_getElem? (i := 17) rfl)
theorem dX10_feed_36 : decode cX10_feed 36 = .ok (.invokevirtual 118, 3) := DX10_feed_0 (36, .invokevirtual 118, 3) (List.mem_of_getElem? (i := 18) rfl)
theorem dX10_feed_39 : decode cX10_feed 39 = .ok (.aload_n 0, 1) := DX10_feed_0 (39, .aload_n 0, 1) (List.mem_of_getElem? (i := 19) rfl)
theorem dX10_feed_40 : decode cX10_feed 40 = .ok (.getfield 19, 3) := DX10_feed_0 (40, .getfield 19, 3) (List.mem_of_getElem? (i := 20) rfl)
theorem dX10_feed_43 : decode cX10_feed 43 = .ok (.iload 4, 2) := DX10_feed_0 (43, .iload 4, 2) (List.mem_of_getElem? (i := 21) rfl)
theorem dX10_feed_45 : decode cX10_feed 45 = .ok (.invokevirtual 118, 3) := DX10_feed_0 (45, .invokevirtual 118, 3) (List.mem_of_getElem? (i := 22) rfl)
theorem dX10_feed_48 : decode cX10_feed 48 = .ok (.aload_n 0, 1) := DX10_feed_0 (48, .aload_n 0, 1) (List.mem_of_getElem? (i := 23) rfl)
theorem dX10_feed_49 : decode cX10_feed 49 = .ok (.getfield 19, 3) := DX10_feed_0 (49, .getfield 19, 3) (List.mem_of_getElem? (i := 24) rfl)
theorem dX10_feed_52 : decode cX10_feed 52 = .ok (.iload 5, 2) := DX10_feed_0 (52, .iload 5, 2) (List.mem_of_getElem? (i := 25) rfl)
theorem dX10_feed_54 : decode cX10_feed 54 = .ok (.invokevirtual 118, 3) := DX10_feed_0 (54, .invokevirtual 118, 3) (List.mem_of_getElem? (i := 26) rfl)
theorem dX10_feed_57 : decode cX10_feed 57 = .ok (.aload_n 0, 1) := DX10_feed_0 (57, .aload_n 0, 1) (List.mem_of_getElem? (i := 27) rfl)
theorem dX10_feed_58 : decode cX10_feed 58 = .ok (.getfield 19, 3) := DX10_feed_0 (58, .getfield 19, 3) (List.mem_of_getElem? (i := 28) rfl)
theorem dX10_feed_61 : decode cX10_feed 61 = .ok (.getfield 115, 3) := DX10_feed_0 (61, .getfield 115, 3) (List.mem_of_getElem? (i := 29) rfl)
theorem dX10_feed_64 : decode cX10_feed 64 = .ok (.ireturn, 1) := DX10_feed_0 (64, .ireturn, 1) (List.mem_of_getElem? (i := 30) rfl)
set_option maxRecDepth 20000 in
theorem ggX10_plan_X8_readPlan : GoodIn wsX10_plan wsX8_readPlan := goodIn_r _ [10, 11, 12, 13, 14, 15, 16, 17, 18, 19, 20, 21, 22, 23, 24, 25, 26, 9, 27, 28, 29, 30, 31, 32, 33, 34, 35, 36, 37, 38, 39, 40, 41, 42, 43, 44, 45, 46, 47, 48, 49, 50, 51, 52, 53, 54, 55, 56, 57, 58, 59, 60, 61, 62, 63, 64, 65, 66, 67, 68, 69, 70, 71, 72, 73, 74, 75, 76, 77, 78, 79, 80, 81, 82, 83, 84, 85, 86, 87, 88, 89, 90, 91, 92, 93, 94, 95, 96, 97, 98, 99, 100, 101, 102, 103, 104, 105, 106, 107, 108, 109, 110, 111, 112, 113, 114, 115, 116, 117, 118, 119, 120, 121, 122, 123, 149, 150, 151, 152, 153, 154, 155, 156, 157, 158, 159, 160] rfl (by decide +kernel)
set_option maxRecDepth 20000 in
theorem gX10_plan_X8_readPlan : GoodIn wsX10_plan (wsV RX10 121 RX8 yX8_readPlan wsX8_readPlan) := goodIn_app (goodIn_of _ (by decide +kernel)) ggX10_plan_X8_readPlan
set_option maxRecDepth 20000 in
theorem ggX10_plan_X6_copyFrom : GoodIn wsX10_plan wsX6_copyFrom := goodIn_r _ [127, 123, 128, 129, 130, 131, 22, 23, 158, 159, 160] rfl (by decide +kernel)
set_option maxRecDepth 20000 in
theorem gX10_plan_X6_copyFrom : GoodIn wsX10_plan (wsV RX10 131 RX6 yX6_copyFrom wsX6_copyFrom) := goodIn_app (goodIn_of _ (by decide +kernel)) ggX10_plan_X6_copyFrom
set_option maxRecDepth 100000 in
theorem DX10_end_0 : ∀ x ∈ ([(0, .iload_n 1, 1), (1, .ifCond .lt 14, 3), (4, .iload_n 1, 1), (5, .aload_n 0, 1), (6, .getfield 19, 3), (9, .getfield 115, 3), (12, .if_icmp .le 5, 3), (15, .iconst 0, 1), (16, .ireturn, 1), (17, .aload_n 0, 1), (18, .getfield 19, 3), (21, .iload_n 1, 1), (22, .putfield 115, 3), (25, .iconst 1, 1), (26, .ireturn, 1)] : List (Nat × Instr × Nat)), decode cX10_end x.1 = .ok (x.2.1, x.2.2) := by decide +kernel
theorem dX10_end_0 : decode cX10_end 0 = .ok (.iload_n 1, 1) := DX10_end_0 (0, .iload_n 1, 1) (List.mem_of_getElem? (i := 0) rfl)
theorem dX10_end_1 : decode cX10_end 1 = .ok (.ifCond .lt 14, 3) := DX10_end_0 (1, .ifCond .lt 14, 3) (List.mem_of_getElem? (i := 1) rfl)
theorem dX10_end_4 : decode cX10_end 4 = .ok (.iload_n 1, 1) := DX10_end_0 (4, .iload_n 1, 1) (List.mem_of_getElem? (i := 2) rfl)
theorem dX10_end_5 : decode cX10_end 5 = .ok (.aload_n 0, 1) := DX10_end_0 (5, .aload_n 0, 1) (List.mem_of_getElem? (i := 3) rfl)
theorem dX10_end_6 : decode cX10_end 6 = .ok (.getfield 19, 3) := DX10_end_0 (6, .getfield 19, 3) (List.mem_of_getElem? (i := 4) rfl)
theorem dX10_end_9 : decode cX10_end 9 = .ok (.getfield 115, 3) := DX10_end_0 (9, .getfield 115, 3) (List.mem_of_getElem? (i := 5) rfl)
theorem dX10_end_12 : decode cX10_end 12 = .ok (.if_icmp .le 5, 3) := DX10_end_0 (12, .if_icmp .le 5, 3) (List.mem_of_getElem? (i := 6) rfl)
theorem dX10_end_15 : decode cX10_end 15 = .ok (.iconst 0, 1) := DX10_end_0 (15, .iconst 0, 1) (List.mem_of_getElem? (i := 7) rfl)
theorem dX10_end_16 : decode cX10_end 16 = .ok (.ireturn, 1) := DX10_end_0 (16, .ireturn, 1) (List.mem_of_getElem? (i := 8) rfl)
theorem dX10_end_17 : decode cX10_end 17 = .ok (.aload_n 0, 1) := DX10_end_0 (17, .aload_n 0, 1) (List.mem_of_getElem? (i := 9) rfl)
theorem dX10_end_18 : decode cX10_end 18 = .ok (.getfield 19, 3) := DX10_end_0 (18, .getfield 19, 3) (List.mem_of_getElem? (i := 10) rfl)
theorem dX10_end_21 : decode cX10_end 21 = .ok (.iload_n 1, 1) := DX10_end_0 (21, .iload_n 1, 1) (List.mem_of_getElem? (i := 11) rfl)
theorem dX10_end_22 : decode cX10_end 22 = .ok (.putfield 115, 3) := DX10_end_0 (22, .putfield 115, 3) (List.mem_of_getElem? (i := 12) rfl)
theorem dX10_end_25 : decode cX10_end 25 = .ok (.iconst 1, 1) := DX10_end_0 (25, .iconst 1, 1) (List.mem_of_getElem? (i := 13) rfl)
theorem dX10_end_26 : decode cX10_end 26 = .ok (.ireturn, 1) := DX10_end_0 (26, .ireturn, 1) (List.mem_of_getElem? (i := 14) rfl)
set_option maxRecDepth 100000 in
theorem DX10_plan_0 : ∀ x ∈ ([(0, .aload_n 0, 1), (1, .getfield 19, 3), (4, .invokevirtual 121, 3), (7, .ifCond .ne 5, 3), (10, .iconst (-1), 1), (11, .ireturn, 1), (12, .aload_n 0, 1), (13, .getfield 10, 3), (16, .getfield 124, 3), (19, .aload_n 0, 1), (20, .getfield 19, 3), (23, .getfield 128, 3), (26, .invokevirtual 131, 3), (29, .aload_n 0, 1), (30, .getfield 10, 3), (33, .getfield 124, 3), (36, .getfield 137, 3), (39, .ireturn, 1)] : List (Nat × Instr × Nat)), decode cX10_plan x.1 = .ok (x.2.1, x.2.2) := by decide +kernel
theorem dX10_plan_0 : decode cX10_plan 0 = .ok (.aload_n 0, 1) := DX10_plan_0 (0, .aload_n 0, 1) (List.mem_of_getElem? (i := 0) rfl)
theorem dX10_plan_1 : decode cX10_plan 1 = .ok (.getfield 19, 3) := DX10_plan_0 (1, .getfield 19, 3) (List.mem_of_getElem? (i := 1) rfl)
theorem dX10_plan_4 : decode cX10_plan 4 = .ok (.invokevirtual 121, 3) := DX10_plan_0 (4, .invokevirtual 121, 3) (List.mem_of_getElem? (i := 2) rfl)
theorem dX10_plan_7 : decode cX10_plan 7 = .ok (.ifCond .ne 5, 3) := DX10_plan_0 (7, .ifCond .ne 5, 3) (List.mem_of_getElem? (i := 3) rfl)
theorem dX10_plan_10 : decode cX10_plan 10 = .ok (.iconst (-1), 1) := DX10_plan_0 (10, .iconst (-1), 1) (List.mem_of_getElem? (i := 4) rfl)
theorem dX10_plan_11 : decode cX10_plan 11 = .ok (.ireturn, 1) := DX10_plan_0 (11, .ireturn, 1) (List.mem_of_getElem? (i := 5) rfl)
theorem dX10_plan_12 : decode cX10_plan 12 = .ok (.aload_n 0, 1) := DX10_plan_0 (12, .aload_n 0, 1) (List.mem_of_getElem? (i := 6) rfl)
theorem dX10_plan_13 : decode cX10_plan 13 = .ok (.getfield 10, 3) := DX10_plan_0 (13, .getfield 10, 3) (List.mem_of_getElem? (i := 7) rfl)
theorem dX10_plan_16 : decode cX10_plan 16 = .ok (.getfield 124, 3) := DX10_plan_0 (16, .getfield 124, 3) (List.mem_of_getElem? (i := 8) rfl)
theorem dX10_plan_19 : decode cX10_plan 19 = .ok (.aload_n 0, 1) := DX10_plan_0 (19, .aload_n 0, 1) (List.mem_of_getElem? (i := 9) rfl)
theorem dX10_plan_20 : decode cX10_plan 20 = .ok (.getfield 19, 3) := DX10_plan_0 (20, .getfield 19, 3) (List.mem_of_getElem? (i := 10) rfl)
theorem dX10_plan_23 : decode cX10_plan 23 = .ok (.getfield 128, 3) := DX10_plan_0 (23, .getfield 128, 3) (List.mem_of_getElem? (i := 11) rfl)
theorem dX10_plan_26 : decode cX10_plan 26 = .ok (.invokevirtual 131, 3) := DX10_plan_0 (26, .invokevirtual 131, 3) (List.mem_of_getElem? (i := 12) rfl)
theorem dX10_plan_29 : decode cX10_plan 29 = .ok (.aload_n 0, 1) := DX10_plan_0 (29, .aload_n 0, 1) (List.mem_of_getElem? (i := 13) rfl)
theorem dX10_plan_30 : decode cX10_plan 30 = .ok (.getfield 10, 3) := DX10_plan_0 (30, .getfield 10, 3) (List.mem_of_getElem? (i := 14) rfl)
theorem dX10_plan_33 : decode cX10_plan 33 = .ok (.getfield 124, 3) := DX10_plan_0 (33, .getfield 124, 3) (List.mem_of_getElem? (i := 15) rfl)
theorem dX10_plan_36 : decode cX10_plan 36 = .ok (.getfield 137, 3) := DX10_plan_0 (36, .getfield 137, 3) (List.mem_of_getElem? (i := 16) rfl)
theorem dX10_plan_39 : decode cX10_plan 39 = .ok (.ireturn, 1) := DX10_plan_0 (39, .ireturn, 1) (List.mem_of_getElem? (i := 17) rfl)
set_option maxRecDepth 20000 in
theorem ggX10_run_X10_doLine : GoodIn wsX10_run wsX10_doLine := goodIn_r _ [10, 1, 3, 11, 12, 13, 14, 15, 16, 17, 18, 19, 20, 21, 22, 23, 24, 25, 9, 26, 27, 28, 29, 30, 31, 32, 33, 34, 35, 36, 37, 38, 39, 40, 41, 42, 43, 44, 45, 46, 47, 48, 49, 50, 51, 52, 53, 54, 55, 56, 57, 58, 59, 60, 61, 62, 63, 64, 65, 66, 67, 68, 69, 70, 71, 72, 73, 74, 75, 76, 77, 78, 79, 80, 81, 82, 83, 84, 85, 86, 87, 88, 89, 90, 91, 92, 93, 94, 95, 96, 97, 98, 99, 100, 101, 102, 103, 104, 105, 106, 107, 108, 109, 110, 111, 112, 113, 114, 115, 116, 117, 118, 119, 120, 121, 122, 123, 124, 125, 126, 127, 128, 129, 130, 131, 132, 133, 134, 135, 136, 137, 138, 139, 140, 141, 142, 143, 144, 145, 146, 147, 148, 149, 150, 151, 152, 153, 154, 155, 156, 157, 158, 159, 160, 161, 162, 163, 164, 165, 166, 167, 168, 169, 170, 171, 172, 173, 174, 175, 176, 177, 178, 179, 180, 181, 182, 183, 184, 185, 186, 187, 188, 189, 190, 191, 192, 193, 194, 195, 196, 197, 198, 199, 200, 201, 202, 203, 204, 205, 206, 207, 208, 209, 210, 211, 212, 213, 214, 215, 216, 217, 218, 219, 220, 221, 222, 223, 224, 225, 226, 227, 228, 229, 230, 231, 232, 233, 234, 235, 236, 237, 238, 239, 240, 241, 242, 243, 244, 245, 246, 247, 248, 249, 250, 251, 252, 253, 254, 255, 256, 257, 258, 259, 260, 261, 262, 263, 264, 265, 266, 267, 268, 269, 270, 271, 272, 273, 274, 275, 276, 277, 278, 279, 280, 281, 282, 283, 284, 285, 286, 287, 288, 289, 290, 291, 292, 293, 294, 295, 296, 297, 298, 299, 300, 301, 302, 303, 304, 305, 306, 307, 308, 309, 310, 311, 312, 313, 314, 315, 316, 317, 318, 319, 320, 321, 322, 323, 324, 325, 326, 327, 328, 329, 330, 331, 332, 333, 334, 335, 336, 337, 338, 339, 340, 341, 342, 343, 344, 345, 346, 347, 348, 349, 350, 351, 352, 353, 354, 355, 356, 357, 358] rfl (by decide +kernel)
set_option maxRecDepth 20000 in
theorem gX10_run_X10_doLine : GoodIn wsX10_run (wsV RX10 147 RX10 yX10_doLine wsX10_doLine) := goodIn_app (goodIn_of _ (by decide +kernel)) ggX10_run_X10_doLine
set_option maxRecDepth 100000 in
theorem DX10_fault_0 : ∀ x ∈ ([(0, .iload_n 1, 1), (1, .ifCond .ne 11, 3), (4, .aload_n 0, 1), (5, .getfield 19, 3), (8, .getfield 138, 3), (11, .ireturn, 1), (12, .iload_n 1, 1), (13, .iconst 1, 1), (14, .if_icmp .ne 13, 3), (17, .aload_n 0, 1), (18, .getfield 19, 3), (21, .getfield 141, 3), (24, .goto 4, 3), (27, .iconst (-1), 1), (28, .ireturn, 1)] : List (Nat × Instr × Nat)), decode cX10_fault x.1 = .ok (x.2.1, x.2.2) := by decide +kernel
theorem dX10_fault_0 : decode cX10_fault 0 = .ok (.iload_n 1, 1) := DX10_fault_0 (0, .iload_n 1, 1) (List.mem_of_getElem? (i := 0) rfl)
theorem dX10_fault_1 : decode cX10_fault 1 = .ok (.ifCond .ne 11, 3) := DX10_fault_0 (1, .ifCond .ne 11, 3) (List.mem_of_getElem? (i := 1) rfl)
theorem dX10_fault_4 : decode cX10_fault 4 = .ok (.aload_n 0, 1) := DX10_fault_0 (4, .aload_n 0, 1) (List.mem_of_getElem? (i := 2) rfl)
theorem dX10_fault_5 : decode cX10_fault 5 = .ok (.getfield 19, 3) := DX10_fault_0 (5, .getfield 19, 3) (List.mem_of_getElem? (i := 3) rfl)
theorem dX10_fault_8 : decode cX10_fault 8 = .ok (.getfield 138, 3) := DX10_fault_0 (8, .getfield 138, 3) (List.mem_of_getElem? (i := 4) rfl)
theorem dX10_fault_11 : decode cX10_fault 11 = .ok (.ireturn, 1) := DX10_fault_0 (11, .ireturn, 1) (List.mem_of_getElem? (i := 5) rfl)
theorem dX10_fault_12 : decode cX10_fault 12 = .ok (.iload_n 1, 1) := DX10_fault_0 (12, .iload_n 1, 1) (List.mem_of_getElem? (i := 6) rfl)
theorem dX10_fault_13 : decode cX10_fault 13 = .ok (.iconst 1, 1) := DX10_fault_0 (13, .iconst 1, 1) (List.mem_of_getElem? (i := 7) rfl)
theorem dX10_fault_14 : decode cX10_fault 14 = .ok (.if_icmp .ne 13, 3) := DX10_fault_0 (14, .if_icmp .ne 13, 3) (List.mem_of_getElem? (i := 8) rfl)
theorem dX10_fault_17 : decode cX10_fault 17 = .ok (.aload_n 0, 1) := DX10_fault_0 (17, .aload_n 0, 1) (List.mem_of_getElem? (i := 9) rfl)
theorem dX10_fault_18 : decode cX10_fault 18 = .ok (.getfield 19, 3) := DX10_fault_0 (18, .getfield 19, 3) (List.mem_of_getElem? (i := 10) rfl)
theorem dX10_fault_21 : decode cX10_fault 21 = .ok (.getfield 141, 3) := DX10_fault_0 (21, .getfield 141, 3) (List.mem_of_getElem? (i := 11) rfl)
theorem dX10_fault_24 : decode cX10_fault 24 = .ok (.goto 4, 3) := DX10_fault_0 (24, .goto 4, 3) (List.mem_of_getElem? (i := 12) rfl)
theorem dX10_fault_27 : decode cX10_fault 27 = .ok (.iconst (-1), 1) := DX10_fault_0 (27, .iconst (-1), 1) (List.mem_of_getElem? (i := 13) rfl)
theorem dX10_fault_28 : decode cX10_fault 28 = .ok (.ireturn, 1) := DX10_fault_0 (28, .ireturn, 1) (List.mem_of_getElem? (i := 14) rfl)
set_option maxRecDepth 20000 in
theorem ggX10_doLine_X6_part : GoodIn wsX10_doLine wsX6_part := goodIn_r _ [7, 8, 323, 324, 325] rfl (by decide +kernel)
set_option maxRecDepth 20000 in
theorem gX10_doLine_X6_part : GoodIn wsX10_doLine (wsV RX10 150 RX6 yX6_part wsX6_part) := goodIn_app (goodIn_of _ (by decide +kernel)) ggX10_doLine_X6_part
set_option maxRecDepth 20000 in
theorem ggX10_doLine_X9_begin : GoodIn wsX10_doLine wsX9_begin := goodIn_r _ [13, 14, 15, 16, 17, 18, 19, 20, 21, 22, 12, 23, 24, 25, 26, 27, 28, 29, 30, 31, 32, 33, 34, 35, 36, 37, 38, 39, 40, 41, 42, 43, 44, 45, 46, 47, 48, 49, 50, 312, 313, 314, 315, 316, 317, 318, 319, 320, 321, 322, 326, 327, 328, 329, 330, 331, 332] rfl (by decide +kernel)
set_option maxRecDepth 20000 in
theorem gX10_doLine_X9_begin : GoodIn wsX10_doLine (wsV RX10 55 RX9 yX9_begin wsX9_begin) := goodIn_app (goodIn_of _ (by decide +kernel)) ggX10_doLine_X9_begin
set_option maxRecDepth 20000 in
theorem ggX10_doLine_X9_change : GoodIn wsX10_doLine wsX9_change := goodIn_r _ [54, 55, 56, 57, 24, 15, 30, 58, 59, 60, 12, 61, 16, 17, 18, 19, 20, 21, 22, 23, 25, 62, 63, 64, 65, 66, 67, 68, 69, 70, 71, 72, 73, 74, 75, 76, 77, 78, 79, 80, 81, 82, 83, 84, 85, 86, 87, 88, 89, 90, 91, 92, 93, 94, 95, 96, 97, 98, 99, 100, 101, 102, 103, 104, 105, 106, 107, 108, 34, 109, 110, 111, 112, 113, 114, 36, 42, 31, 32, 33, 35, 37, 38, 39, 40, 41, 115, 116, 117, 118, 119, 43, 44, 45, 46, 47, 48, 49, 50, 120, 121, 122, 123, 124, 125, 126, 127, 128, 129, 130, 131, 132, 133, 134, 135, 312, 313, 314, 315, 316, 317, 318, 319, 320, 321, 322, 333, 334, 335, 336, 337, 338, 339, 326, 327, 328, 329, 330, 331, 332, 340, 341, 342, 343, 344, 345, 346, 347, 348, 349, 350, 351] rfl (by decide +kernel)
set_option maxRecDepth 20000 in
theorem gX10_doLine_X9_change : GoodIn wsX10_doLine (wsV RX10 71 RX9 yX9_change wsX9_change) := goodIn_app (goodIn_of _ (by decide +kernel)) ggX10_doLine_X9_change
set_option maxRecDepth 20000 in
theorem ggX10_doLine_X9_putSave : GoodIn wsX10_doLine wsX9_putSave := goodIn_r _ [139, 56, 15, 30, 140, 58, 59, 60, 12, 61, 16, 17, 18, 19, 141, 142, 143, 71, 144, 145, 146, 312, 313, 314, 315, 316, 317, 318, 319, 320, 321, 322, 326, 327, 328, 333, 334, 335, 336, 337, 338, 339] rfl (by decide +kernel)
set_option maxRecDepth 20000 in
theorem gX10_doLine_X9_putSave : GoodIn wsX10_doLine (wsV RX10 75 RX9 yX9_putSave wsX9_putSave) := goodIn_app (goodIn_of _ (by decide +kernel)) ggX10_doLine_X9_putSave
set_option maxRecDepth 20000 in
theorem ggX10_doLine_X9_goBack : GoodIn wsX10_doLine wsX9_goBack := goodIn_r _ [150, 56, 140, 15, 30, 151, 24, 57, 58, 59, 60, 12, 61, 16, 17, 18, 19, 152, 153, 154, 71, 155, 146, 156, 157, 158, 34, 159, 111, 112, 113, 114, 36, 42, 160, 161, 162, 163, 55, 164, 125, 126, 127, 165, 75, 76, 77, 65, 78, 79, 80, 81, 82, 83, 84, 85, 86, 87, 88, 89, 90, 91, 92, 93, 94, 95, 96, 97, 98, 99, 100, 101, 102, 103, 104, 105, 106, 107, 108, 109, 110, 31, 32, 33, 35, 37, 38, 39, 40, 41, 115, 166, 167, 168, 169, 170, 171, 172, 173, 43, 44, 45, 46, 47, 48, 49, 50, 120, 121, 122, 123, 124, 128, 129, 130, 131, 174, 175, 176, 177, 178, 179, 180, 181, 182, 145, 183, 184, 185, 312, 313, 314, 315, 316, 317, 318, 319, 320, 321, 322, 333, 334, 335, 336, 337, 338, 339, 326, 327, 328, 329, 330, 331, 332, 340, 341, 342, 343, 344, 345, 346, 347, 348, 349, 350, 351] rfl (by decide +kernel)
set_option maxRecDepth 20000 in
theorem gX10_doLine_X9_goBack : GoodIn wsX10_doLine (wsV RX10 79 RX9 yX9_goBack wsX9_goBack) := goodIn_app (goodIn_of _ (by decide +kernel)) ggX10_doLine_X9_goBack
set_option maxRecDepth 20000 in
theorem ggX10_doLine_X9_openTop : GoodIn wsX10_doLine wsX9_openTop := goodIn_r _ [189, 56, 15, 30, 58, 59, 60, 12, 61, 16, 17, 18, 19, 190, 191, 192, 71, 193, 183, 184, 312, 313, 314, 315, 316, 317, 318, 319, 320, 321, 322, 326, 327, 328, 333, 334, 335, 336, 337, 338, 339] rfl (by decide +kernel)
set_option maxRecDepth 20000 in
theorem gX10_doLine_X9_openTop : GoodIn wsX10_doLine (wsV RX10 65 RX9 yX9_openTop wsX9_openTop) := goodIn_app (goodIn_of _ (by decide +kernel)) ggX10_doLine_X9_openTop
set_option maxRecDepth 20000 in
theorem ggX10_doLine_X9_closeTop : GoodIn wsX10_doLine wsX9_closeTop := goodIn_r _ [197, 56, 198, 24, 15, 30, 58, 59, 60, 12, 61, 16, 17, 18, 19, 20, 21, 22, 23, 25, 31, 32, 33, 34, 35, 36, 37, 38, 39, 40, 41, 42, 199, 200, 201, 71, 202, 183, 184, 170, 171, 172, 173, 43, 44, 45, 46, 47, 48, 49, 50, 312, 313, 314, 315, 316, 317, 318, 319, 320, 321, 322, 333, 334, 335, 336, 337, 338, 339, 326, 327, 328, 329, 330, 331, 332] rfl (by decide +kernel)
set_option maxRecDepth 20000 in
theorem gX10_doLine_X9_closeTop : GoodIn wsX10_doLine (wsV RX10 68 RX9 yX9_closeTop wsX9_closeTop) := goodIn_app (goodIn_of _ (by decide +kernel)) ggX10_doLine_X9_closeTop
set_option maxRecDepth 20000 in
theorem ggX10_doLine_X9_commit : GoodIn wsX10_doLine wsX9_commit := goodIn_r _ [206, 56, 198, 24, 58, 59, 60, 12, 61, 15, 16, 17, 18, 19, 20, 21, 22, 23, 25, 26, 27, 28, 29, 30, 31, 32, 33, 34, 35, 36, 37, 38, 39, 40, 41, 42, 43, 44, 45, 46, 47, 48, 49, 50, 207, 107, 108, 109, 110, 111, 112, 113, 114, 208, 209, 210, 211, 212, 213, 214, 215, 216, 217, 218, 219, 220, 221, 222, 71, 223, 224, 73, 74, 225, 226, 227, 228, 145, 183, 312, 313, 314, 315, 316, 317, 318, 319, 320, 321, 322, 333, 334, 335, 336, 337, 338, 339, 326, 327, 328, 329, 330, 331, 332] rfl (by decide +kernel)
set_option maxRecDepth 20000 in
theorem gX10_doLine_X9_commit : GoodIn wsX10_doLine (wsV RX10 59 RX9 yX9_commit wsX9_commit) := goodIn_app (goodIn_of _ (by decide +kernel)) ggX10_doLine_X9_commit
set_option maxRecDepth 20000 in
theorem ggX10_doLine_X9_abort : GoodIn wsX10_doLine wsX9_abort := goodIn_r _ [232, 15, 233, 16, 56, 57, 58, 59, 60, 12, 61, 17, 18, 19, 26, 27, 28, 29, 24, 30, 31, 32, 33, 34, 35, 36, 37, 38, 39, 40, 41, 42, 43, 44, 45, 46, 47, 48, 49, 50, 234, 226, 227, 71, 228, 145, 183, 312, 313, 314, 315, 316, 317, 318, 319, 320, 321, 322, 326, 327, 328, 333, 334, 335, 336, 337, 338, 339, 329, 330, 331, 332] rfl (by decide +kernel)
set_option maxRecDepth 20000 in
theorem gX10_doLine_X9_abort : GoodIn wsX10_doLine (wsV RX10 62 RX9 yX9_abort wsX9_abort) := goodIn_app (goodIn_of _ (by decide +kernel)) ggX10_doLine_X9_abort
set_option maxRecDepth 20000 in
theorem ggX10_doLine_X9_rollBack : GoodIn wsX10_doLine wsX9_rollBack := goodIn_r _ [238, 15, 16, 24, 233, 17, 18, 19, 239, 240, 241, 34, 242, 243, 244, 157, 158, 159, 111, 112, 113, 114, 36, 42, 245, 175, 176, 177, 178, 167, 168, 169, 208, 209, 210, 12, 211, 56, 26, 27, 28, 29, 30, 31, 32, 33, 35, 37, 38, 39, 40, 41, 43, 44, 45, 46, 47, 48, 49, 50, 212, 213, 214, 215, 216, 217, 218, 219, 220, 221, 222, 71, 223, 224, 73, 74, 225, 226, 227, 228, 145, 183, 160, 161, 162, 163, 55, 164, 125, 126, 127, 165, 75, 76, 77, 65, 78, 79, 80, 81, 82, 83, 84, 85, 86, 87, 88, 89, 90, 91, 92, 93, 94, 95, 96, 97, 98, 99, 100, 101, 102, 103, 104, 105, 106, 107, 108, 109, 110, 115, 166, 170, 171, 172, 173, 120, 121, 122, 123, 124, 128, 129, 130, 131, 174, 312, 313, 314, 315, 316, 317, 318, 319, 320, 321, 322, 326, 327, 328, 329, 330, 331, 332, 333, 334, 335, 336, 337, 338, 339, 340, 341, 342, 343, 344, 345, 346, 347, 348, 349, 350, 351] rfl (by decide +kernel)
set_option maxRecDepth 20000 in
theorem gX10_doLine_X9_rollBack : GoodIn wsX10_doLine (wsV RX10 83 RX9 yX9_rollBack wsX9_rollBack) := goodIn_app (goodIn_of _ (by decide +kernel)) ggX10_doLine_X9_rollBack
set_option maxRecDepth 20000 in
theorem ggX10_doLine_X9_flush : GoodIn wsX10_doLine wsX9_flush := goodIn_r _ [249, 14, 24, 250, 251, 252, 34, 253, 36, 254, 255, 256, 257, 42, 111, 112, 113, 114, 258, 259, 260, 261, 262, 263, 264, 265, 266, 267, 268, 269, 270, 271, 272, 273, 110, 207, 107, 108, 109, 312, 313, 314, 315, 316, 317, 318, 319, 320, 321, 322, 329, 330, 331, 332] rfl (by decide +kernel)
set_option maxRecDepth 20000 in
theorem gX10_doLine_X9_flush : GoodIn wsX10_doLine (wsV RX10 86 RX9 yX9_flush wsX9_flush) := goodIn_app (goodIn_of _ (by decide +kernel)) ggX10_doLine_X9_flush
set_option maxRecDepth 20000 in
theorem ggX10_doLine_X9_writePage : GoodIn wsX10_doLine wsX9_writePage := goodIn_r _ [277, 14, 55, 278, 24, 104, 18, 105, 279, 92, 93, 65, 94, 95, 86, 280, 101, 102, 103, 87, 81, 80, 82, 83, 84, 85, 88, 79, 106, 107, 108, 34, 109, 110, 111, 112, 113, 114, 36, 42, 312, 313, 314, 315, 316, 317, 318, 319, 320, 321, 322, 340, 341, 342, 343, 344, 345, 346, 347, 348, 349, 350, 351, 329, 330, 331, 332] rfl (by decide +kernel)
set_option maxRecDepth 20000 in
theorem gX10_doLine_X9_writePage : GoodIn wsX10_doLine (wsV RX10 89 RX9 yX9_writePage wsX9_writePage) := goodIn_app (goodIn_of _ (by decide +kernel)) ggX10_doLine_X9_writePage
set_option maxRecDepth 20000 in
theorem ggX10_doLine_X9_checkBegins : GoodIn wsX10_doLine wsX9_checkBegins := goodIn_r _ [284, 14, 285, 24, 20, 21, 22, 12, 23, 25, 31, 32, 33, 34, 35, 36, 37, 38, 39, 40, 41, 42, 47, 48, 49, 50, 312, 313, 314, 315, 316, 317, 318, 319, 320, 321, 322, 329, 330, 331, 332] rfl (by decide +kernel)
set_option maxRecDepth 20000 in
theorem gX10_doLine_X9_checkBegins : GoodIn wsX10_doLine (wsV RX10 92 RX9 yX9_checkBegins wsX9_checkBegins) := goodIn_app (goodIn_of _ (by decide +kernel)) ggX10_doLine_X9_checkBegins
set_option maxRecDepth 20000 in
theorem ggX10_doLine_X9_checkEnds : GoodIn wsX10_doLine wsX9_checkEnds := goodIn_r _ [289, 14, 285, 24, 15, 16, 30, 55, 278, 290, 20, 21, 22, 12, 23, 25, 31, 32, 33, 34, 35, 36, 37, 38, 39, 40, 41, 42, 291, 292, 293, 215, 294, 217, 295, 296, 297, 298, 299, 300, 301, 115, 170, 171, 172, 173, 302, 303, 304, 65, 305, 79, 279, 92, 93, 94, 95, 86, 47, 48, 49, 50, 207, 107, 108, 109, 110, 111, 112, 113, 114, 312, 313, 314, 315, 316, 317, 318, 319, 320, 321, 322, 326, 327, 328, 340, 341, 342, 343, 344, 345, 346, 347, 348, 349, 350, 351, 329, 330, 331, 332] rfl (by decide +kernel)
set_option maxRecDepth 20000 in
theorem gX10_doLine_X9_checkEnds : GoodIn wsX10_doLine (wsV RX10 95 RX9 yX9_checkEnds wsX9_checkEnds) := goodIn_app (goodIn_of _ (by decide +kernel)) ggX10_doLine_X9_checkEnds
set_option maxRecDepth 100000 in
theorem DX10_run_0 : ∀ x ∈ ([(0, .aload_n 0, 1), (1, .getfield 10, 3), (4, .getfield 37, 3), (7, .ifCond .eq 14, 3), (10, .iload_n 1, 1), (11, .iconst 1, 1), (12, .if_icmp .lt 9, 3), (15, .iload_n 1, 1), (16, .bipush 24, 2), (18, .if_icmp .le 5, 3), (21, .iconst (-1), 1), (22, .ireturn, 1), (23, .iconst 0, 1), (24, .istore_n 2, 1), (25, .iconst 0, 1), (26, .istore_n 3, 1), (27, .iload_n 3, 1), (28, .iload_n 1, 1), (29, .if_icmp .ge 72, 3), (32, .aload_n 0, 1), (33, .getfield 10, 3), (36, .getfield 124, 3), (39, .getfield 144, 3), (42, .aload_n 0, 1), (43, .getfield 10, 3), (46, .getfield 124, 3), (49, .getfield 137, 3), (52, .if_icmp .ge 49, 3), (55, .aload_n 0, 1), (56, .getfield 10, 3), (59, .getfield 124, 3), (62, .getfield 144, 3), (65, .istore 4, 2), (67, .aload_n 0, 1), (68, .getfield 10, 3), (71, .getfield 124, 3), (74, .dup, 1), (75, .getfield 144, 3), (78, .iconst 1, 1), (79, .iadd, 1)] : List (Nat × Instr × Nat)), decode cX10_run x.1 = .ok (x.2.1, x.2.2) := by decide +kernel
theorem dX10_run_0 : decode cX10_run 0 = .ok (.aload_n 0, 1) := DX10_run_0 (0, .aload_n 0, 1) (List.mem_of_getElem? (i := 0) rfl)
theorem dX10_run_1 : decode cX10_run 1 = .ok (.getfield 10, 3) := DX10_run_0 (1, .getfield 10, 3) (List.mem_of_getElem? (i := 1) rfl)
theorem dX10_run_4 : decode cX10_run 4 = .ok (.getfield 37, 3) := DX10_run_0 (4, .getfield 37, 3) (List.mem_of_getElem? (i := 2) rfl)
theorem dX10_run_7 : decode cX10_run 7 = .ok (.ifCond .eq 14, 3) := DX10_run_0 (7, .ifCond .eq 14, 3) (List.mem_of_getElem? (i := 3) rfl)
theorem dX10_run_10 : decode cX10_run 10 = .ok (.iload_n 1, 1) := DX10_run_0 (10, .iload_n 1, 1) (List.mem_of_getElem? (i := 4) rfl)
theorem dX10_run_11 : decode cX10_run 11 = .ok (.iconst 1, 1) := DX10_run_0 (11, .iconst 1, 1) (List.mem_of_getElem? (i := 5) rfl)
theorem dX10_run_12 : decode cX10_run 12 = .ok (.if_icmp .lt 9, 3) := DX10_run_0 (12, .if_icmp .lt 9, 3) (List.mem_of_getElem? (i := 6) rfl)
theorem dX10_run_15 : decode cX10_run 15 = .ok (.iload_n 1, 1) := DX10_run_0 (15, .iload_n 1, 1) (List.mem_of_getElem? (i := 7) rfl)
theorem dX10_run_16 : decode cX10_run 16 = .ok (.bipush 24, 2) := DX10_run_0 (16, .bipush 24, 2) (List.mem_of_getElem? (i := 8) rfl)
theorem dX10_run_18 : decode cX10_run 18 = .ok (.if_icmp .le 5, 3) := DX10_run_0 (18, .if_icmp .le 5, 3) (List.mem_of_getElem? (i := 9) rfl)
theorem dX10_run_21 : decode cX10_run 21 = .ok (.iconst (-1), 1) := DX10_run_0 (21, .iconst (-1), 1) (List.mem_of_getElem? (i := 10) rfl)
theorem dX10_run_22 : decode cX10_run 22 = .ok (.ireturn, 1) := DX10_run_0 (22, .ireturn, 1) (List.mem_of_getElem? (i := 11) rfl)
theorem dX10_run_23 : decode cX10_run 23 = .ok (.iconst 0, 1) := DX10_run_0 (23, .iconst 0, 1) (List.mem_of_getElem? (i := 12) rfl)
theorem dX10_run_24 : decode cX10_run 24 = .ok (.istore_n 2, 1) := DX10_run_0 (24, .istore_n 2, 1) (List.mem_of_getElem? (i := 13) rfl)
theorem dX10_run_25 : decode cX10_run 25 = .ok (.iconst 0, 1) := DX10_run_0 (25, .iconst 0, 1) (List.mem_of_getElem? (i := 14) rfl)
theorem dX10_run_26 : decode cX10_run 26 = .ok (.istore_n 3, 1) := DX10_run_0 (26, .istore_n 3, 1) (List.mem_of_getElem? (i := 15) rfl)
theorem dX10_run_27 : decode cX10_run 27 = .ok (.iload_n 3, 1) := DX10_run_0 (27, .iload_n 3, 1) (List.mem_of_getElem? (i := 16) rfl)
theorem dX10_run_28 : decode cX10_run 28 = .ok (.iload_n 1, 1) := DX10_run_0 (28, .iload_n 1, 1) (List.mem_of_getElem? (i := 17) rfl)
theorem dX10_run_29 : decode cX10_run 29 = .ok (.if_icmp .ge 72, 3) := DX10_run_0 (29, .if_icmp .ge 72, 3) (List.mem_of_getElem? (i := 18) rfl)
theorem dX10_run_32 : decode cX10_run 32 = .ok (.aload_n 0, 1) := DX10_run_0 (32, .aload_n 0, 1) (List.mem_of_getElem? (i := 19) rfl)
theorem dX10_run_33 : decode cX10_run 33 = .ok (.getfield 10, 3) := DX10_run_0 (33, .getfield 10, 3) (List.mem_of_getElem? (i := 20) rfl)
theorem dX10_run_36 : decode cX10_run 36 = .ok (.getfield 124, 3) := DX10_run_0 (36, .getfield 124, 3) (List.mem_of_getElem? (i := 21) rfl)
theorem dX10_run_39 : decode cX10_run 39 = .ok (.getfield 144, 3) := DX10_run_0 (39, .getfield 144, 3) (List.mem_of_getElem? (i := 22) rfl)
theorem dX10_run_42 : decode cX10_run 42 = .ok (.aload_n 0, 1) := DX10_run_0 (42, .aload_n 0, 1) (List.mem_of_getElem? (i := 23) rfl)
theorem dX10_run_43 : decode cX10_run 43 = .ok (.getfield 10, 3) := DX10_run_0 (43, .getfield 10, 3) (List.mem_of_getElem? (i := 24) rfl)
theorem dX10_run_46 : decode cX10_run 46 = .ok (.getfield 124, 3) := DX10_run_0 (46, .getfield 124, 3) (List.mem_of_getElem? (i := 25) rfl)
theorem dX10_run_49 : decode cX10_run 49 = .ok (.getfield 137, 3) := DX10_run_0 (49, .getfield 137, 3) (List.mem_of_getElem? (i := 26) rfl)
theorem dX10_run_52 : decode cX10_run 52 = .ok (.if_icmp .ge 49, 3) := DX10_run_0 (52, .if_icmp .ge 49, 3) (List.mem_of_getElem? (i := 27) rfl)
theorem dX10_run_55 : decode cX10_run 55 = .ok (.aload_n 0, 1) := DX10_run_0 (55, .aload_n 0, 1) (List.mem_of_getElem? (i := 28) rfl)
theorem dX10_run_56 : decode cX10_run 56 = .ok (.getfield 10, 3) := DX10_run_0 (56, .getfield 10, 3) (List.mem_of_getElem? (i := 29) rfl)
theorem dX10_run_59 : decode cX10_run 59 = .ok (.getfield 124, 3) := DX10_run_0 (59, .getfield 124, 3) (List.mem_of_getElem? (i := 30) rfl)
theorem dX10_run_62 : decode cX10_run 62 = .ok (.getfield 144, 3) := DX10_run_0 (62, .getfield 144, 3) (List.mem_of_getElem? (i := 31) rfl)
theorem dX10_run_65 : decode cX10_run 65 = .ok (.istore 4, 2) := DX10_run_0 (65, .istore 4, 2) (List.mem_of_getElem? (i := 32) rfl)
theorem dX10_run_67 : decode cX10_run 67 = .ok (.aload_n 0, 1) := DX10_run_0 (67, .aload_n 0, 1) (List.mem_of_getElem? (i := 33) rfl)
theorem dX10_run_68 : decode cX10_run 68 = .ok (.getfield 10, 3) := DX10_run_0 (68, .getfield 10, 3) (List.mem_of_getElem? (i := 34) rfl)
theorem dX10_run_71 : decode cX10_run 71 = .ok (.getfield 124, 3) := DX10_run_0 (71, .getfield 124, 3) (List.mem_of_getElem? (i := 35) rfl)
theorem dX10_run_74 : decode cX10_run 74 = .ok (.dup, 1) := DX10_run_0 (74, .dup, 1) (List.mem_of_getElem? (i := 36) rfl)
theorem dX10_run_75 : decode cX10_run 75 = .ok (.getfield 144, 3) := DX10_run_0 (75, .getfield 144, 3) (List.mem_of_getElem? (i := 37) rfl)
theorem dX10_run_78 : decode cX10_run 78 = .ok (.iconst 1, 1) := DX10_run_0 (78, .iconst 1, 1) (List.mem_of_getElem? (i := 38) rfl)
theorem dX10_run_79 : decode cX10_run 79 = .ok (.iadd, 1) := DX10_run_0 (79, .iadd, 1) (List.mem_of_getElem? (i := 39) rfl)
set_option maxRecDepth 100000 in
theorem DX10_run_40 : ∀ x ∈ ([(80, .putfield 144, 3), (83, .aload_n 0, 1), (84, .iload 4, 2), (86, .invokevirtual 147, 3), (89, .ifCond .eq 6, 3), (92, .iinc 2 1, 3), (95, .iinc 3 1, 3), (98, .goto (-71), 3), (101, .iload_n 2, 1), (102, .ireturn, 1)] : List (Nat × Instr × Nat)), decode cX10_run x.1 = .ok (x.2.1, x.2.2) := by decide +kernel
theorem dX10_run_80 : decode cX10_run 80 = .ok (.putfield 144, 3) := DX10_run_40 (80, .putfield 144, 3) (List.mem_of_getElem? (i := 0) rfl)
theorem dX10_run_83 : decode cX10_run 83 = .ok (.aload_n 0, 1) := DX10_run_40 (83, .aload_n 0, 1) (List.mem_of_getElem? (i := 1) rfl)
theorem dX10_run_84 : decode cX10_run 84 = .ok (.iload 4, 2) := DX10_run_40 (84, .iload 4, 2) (List.mem_of_getElem? (i := 2) rfl)
theorem dX10_run_86 : decode cX10_run 86 = .ok (.invokevirtual 147, 3) := DX10_run_40 (86, .invokevirtual 147, 3) (List.mem_of_getElem? (i := 3) rfl)
theorem dX10_run_89 : decode cX10_run 89 = .ok (.ifCond .eq 6, 3) := DX10_run_40 (89, .ifCond .eq 6, 3) (List.mem_of_getElem? (i := 4) rfl)
theorem dX10_run_92 : decode cX10_run 92 = .ok (.iinc 2 1, 3) := DX10_run_40 (92, .iinc 2 1, 3) (List.mem_of_getElem? (i := 5) rfl)
theorem dX10_run_95 : decode cX10_run 95 = .ok (.iinc 3 1, 3) := DX10_run_40 (95, .iinc 3 1, 3) (List.mem_of_getElem? (i := 6) rfl)
theorem dX10_run_98 : decode cX10_run 98 = .ok (.goto (-71), 3) := DX10_run_40 (98, .goto (-71), 3) (List.mem_of_getElem? (i := 7) rfl)
theorem dX10_run_101 : decode cX10_run 101 = .ok (.iload_n 2, 1) := DX10_run_40 (101, .iload_n 2, 1) (List.mem_of_getElem? (i := 8) rfl)
theorem dX10_run_102 : decode cX10_run 102 = .ok (.ireturn, 1) := DX10_run_40 (102, .ireturn, 1) (List.mem_of_getElem? (i := 9) rfl)
set_option maxRecDepth 20000 in
theorem ggX10_at_X3_byteNow : GoodIn wsX10_at wsX3_byteNow := goodIn_r _ [11, 12, 13, 14, 15, 16, 10, 17, 18, 19, 37, 38, 39, 40, 41, 42, 43, 44, 45, 46, 47, 48] rfl (by decide +kernel)
set_option maxRecDepth 20000 in
theorem gX10_at_X3_byteNow : GoodIn wsX10_at (wsV RX10 153 RX3 yX3_byteNow wsX3_byteNow) := goodIn_app (goodIn_of _ (by decide +kernel)) ggX10_at_X3_byteNow
set_option maxRecDepth 100000 in
theorem DX10_doLine_0 : ∀ x ∈ ([(0, .aload_n 0, 1), (1, .getfield 10, 3), (4, .getfield 124, 3), (7, .iload_n 1, 1), (8, .iconst 1, 1), (9, .invokevirtual 150, 3), (12, .istore_n 2, 1), (13, .aload_n 0, 1), (14, .getfield 10, 3), (17, .getfield 124, 3), (20, .iload_n 1, 1), (21, .iconst 2, 1), (22, .invokevirtual 150, 3), (25, .istore_n 3, 1), (26, .aload_n 0, 1), (27, .getfield 10, 3), (30, .getfield 124, 3), (33, .iload_n 1, 1), (34, .iconst 3, 1), (35, .invokevirtual 150, 3), (38, .istore 4, 2), (40, .aload_n 0, 1), (41, .getfield 10, 3), (44, .getfield 124, 3), (47, .iload_n 1, 1), (48, .iconst 0, 1), (49, .invokevirtual 150, 3), (52, .tableswitch 233 0 13 #[72, 81, 94, 107, 125, 144, 153, 162, 171, 180, 199, 208, 217, 225], 72), (124, .aload_n 0, 1), (125, .getfield 10, 3), (128, .iload_n 2, 1), (129, .invokevirtual 55, 3), (132, .ireturn, 1), (133, .aload_n 0, 1), (134, .getfield 10, 3), (137, .iload_n 2, 1), (138, .iload_n 3, 1), (139, .iload 4, 2), (141, .iconst 2, 1), (142, .invokevirtual 71, 3)] : List (Nat × Instr × Nat)), decode cX10_doLine x.1 = .ok (x.2.1, x.2.2) := by decide +kernel
theorem dX10_doLine_0 : decode cX10_doLine 0 = .ok (.aload_n 0, 1) := DX10_doLine_0 (0, .aload_n 0, 1) (List.mem_of_getElem? (i := 0) rfl)
theorem dX10_doLine_1 : decode cX10_doLine 1 = .ok (.getfield 10, 3) := DX10_doLine_0 (1, .getfield 10, 3) (List.mem_of_getElem? (i := 1) rfl)
theorem dX10_doLine_4 : decode cX10_doLine 4 = .ok (.getfield 124, 3) := DX10_doLine_0 (4, .getfield 124, 3) (List.mem_of_getElem? (i := 2) rfl)
theorem dX10_doLine_7 : decode cX10_doLine 7 = .ok (.iload_n 1, 1) := DX10_doLine_0 (7, .iload_n 1, 1) (List.mem_of_getElem? (i := 3) rfl)
theorem dX10_doLine_8 : decode cX10_doLine 8 = .ok (.iconst 1, 1) := DX10_doLine_0 (8, .iconst 1, 1) (List.mem_of_getElem? (i := 4) rfl)
theorem dX10_doLine_9 : decode cX10_doLine 9 = .ok (.invokevirtual 150, 3) := DX10_doLine_0 (9, .invokevirtual 150, 3) (List.mem_of_getElem? (i := 5) rfl)
theorem dX10_doLine_12 : decode cX10_doLine 12 = .ok (.istore_n 2, 1) := DX10_doLine_0 (12, .istore_n 2, 1) (List.mem_of_getElem? (i := 6) rfl)
theorem dX10_doLine_13 : decode cX10_doLine 13 = .ok (.aload_n 0, 1) := DX10_doLine_0 (13, .aload_n 0, 1) (List.mem_of_getElem? (i := 7) rfl)
theorem dX10_doLine_14 : decode cX10_doLine 14 = .ok (.getfield 10, 3) := DX10_doLine_0 (14, .getfield 10, 3) (List.mem_of_getElem? (i := 8) rfl)
theorem dX10_doLine_17 : decode cX10_doLine 17 = .ok (.getfield 124, 3) := DX10_doLine_0 (17, .getfield 124, 3) (List.mem_of_getElem? (i := 9) rfl)
theorem dX10_doLine_20 : decode cX10_doLine 20 = .ok (.iload_n 1, 1) := DX10_doLine_0 (20, .iload_n 1, 1) (List.mem_of_getElem? (i := 10) rfl)
theorem dX10_doLine_21 : decode cX10_doLine 21 = .ok (.iconst 2, 1) := DX10_doLine_0 (21, .iconst 2, 1) (List.mem_of_getElem? (i := 11) rfl)
theorem dX10_doLine_22 : decode cX10_doLine 22 = .ok (.invokevirtual 150, 3) := DX10_doLine_0 (22, .invokevirtual 150, 3) (List.mem_of_getElem? (i := 12) rfl)
theorem dX10_doLine_25 : decode cX10_doLine 25 = .ok (.istore_n 3, 1) := DX10_doLine_0 (25, .istore_n 3, 1) (List.mem_of_getElem? (i := 13) rfl)
theorem dX10_doLine_26 : decode cX10_doLine 26 = .ok (.aload_n 0, 1) := DX10_doLine_0 (26, .aload_n 0, 1) (List.mem_of_getElem? (i := 14) rfl)
theorem dX10_doLine_27 : decode cX10_doLine 27 = .ok (.getfield 10, 3) := DX10_doLine_0 (27, .getfield 10, 3) (List.mem_of_getElem? (i := 15) rfl)
theorem dX10_doLine_30 : decode cX10_doLine 30 = .ok (.getfield 124, 3) := DX10_doLine_0 (30, .getfield 124, 3) (List.mem_of_getElem? (i := 16) rfl)
theorem dX10_doLine_33 : decode cX10_doLine 33 = .ok (.iload_n 1, 1) := DX10_doLine_0 (33, .iload_n 1, 1) (List.mem_of_getElem? (i := 17) rfl)
theorem dX10_doLine_34 : decode cX10_doLine 34 = .ok (.iconst 3, 1) := DX10_doLine_0 (34, .iconst 3, 1) (List.mem_of_getElem? (i := 18) rfl)
theorem dX10_doLine_35 : decode cX10_doLine 35 = .ok (.invokevirtual 150, 3) := DX10_doLine_0 (35, .invokevirtual 150, 3) (List.mem_of_getElem? (i := 19) rfl)
theorem dX10_doLine_38 : decode cX10_doLine 38 = .ok (.istore 4, 2) := DX10_doLine_0 (38, .istore 4, 2) (List.mem_of_getElem? (i := 20) rfl)
theorem dX10_doLine_40 : decode cX10_doLine 40 = .ok (.aload_n 0, 1) := DX10_doLine_0 (40, .aload_n 0, 1) (List.mem_of_getElem? (i := 21) rfl)
theorem dX10_doLine_41 : decode cX10_doLine 41 = .ok (.getfield 10, 3) := DX10_doLine_0 (41, .getfield 10, 3) (List.mem_of_getElem? (i := 22) rfl)
theorem dX10_doLine_44 : decode cX10_doLine 44 = .ok (.getfield 124, 3) := DX10_doLine_0 (44, .getfield 124, 3) (List.mem_of_getElem? (i := 23) rfl)
theorem dX10_doLine_47 : decode cX10_doLine 47 = .ok (.iload_n 1, 1) := DX10_doLine_0 (47, .iload_n 1, 1) (List.mem_of_getElem? (i := 24) rfl)
theorem dX10_doLine_48 : decode cX10_doLine 48 = .ok (.iconst 0, 1) := DX10_doLine_0 (48, .iconst 0, 1) (List.mem_of_getElem? (i := 25) rfl)
theorem dX10_doLine_49 : decode cX10_doLine 49 = .ok (.invokevirtual 150, 3) := DX10_doLine_0 (49, .invokevirtual 150, 3) (List.mem_of_getElem? (i := 26) rfl)
theorem dX10_doLine_52 : decode cX10_doLine 52 = .ok (.tableswitch 233 0 13 #[72, 81, 94, 107, 125, 144, 153, 162, 171, 180, 199, 208, 217, 225], 72) := DX10_doLine_0 (52, .tableswitch 233 0 13 #[72, 81, 94, 107, 125, 144, 153, 162, 171, 180, 199, 208, 217, 225], 72) (List.mem_of_getElem? (i := 27) rfl)
theorem dX10_doLine_124 : decode cX10_doLine 124 = .ok (.aload_n 0, 1) := DX10_doLine_0 (124, .aload_n 0, 1) (List.mem_of_getElem? (i := 28) rfl)
theorem dX10_doLine_125 : decode cX10_doLine 125 = .ok (.getfield 10, 3) := DX10_doLine_0 (125, .getfield 10, 3) (List.mem_of_getElem? (i := 29) rfl)
theorem dX10_doLine_128 : decode cX10_doLine 128 = .ok (.iload_n 2, 1) := DX10_doLine_0 (128, .iload_n 2, 1) (List.mem_of_getElem? (i := 30) rfl)
theorem dX10_doLine_129 : decode cX10_doLine 129 = .ok (.invokevirtual 55, 3) := DX10_doLine_0 (129, .invokevirtual 55, 3) (List.mem_of_getElem? (i := 31) rfl)
theorem dX10_doLine_132 : decode cX10_doLine 132 = .ok (.ireturn, 1) := DX10_doLine_0 (132, .ireturn, 1) (List.mem_of_getElem? (i := 32) rfl)
theorem dX10_doLine_133 : decode cX10_doLine 133 = .ok (.aload_n 0, 1) := DX10_doLine_0 (133, .aload_n 0, 1) (List.mem_of_getElem? (i := 33) rfl)
theorem dX10_doLine_134 : decode cX10_doLine 134 = .ok (.getfield 10, 3) := DX10_doLine_0 (134, .getfield 10, 3) (List.mem_of_getElem? (i := 34) rfl)
theorem dX10_doLine_137 : decode cX10_doLine 137 = .ok (.iload_n 2, 1) := DX10_doLine_0 (137, .iload_n 2, 1) (List.mem_of_getElem? (i := 35) rfl)
theorem dX10_doLine_138 : decode cX10_doLine 138 = .ok (.iload_n 3, 1) := DX10_doLine_0 (138, .iload_n 3, 1) (List.mem_of_getElem? (i := 36) rfl)
theorem dX10_doLine_139 : decode cX10_doLine 139 = .ok (.iload 4, 2) := DX10_doLine_0 (139, .iload 4, 2) (List.mem_of_getElem? (i := 37) rfl)
theorem dX10_doLine_141 : decode cX10_doLine 141 = .ok (.iconst 2, 1) := DX10_doLine_0 (141, .iconst 2, 1) (List.mem_of_getElem? (i := 38) rfl)
theorem dX10_doLine_142 : decode cX10_doLine 142 = .ok (.invokevirtual 71, 3) := DX10_doLine_0 (142, .invokevirtual 71, 3) (List.mem_of_getElem? (i := 39) rfl)
set_option maxRecDepth 100000 in
theorem DX10_doLine_40 : ∀ x ∈ ([(145, .ireturn, 1), (146, .aload_n 0, 1), (147, .getfield 10, 3), (150, .iload_n 2, 1), (151, .iload_n 3, 1), (152, .iload 4, 2), (154, .iconst 3, 1), (155, .invokevirtual 71, 3), (158, .ireturn, 1), (159, .aload_n 0, 1), (160, .getfield 10, 3), (163, .iload_n 2, 1), (164, .invokevirtual 75, 3), (167, .iconst (-1), 1), (168, .if_icmp .eq 7, 3), (171, .iconst 1, 1), (172, .goto 4, 3), (175, .iconst 0, 1), (176, .ireturn, 1), (177, .aload_n 0, 1), (178, .getfield 10, 3), (181, .iload_n 2, 1), (182, .iload_n 3, 1), (183, .invokevirtual 79, 3), (186, .iconst (-1), 1), (187, .if_icmp .eq 7, 3), (190, .iconst 1, 1), (191, .goto 4, 3), (194, .iconst 0, 1), (195, .ireturn, 1), (196, .aload_n 0, 1), (197, .getfield 10, 3), (200, .iload_n 2, 1), (201, .invokevirtual 65, 3), (204, .ireturn, 1), (205, .aload_n 0, 1), (206, .getfield 10, 3), (209, .iload_n 2, 1), (210, .invokevirtual 68, 3), (213, .ireturn, 1)] : List (Nat × Instr × Nat)), decode cX10_doLine x.1 = .ok (x.2.1, x.2.2) := by decide +kernel
theorem dX10_doLine_145 : decode cX10_doLine 145 = .ok (.ireturn, 1) := DX10_doLine_40 (145, .ireturn, 1) (List.mem_of_getElem? (i := 0) rfl)
theorem dX10_doLine_146 : decode cX10_doLine 146 = .ok (.aload_n 0, 1) := DX10_doLine_40 (146, .aload_n 0, 1) (List.mem_of_getElem? (i := 1) rfl)
theorem dX10_doLine_147 : decode cX10_doLine 147 = .ok (.getfield 10, 3) := DX10_doLine_40 (147, .getfield 10, 3) (List.mem_of_getElem? (i := 2) rfl)
theorem dX10_doLine_150 : decode cX10_doLine 150 = .ok (.iload_n 2, 1) := DX10_doLine_40 (150, .iload_n 2, 1) (List.mem_of_getElem? (i := 3) rfl)
theorem dX10_doLine_151 : decode cX10_doLine 151 = .ok (.iload_n 3, 1) := DX10_doLine_40 (151, .iload_n 3, 1) (List.mem_of_getElem? (i := 4) rfl)
theorem dX10_doLine_152 : decode cX10_doLine 152 = .ok (.iload 4, 2) := DX10_doLine_40 (152, .iload 4, 2) (List.mem_of_getElem? (i := 5) rfl)
theorem dX10_doLine_154 : decode cX10_doLine 154 = .ok (.iconst 3, 1) := DX10_doLine_40 (154, .iconst 3, 1) (List.mem_of_getElem? (i := 6) rfl)
theorem dX10_doLine_155 : decode cX10_doLine 155 = .ok (.invokevirtual 71, 3) := DX10_doLine_40 (155, .invokevirtual 71, 3) (List.mem_of_getElem? (i := 7) rfl)
theorem dX10_doLine_158 : decode cX10_doLine 158 = .ok (.ireturn, 1) := DX10_doLine_40 (158, .ireturn, 1) (List.mem_of_getElem? (i := 8) rfl)
theorem dX10_doLine_159 : decode cX10_doLine 159 = .ok (.aload_n 0, 1) := DX10_doLine_40 (159, .aload_n 0, 1) (List.mem_of_getElem? (i := 9) rfl)
theorem dX10_doLine_160 : decode cX10_doLine 160 = .ok (.getfield 10, 3) := DX10_doLine_40 (160, .getfield 10, 3) (List.mem_of_getElem? (i := 10) rfl)
theorem dX10_doLine_163 : decode cX10_doLine 163 = .ok (.iload_n 2, 1) := DX10_doLine_40 (163, .iload_n 2, 1) (List.mem_of_getElem? (i := 11) rfl)
theorem dX10_doLine_164 : decode cX10_doLine 164 = .ok (.invokevirtual 75, 3) := DX10_doLine_40 (164, .invokevirtual 75, 3) (List.mem_of_getElem? (i := 12) rfl)
theorem dX10_doLine_167 : decode cX10_doLine 167 = .ok (.iconst (-1), 1) := DX10_doLine_40 (167, .iconst (-1), 1) (List.mem_of_getElem? (i := 13) rfl)
theorem dX10_doLine_168 : decode cX10_doLine 168 = .ok (.if_icmp .eq 7, 3) := DX10_doLine_40 (168, .if_icmp .eq 7, 3) (List.mem_of_getElem? (i := 14) rfl)
theorem dX10_doLine_171 : decode cX10_doLine 171 = .ok (.iconst 1, 1) := DX10_doLine_40 (171, .iconst 1, 1) (List.mem_of_getElem? (i := 15) rfl)
theorem dX10_doLine_172 : decode cX10_doLine 172 = .ok (.goto 4, 3) := DX10_doLine_40 (172, .goto 4, 3) (List.mem_of_getElem? (i := 16) rfl)
theorem dX10_doLine_175 : decode cX10_doLine 175 = .ok (.iconst 0, 1) := DX10_doLine_40 (175, .iconst 0, 1) (List.mem_of_getElem? (i := 17) rfl)
theorem dX10_doLine_176 : decode cX10_doLine 176 = .ok (.ireturn, 1) := DX10_doLine_40 (176, .ireturn, 1) (List.mem_of_getElem? (i := 18) rfl)
theorem dX10_doLine_177 : decode cX10_doLine 177 = .ok (.aload_n 0, 1) := DX10_doLine_40 (177, .aload_n 0, 1) (List.mem_of_getElem? (i := 19) rfl)
theorem dX10_doLine_178 : decode cX10_doLine 178 = .ok (.getfield 10, 3) := DX10_doLine_40 (178, .getfield 10, 3) (List.mem_of_getElem? (i := 20) rfl)
theorem dX10_doLine_181 : decode cX10_doLine 181 = .ok (.iload_n 2, 1) := DX10_doLine_40 (181, .iload_n 2, 1) (List.mem_of_getElem? (i := 21) rfl)
theorem dX10_doLine_182 : decode cX10_doLine 182 = .ok (.iload_n 3, 1) := DX10_doLine_40 (182, .iload_n 3, 1) (List.mem_of_getElem? (i := 22) rfl)
theorem dX10_doLine_183 : decode cX10_doLine 183 = .ok (.invokevirtual 79, 3) := DX10_doLine_40 (183, .invokevirtual 79, 3) (List.mem_of_getElem? (i := 23) rfl)
theorem dX10_doLine_186 : decode cX10_doLine 186 = .ok (.iconst (-1), 1) := DX10_doLine_40 (186, .iconst (-1), 1) (List.mem_of_getElem? (i := 24) rfl)
theorem dX10_doLine_187 : decode cX10_doLine 187 = .ok (.if_icmp .eq 7, 3) := DX10_doLine_40 (187, .if_icmp .eq 7, 3) (List.mem_of_getElem? (i := 25) rfl)
theorem dX10_doLine_190 : decode cX10_doLine 190 = .ok (.iconst 1, 1) := DX10_doLine_40 (190, .iconst 1, 1) (List.mem_of_getElem? (i := 26) rfl)
theorem dX10_doLine_191 : decode cX10_doLine 191 = .ok (.goto 4, 3) := DX10_doLine_40 (191, .goto 4, 3) (List.mem_of_getElem? (i := 27) rfl)
theorem dX10_doLine_194 : decode cX10_doLine 194 = .ok (.iconst 0, 1) := DX10_doLine_40 (194, .iconst 0, 1) (List.mem_of_getElem? (i := 28) rfl)
theorem dX10_doLine_195 : decode cX10_doLine 195 = .ok (.ireturn, 1) := DX10_doLine_40 (195, .ireturn, 1) (List.mem_of_getElem? (i := 29) rfl)
theorem dX10_doLine_196 : decode cX10_doLine 196 = .ok (.aload_n 0, 1) := DX10_doLine_40 (196, .aload_n 0, 1) (List.mem_of_getElem? (i := 30) rfl)
theorem dX10_doLine_197 : decode cX10_doLine 197 = .ok (.getfield 10, 3) := DX10_doLine_40 (197, .getfield 10, 3) (List.mem_of_getElem? (i := 31) rfl)
theorem dX10_doLine_200 : decode cX10_doLine 200 = .ok (.iload_n 2, 1) := DX10_doLine_40 (200, .iload_n 2, 1) (List.mem_of_getElem? (i := 32) rfl)
theorem dX10_doLine_201 : decode cX10_doLine 201 = .ok (.invokevirtual 65, 3) := DX10_doLine_40 (201, .invokevirtual 65, 3) (List.mem_of_getElem? (i := 33) rfl)
theorem dX10_doLine_204 : decode cX10_doLine 204 = .ok (.ireturn, 1) := DX10_doLine_40 (204, .ireturn, 1) (List.mem_of_getElem? (i := 34) rfl)
theorem dX10_doLine_205 : decode cX10_doLine 205 = .ok (.aload_n 0, 1) := DX10_doLine_40 (205, .aload_n 0, 1) (List.mem_of_getElem? (i := 35) rfl)
theorem dX10_doLine_206 : decode cX10_doLine 206 = .ok (.getfield 10, 3) := DX10_doLine_40 (206, .getfield 10, 3) (List.mem_of_getElem? (i := 36) rfl)
theorem dX10_doLine_209 : decode cX10_doLine 209 = .ok (.iload_n 2, 1) := DX10_doLine_40 (209, .iload_n 2, 1) (List.mem_of_getElem? (i := 37) rfl)
theorem dX10_doLine_210 : decode cX10_doLine 210 = .ok (.invokevirtual 68, 3) := DX10_doLine_40 (210, .invokevirtual 68, 3) (List.mem_of_getElem? (i := 38) rfl)
theorem dX10_doLine_213 : decode cX10_doLine 213 = .ok (.ireturn, 1) := DX10_doLine_40 (213, .ireturn, 1) (List.mem_of_getElem? (i := 39) rfl)
set_option maxRecDepth 100000 in
theorem DX10_doLine_80 : ∀ x ∈ ([(214, .aload_n 0, 1), (215, .getfield 10, 3), (218, .iload_n 2, 1), (219, .invokevirtual 59, 3), (222, .ireturn, 1), (223, .aload_n 0, 1), (224, .getfield 10, 3), (227, .iload_n 2, 1), (228, .invokevirtual 62, 3), (231, .ireturn, 1), (232, .aload_n 0, 1), (233, .getfield 10, 3), (236, .iload_n 2, 1), (237, .iload_n 3, 1), (238, .invokevirtual 83, 3), (241, .iconst (-1), 1), (242, .if_icmp .eq 7, 3), (245, .iconst 1, 1), (246, .goto 4, 3), (249, .iconst 0, 1), (250, .ireturn, 1), (251, .aload_n 0, 1), (252, .getfield 10, 3), (255, .iconst 0, 1), (256, .invokevirtual 86, 3), (259, .ireturn, 1), (260, .aload_n 0, 1), (261, .getfield 10, 3), (264, .iload_n 3, 1), (265, .invokevirtual 89, 3), (268, .ireturn, 1), (269, .aload_n 0, 1), (270, .getfield 10, 3), (273, .invokevirtual 92, 3), (276, .ireturn, 1), (277, .aload_n 0, 1), (278, .getfield 10, 3), (281, .invokevirtual 95, 3), (284, .ireturn, 1), (285, .iconst 0, 1)] : List (Nat × Instr × Nat)), decode cX10_doLine x.1 = .ok (x.2.1, x.2.2) := by decide +kernel
theorem dX10_doLine_214 : decode cX10_doLine 214 = .ok (.aload_n 0, 1) := DX10_doLine_80 (214, .aload_n 0, 1) (List.mem_of_getElem? (i := 0) rfl)
theorem dX10_doLine_215 : decode cX10_doLine 215 = .ok (.getfield 10, 3) := DX10_doLine_80 (215, .getfield 10, 3) (List.mem_of_getElem? (i := 1) rfl)
theorem dX10_doLine_218 : decode cX10_doLine 218 = .ok (.iload_n 2, 1) := DX10_doLine_80 (218, .iload_n 2, 1) (List.mem_of_getElem? (i := 2) rfl)
theorem dX10_doLine_219 : decode cX10_doLine 219 = .ok (.invokevirtual 59, 3) := DX10_doLine_80 (219, .invokevirtual 59, 3) (List.mem_of_getElem? (i := 3) rfl)
theorem dX10_doLine_222 : decode cX10_doLine 222 = .ok (.ireturn, 1) := DX10_doLine_80 (222, .ireturn, 1) (List.mem_of_getElem? (i := 4) rfl)
theorem dX10_doLine_223 : decode cX10_doLine 223 = .ok (.aload_n 0, 1) := DX10_doLine_80 (223, .aload_n 0, 1) (List.mem_of_getElem? (i := 5) rfl)
theorem dX10_doLine_224 : decode cX10_doLine 224 = .ok (.getfield 10, 3) := DX10_doLine_80 (224, .getfield 10, 3) (List.mem_of_getElem? (i := 6) rfl)
theorem dX10_doLine_227 : decode cX10_doLine 227 = .ok (.iload_n 2, 1) := DX10_doLine_80 (227, .iload_n 2, 1) (List.mem_of_getElem? (i := 7) rfl)
theorem dX10_doLine_228 : decode cX10_doLine 228 = .ok (.invokevirtual 62, 3) := DX10_doLine_80 (228, .invokevirtual 62, 3) (List.mem_of_getElem? (i := 8) rfl)
theorem dX10_doLine_231 : decode cX10_doLine 231 = .ok (.ireturn, 1) := DX10_doLine_80 (231, .ireturn, 1) (List.mem_of_getElem? (i := 9) rfl)
theorem dX10_doLine_232 : decode cX10_doLine 232 = .ok (.aload_n 0, 1) := DX10_doLine_80 (232, .aload_n 0, 1) (List.mem_of_getElem? (i := 10) rfl)
theorem dX10_doLine_233 : decode cX10_doLine 233 = .ok (.getfield 10, 3) := DX10_doLine_80 (233, .getfield 10, 3) (List.mem_of_getElem? (i := 11) rfl)
theorem dX10_doLine_236 : decode cX10_doLine 236 = .ok (.iload_n 2, 1) := DX10_doLine_80 (236, .iload_n 2, 1) (List.mem_of_getElem? (i := 12) rfl)
theorem dX10_doLine_237 : decode cX10_doLine 237 = .ok (.iload_n 3, 1) := DX10_doLine_80 (237, .iload_n 3, 1) (List.mem_of_getElem? (i := 13) rfl)
theorem dX10_doLine_238 : decode cX10_doLine 238 = .ok (.invokevirtual 83, 3) := DX10_doLine_80 (238, .invokevirtual 83, 3) (List.mem_of_getElem? (i := 14) rfl)
theorem dX10_doLine_241 : decode cX10_doLine 241 = .ok (.iconst (-1), 1) := DX10_doLine_80 (241, .iconst (-1), 1) (List.mem_of_getElem? (i := 15) rfl)
theorem dX10_doLine_242 : decode cX10_doLine 242 = .ok (.if_icmp .eq 7, 3) := DX10_doLine_80 (242, .if_icmp .eq 7, 3) (List.mem_of_getElem? (i := 16) rfl)
theorem dX10_doLine_245 : decode cX10_doLine 245 = .ok (.iconst 1, 1) := DX10_doLine_80 (245, .iconst 1, 1) (List.mem_of_getElem? (i := 17) rfl)
theorem dX10_doLine_246 : decode cX10_doLine 246 = .ok (.goto 4, 3) := DX10_doLine_80 (246, .goto 4, 3) (List.mem_of_getElem? (i := 18) rfl)
theorem dX10_doLine_249 : decode cX10_doLine 249 = .ok (.iconst 0, 1) := DX10_doLine_80 (249, .iconst 0, 1) (List.mem_of_getElem? (i := 19) rfl)
theorem dX10_doLine_250 : decode cX10_doLine 250 = .ok (.ireturn, 1) := DX10_doLine_80 (250, .ireturn, 1) (List.mem_of_getElem? (i := 20) rfl)
theorem dX10_doLine_251 : decode cX10_doLine 251 = .ok (.aload_n 0, 1) := DX10_doLine_80 (251, .aload_n 0, 1) (List.mem_of_getElem? (i := 21) rfl)
theorem dX10_doLine_252 : decode cX10_doLine 252 = .ok (.getfield 10, 3) := DX10_doLine_80 (252, .getfield 10, 3) (List.mem_of_getElem? (i := 22) rfl)
theorem dX10_doLine_255 : decode cX10_doLine 255 = .ok (.iconst 0, 1) := DX10_doLine_80 (255, .iconst 0, 1) (List.mem_of_getElem? (i := 23) rfl)
theorem dX10_doLine_256 : decode cX10_doLine 256 = .ok (.invokevirtual 86, 3) := DX10_doLine_80 (256, .invokevirtual 86, 3) (List.mem_of_getElem? (i := 24) rfl)
theorem dX10_doLine_259 : decode cX10_doLine 259 = .ok (.ireturn, 1) := DX10_doLine_80 (259, .ireturn, 1) (List.mem_of_getElem? (i := 25) rfl)
theorem dX10_doLine_260 : decode cX10_doLine 260 = .ok (.aload_n 0, 1) := DX10_doLine_80 (260, .aload_n 0, 1) (List.mem_of_getElem? (i := 26) rfl)
theorem dX10_doLine_261 : decode cX10_doLine 261 = .ok (.getfield 10, 3) := DX10_doLine_80 (261, .getfield 10, 3) (List.mem_of_getElem? (i := 27) rfl)
theorem dX10_doLine_264 : decode cX10_doLine 264 = .ok (.iload_n 3, 1) := DX10_doLine_80 (264, .iload_n 3, 1) (List.mem_of_getElem? (i := 28) rfl)
theorem dX10_doLine_265 : decode cX10_doLine 265 = .ok (.invokevirtual 89, 3) := DX10_doLine_80 (265, .invokevirtual 89, 3) (List.mem_of_getElem? (i := 29) rfl)
theorem dX10_doLine_268 : decode cX10_doLine 268 = .ok (.ireturn, 1) := DX10_doLine_80 (268, .ireturn, 1) (List.mem_of_getElem? (i := 30) rfl)
theorem dX10_doLine_269 : decode cX10_doLine 269 = .ok (.aload_n 0, 1) := DX10_doLine_80 (269, .aload_n 0, 1) (List.mem_of_getElem? (i := 31) rfl)
theorem dX10_doLine_270 : decode cX10_doLine 270 = .ok (.getfield 10, 3) := DX10_doLine_80 (270, .getfield 10, 3) (List.mem_of_getElem? (i := 32) rfl)
theorem dX10_doLine_273 : decode cX10_doLine 273 = .ok (.invokevirtual 92, 3) := DX10_doLine_80 (273, .invokevirtual 92, 3) (List.mem_of_getElem? (i := 33) rfl)
theorem dX10_doLine_276 : decode cX10_doLine 276 = .ok (.ireturn, 1) := DX10_doLine_80 (276, .ireturn, 1) (List.mem_of_getElem? (i := 34) rfl)
theorem dX10_doLine_277 : decode cX10_doLine 277 = .ok (.aload_n 0, 1) := DX10_doLine_80 (277, .aload_n 0, 1) (List.mem_of_getElem? (i := 35) rfl)
theorem dX10_doLine_278 : decode cX10_doLine 278 = .ok (.getfield 10, 3) := DX10_doLine_80 (278, .getfield 10, 3) (List.mem_of_getElem? (i := 36) rfl)
theorem dX10_doLine_281 : decode cX10_doLine 281 = .ok (.invokevirtual 95, 3) := DX10_doLine_80 (281, .invokevirtual 95, 3) (List.mem_of_getElem? (i := 37) rfl)
theorem dX10_doLine_284 : decode cX10_doLine 284 = .ok (.ireturn, 1) := DX10_doLine_80 (284, .ireturn, 1) (List.mem_of_getElem? (i := 38) rfl)
theorem dX10_doLine_285 : decode cX10_doLine 285 = .ok (.iconst 0, 1) := DX10_doLine_80 (285, .iconst 0, 1) (List.mem_of_getElem? (i := 39) rfl)
set_option maxRecDepth 100000 in
theorem DX10_doLine_120 : ∀ x ∈ ([(286, .ireturn, 1)] : List (Nat × Instr × Nat)), decode cX10_doLine x.1 = .ok (x.2.1, x.2.2) := by decide +kernel
theorem dX10_doLine_286 : decode cX10_doLine 286 = .ok (.ireturn, 1) := DX10_doLine_120 (286, .ireturn, 1) (List.mem_of_getElem? (i := 0) rfl)
set_option maxRecDepth 20000 in
theorem ggX10_page_X3_frameOf : GoodIn wsX10_page wsX3_frameOf := goodIn_r _ [11, 12, 13, 36, 37, 38, 39, 40, 41, 42, 43, 44, 45, 46, 47] rfl (by decide +kernel)
set_option maxRecDepth 20000 in
theorem gX10_page_X3_frameOf : GoodIn wsX10_page (wsV RX10 172 RX3 yX3_frameOf wsX3_frameOf) := goodIn_app (goodIn_of _ (by decide +kernel)) ggX10_page_X3_frameOf
set_option maxRecDepth 20000 in
theorem ggX10_page_X3_isLost : GoodIn wsX10_page wsX3_isLost := goodIn_r _ [17, 18, 36, 37, 38, 39, 40, 41, 42, 43, 44, 45, 46, 47] rfl (by decide +kernel)
set_option maxRecDepth 20000 in
theorem gX10_page_X3_isLost : GoodIn wsX10_page (wsV RX10 184 RX3 yX3_isLost wsX3_isLost) := goodIn_app (goodIn_of _ (by decide +kernel)) ggX10_page_X3_isLost
set_option maxRecDepth 100000 in
theorem DX10_at_0 : ∀ x ∈ ([(0, .iload_n 1, 1), (1, .ifCond .lt 10, 3), (4, .iload_n 1, 1), (5, .sipush 256, 3), (8, .if_icmp .lt 5, 3), (11, .iconst (-1), 1), (12, .ireturn, 1), (13, .iload_n 2, 1), (14, .tableswitch 81 0 3 #[30, 42, 55, 68], 30), (44, .aload_n 0, 1), (45, .getfield 10, 3), (48, .getfield 41, 3), (51, .iload_n 1, 1), (52, .invokevirtual 153, 3), (55, .ireturn, 1), (56, .aload_n 0, 1), (57, .getfield 10, 3), (60, .getfield 41, 3), (63, .getfield 156, 3), (66, .iload_n 1, 1), (67, .iaload, 1), (68, .ireturn, 1), (69, .aload_n 0, 1), (70, .getfield 10, 3), (73, .getfield 160, 3), (76, .getfield 164, 3), (79, .iload_n 1, 1), (80, .iaload, 1), (81, .ireturn, 1), (82, .aload_n 0, 1), (83, .getfield 10, 3), (86, .getfield 160, 3), (89, .getfield 169, 3), (92, .iload_n 1, 1), (93, .iaload, 1), (94, .ireturn, 1), (95, .iconst (-1), 1), (96, .ireturn, 1)] : List (Nat × Instr × Nat)), decode cX10_at x.1 = .ok (x.2.1, x.2.2) := by decide +kernel
theorem dX10_at_0 : decode cX10_at 0 = .ok (.iload_n 1, 1) := DX10_at_0 (0, .iload_n 1, 1) (List.mem_of_getElem? (i := 0) rfl)
theorem dX10_at_1 : decode cX10_at 1 = .ok (.ifCond .lt 10, 3) := DX10_at_0 (1, .ifCond .lt 10, 3) (List.mem_of_getElem? (i := 1) rfl)
theorem dX10_at_4 : decode cX10_at 4 = .ok (.iload_n 1, 1) := DX10_at_0 (4, .iload_n 1, 1) (List.mem_of_getElem? (i := 2) rfl)
theorem dX10_at_5 : decode cX10_at 5 = .ok (.sipush 256, 3) := DX10_at_0 (5, .sipush 256, 3) (List.mem_of_getElem? (i := 3) rfl)
theorem dX10_at_8 : decode cX10_at 8 = .ok (.if_icmp .lt 5, 3) := DX10_at_0 (8, .if_icmp .lt 5, 3) (List.mem_of_getElem? (i := 4) rfl)
theorem dX10_at_11 : decode cX10_at 11 = .ok (.iconst (-1), 1) := DX10_at_0 (11, .iconst (-1), 1) (List.mem_of_getElem? (i := 5) rfl)
theorem dX10_at_12 : decode cX10_at 12 = .ok (.ireturn, 1) := DX10_at_0 (12, .ireturn, 1) (List.mem_of_getElem? (i := 6) rfl)
theorem dX10_at_13 : decode cX10_at 13 = .ok (.iload_n 2, 1) := DX10_at_0 (13, .iload_n 2, 1) (List.mem_of_getElem? (i := 7) rfl)
theorem dX10_at_14 : decode cX10_at 14 = .ok (.tableswitch 81 0 3 #[30, 42, 55, 68], 30) := DX10_at_0 (14, .tableswitch 81 0 3 #[30, 42, 55, 68], 30) (List.mem_of_getElem? (i := 8) rfl)
theorem dX10_at_44 : decode cX10_at 44 = .ok (.aload_n 0, 1) := DX10_at_0 (44, .aload_n 0, 1) (List.mem_of_getElem? (i := 9) rfl)
theorem dX10_at_45 : decode cX10_at 45 = .ok (.getfield 10, 3) := DX10_at_0 (45, .getfield 10, 3) (List.mem_of_getElem? (i := 10) rfl)
theorem dX10_at_48 : decode cX10_at 48 = .ok (.getfield 41, 3) := DX10_at_0 (48, .getfield 41, 3) (List.mem_of_getElem? (i := 11) rfl)
theorem dX10_at_51 : decode cX10_at 51 = .ok (.iload_n 1, 1) := DX10_at_0 (51, .iload_n 1, 1) (List.mem_of_getElem? (i := 12) rfl)
theorem dX10_at_52 : decode cX10_at 52 = .ok (.invokevirtual 153, 3) := DX10_at_0 (52, .invokevirtual 153, 3) (List.mem_of_getElem? (i := 13) rfl)
theorem dX10_at_55 : decode cX10_at 55 = .ok (.ireturn, 1) := DX10_at_0 (55, .ireturn, 1) (List.mem_of_getElem? (i := 14) rfl)
theorem dX10_at_56 : decode cX10_at 56 = .ok (.aload_n 0, 1) := DX10_at_0 (56, .aload_n 0, 1) (List.mem_of_getElem? (i := 15) rfl)
theorem dX10_at_57 : decode cX10_at 57 = .ok (.getfield 10, 3) := DX10_at_0 (57, .getfield 10, 3) (List.mem_of_getElem? (i := 16) rfl)
theorem dX10_at_60 : decode cX10_at 60 = .ok (.getfield 41, 3) := DX10_at_0 (60, .getfield 41, 3) (List.mem_of_getElem? (i := 17) rfl)
theorem dX10_at_63 : decode cX10_at 63 = .ok (.getfield 156, 3) := DX10_at_0 (63, .getfield 156, 3) (List.mem_of_getElem? (i := 18) rfl)
theorem dX10_at_66 : decode cX10_at 66 = .ok (.iload_n 1, 1) := DX10_at_0 (66, .iload_n 1, 1) (List.mem_of_getElem? (i := 19) rfl)
theorem dX10_at_67 : decode cX10_at 67 = .ok (.iaload, 1) := DX10_at_0 (67, .iaload, 1) (List.mem_of_getElem? (i := 20) rfl)
theorem dX10_at_68 : decode cX10_at 68 = .ok (.ireturn, 1) := DX10_at_0 (68, .ireturn, 1) (List.mem_of_getElem? (i := 21) rfl)
theorem dX10_at_69 : decode cX10_at 69 = .ok (.aload_n 0, 1) := DX10_at_0 (69, .aload_n 0, 1) (List.mem_of_getElem? (i := 22) rfl)
theorem dX10_at_70 : decode cX10_at 70 = .ok (.getfield 10, 3) := DX10_at_0 (70, .getfield 10, 3) (List.mem_of_getElem? (i := 23) rfl)
theorem dX10_at_73 : decode cX10_at 73 = .ok (.getfield 160, 3) := DX10_at_0 (73, .getfield 160, 3) (List.mem_of_getElem? (i := 24) rfl)
theorem dX10_at_76 : decode cX10_at 76 = .ok (.getfield 164, 3) := DX10_at_0 (76, .getfield 164, 3) (List.mem_of_getElem? (i := 25) rfl)
theorem dX10_at_79 : decode cX10_at 79 = .ok (.iload_n 1, 1) := DX10_at_0 (79, .iload_n 1, 1) (List.mem_of_getElem? (i := 26) rfl)
theorem dX10_at_80 : decode cX10_at 80 = .ok (.iaload, 1) := DX10_at_0 (80, .iaload, 1) (List.mem_of_getElem? (i := 27) rfl)
theorem dX10_at_81 : decode cX10_at 81 = .ok (.ireturn, 1) := DX10_at_0 (81, .ireturn, 1) (List.mem_of_getElem? (i := 28) rfl)
theorem dX10_at_82 : decode cX10_at 82 = .ok (.aload_n 0, 1) := DX10_at_0 (82, .aload_n 0, 1) (List.mem_of_getElem? (i := 29) rfl)
theorem dX10_at_83 : decode cX10_at 83 = .ok (.getfield 10, 3) := DX10_at_0 (83, .getfield 10, 3) (List.mem_of_getElem? (i := 30) rfl)
theorem dX10_at_86 : decode cX10_at 86 = .ok (.getfield 160, 3) := DX10_at_0 (86, .getfield 160, 3) (List.mem_of_getElem? (i := 31) rfl)
theorem dX10_at_89 : decode cX10_at 89 = .ok (.getfield 169, 3) := DX10_at_0 (89, .getfield 169, 3) (List.mem_of_getElem? (i := 32) rfl)
theorem dX10_at_92 : decode cX10_at 92 = .ok (.iload_n 1, 1) := DX10_at_0 (92, .iload_n 1, 1) (List.mem_of_getElem? (i := 33) rfl)
theorem dX10_at_93 : decode cX10_at 93 = .ok (.iaload, 1) := DX10_at_0 (93, .iaload, 1) (List.mem_of_getElem? (i := 34) rfl)
theorem dX10_at_94 : decode cX10_at 94 = .ok (.ireturn, 1) := DX10_at_0 (94, .ireturn, 1) (List.mem_of_getElem? (i := 35) rfl)
theorem dX10_at_95 : decode cX10_at 95 = .ok (.iconst (-1), 1) := DX10_at_0 (95, .iconst (-1), 1) (List.mem_of_getElem? (i := 36) rfl)
theorem dX10_at_96 : decode cX10_at 96 = .ok (.ireturn, 1) := DX10_at_0 (96, .ireturn, 1) (List.mem_of_getElem? (i := 37) rfl)
set_option maxRecDepth 20000 in
theorem ggX10_tx_X10_isParty : GoodIn wsX10_tx wsX10_isParty := goodIn_r _ [13] rfl (by decide +kernel)
set_option maxRecDepth 20000 in
theorem gX10_tx_X10_isParty : GoodIn wsX10_tx (va_wsS RX10 190 yX10_isParty wsX10_isParty) := goodIn_app (goodIn_of _ (by decide +kernel)) ggX10_tx_X10_isParty
set_option maxRecDepth 20000 in
theorem ggX10_tx_X9_cost : GoodIn wsX10_tx wsX9_cost := goodIn_r _ [18, 19, 20, 21, 22, 23, 24, 25, 26, 27, 28, 29, 30, 31, 32, 33, 34, 35, 36, 37, 38, 39, 40, 41, 42, 43, 44, 45, 46, 47, 60, 61, 62, 63, 64, 65, 66, 67, 68, 69, 70, 71, 72, 73, 81, 82, 83, 84] rfl (by decide +kernel)
set_option maxRecDepth 20000 in
theorem gX10_tx_X9_cost : GoodIn wsX10_tx (wsV RX10 217 RX9 yX9_cost wsX9_cost) := goodIn_app (goodIn_of _ (by decide +kernel)) ggX10_tx_X9_cost
set_option maxRecDepth 20000 in
theorem ggX10_tx_X0_deadlocked : GoodIn wsX10_tx wsX0_deadlocked := goodIn_r _ [52, 53, 74, 75, 76, 77, 78, 79, 80] rfl (by decide +kernel)
set_option maxRecDepth 20000 in
theorem gX10_tx_X0_deadlocked : GoodIn wsX10_tx (wsV RX10 220 RX0 yX0_deadlocked wsX0_deadlocked) := goodIn_app (goodIn_of _ (by decide +kernel)) ggX10_tx_X0_deadlocked
set_option maxRecDepth 100000 in
theorem DX10_page_0 : ∀ x ∈ ([(0, .iload_n 1, 1), (1, .ifCond .lt 9, 3), (4, .iload_n 1, 1), (5, .bipush 16, 2), (7, .if_icmp .lt 5, 3), (10, .iconst (-1), 1), (11, .ireturn, 1), (12, .aload_n 0, 1), (13, .getfield 10, 3), (16, .getfield 41, 3), (19, .iload_n 1, 1), (20, .invokevirtual 172, 3), (23, .istore_n 3, 1), (24, .iload_n 2, 1), (25, .tableswitch 140 0 5 #[39, 71, 84, 86, 107, 127], 39), (64, .iload_n 3, 1), (65, .ifCond .ge 18, 3), (68, .aload_n 0, 1), (69, .getfield 10, 3), (72, .getfield 41, 3), (75, .getfield 175, 3), (78, .iload_n 1, 1), (79, .iaload, 1), (80, .goto 15, 3), (83, .aload_n 0, 1), (84, .getfield 10, 3), (87, .getfield 41, 3), (90, .getfield 178, 3), (93, .iload_n 3, 1), (94, .iaload, 1), (95, .ireturn, 1), (96, .aload_n 0, 1), (97, .getfield 10, 3), (100, .getfield 41, 3), (103, .getfield 175, 3), (106, .iload_n 1, 1), (107, .iaload, 1), (108, .ireturn, 1), (109, .iload_n 3, 1), (110, .ireturn, 1)] : List (Nat × Instr × Nat)), decode cX10_page x.1 = .ok (x.2.1, x.2.2) := by decide +kernel
theorem dX10_page_0 : decode cX10_page 0 = .ok (.iload_n 1, 1) := DX10_page_0 (0, .iload_n 1, 1) (List.mem_of_getElem? (i := 0) rfl)
theorem dX10_page_1 : decode cX10_page 1 = .ok (.ifCond .lt 9, 3) := DX10_page_0 (1, .ifCond .lt 9, 3) (List.mem_of_getElem? (i := 1) rfl)
theorem dX10_page_4 : decode cX10_page 4 = .ok (.iload_n 1, 1) := DX10_page_0 (4, .iload_n 1, 1) (List.mem_of_getElem? (i := 2) rfl)
theorem dX10_page_5 : decode cX10_page 5 = .ok (.bipush 16, 2) := DX10_page_0 (5, .bipush 16, 2) (List.mem_of_getElem? (i := 3) rfl)
theorem dX10_page_7 : decode cX10_page 7 = .ok (.if_icmp .lt 5, 3) := DX10_page_0 (7, .if_icmp .lt 5, 3) (List.mem_of_getElem? (i := 4) rfl)
theorem dX10_page_10 : decode cX10_page 10 = .ok (.iconst (-1), 1) := DX10_page_0 (10, .iconst (-1), 1) (List.mem_of_getElem? (i := 5) rfl)
theorem dX10_page_11 : decode cX10_page 11 = .ok (.ireturn, 1) := DX10_page_0 (11, .ireturn, 1) (List.mem_of_getElem? (i := 6) rfl)
theorem dX10_page_12 : decode cX10_page 12 = .ok (.aload_n 0, 1) := DX10_page_0 (12, .aload_n 0, 1) (List.mem_of_getElem? (i := 7) rfl)
theorem dX10_page_13 : decode cX10_page 13 = .ok (.getfield 10, 3) := DX10_page_0 (13, .getfield 10, 3) (List.mem_of_getElem? (i := 8) rfl)
theorem dX10_page_16 : decode cX10_page 16 = .ok (.getfield 41, 3) := DX10_page_0 (16, .getfield 41, 3) (List.mem_of_getElem? (i := 9) rfl)
theorem dX10_page_19 : decode cX10_page 19 = .ok (.iload_n 1, 1) := DX10_page_0 (19, .iload_n 1, 1) (List.mem_of_getElem? (i := 10) rfl)
theorem dX10_page_20 : decode cX10_page 20 = .ok (.invokevirtual 172, 3) := DX10_page_0 (20, .invokevirtual 172, 3) (List.mem_of_getElem? (i := 11) rfl)
theorem dX10_page_23 : decode cX10_page 23 = .ok (.istore_n 3, 1) := DX10_page_0 (23, .istore_n 3, 1) (List.mem_of_getElem? (i := 12) rfl)
theorem dX10_page_24 : decode cX10_page 24 = .ok (.iload_n 2, 1) := DX10_page_0 (24, .iload_n 2, 1) (List.mem_of_getElem? (i := 13) rfl)
theorem dX10_page_25 : decode cX10_page 25 = .ok (.tableswitch 140 0 5 #[39, 71, 84, 86, 107, 127], 39) := DX10_page_0 (25, .tableswitch 140 0 5 #[39, 71, 84, 86, 107, 127], 39) (List.mem_of_getElem? (i := 14) rfl)
theorem dX10_page_64 : decode cX10_page 64 = .ok (.iload_n 3, 1) := DX10_page_0 (64, .iload_n 3, 1) (List.mem_of_getElem? (i := 15) rfl)
theorem dX10_page_65 : decode cX10_page 65 = .ok (.ifCond .ge 18, 3) := DX10_page_0 (65, .ifCond .ge 18, 3) (List.mem_of_getElem? (i := 16) rfl)
theorem dX10_page_68 : decode cX10_page 68 = .ok (.aload_n 0, 1) := DX10_page_0 (68, .aload_n 0, 1) (List.mem_of_getElem? (i := 17) rfl)
theorem dX10_page_69 : decode cX10_page 69 = .ok (.getfield 10, 3) := DX10_page_0 (69, .getfield 10, 3) (List.mem_of_getElem? (i := 18) rfl)
theorem dX10_page_72 : decode cX10_page 72 = .ok (.getfield 41, 3) := DX10_page_0 (72, .getfield 41, 3) (List.mem_of_getElem? (i := 19) rfl)
theorem dX10_page_75 : decode cX10_page 75 = .ok (.getfield 175, 3) := DX10_page_0 (75, .getfield 175, 3) (List.mem_of_getElem? (i := 20) rfl)
theorem dX10_page_78 : decode cX10_page 78 = .ok (.iload_n 1, 1) := DX10_page_0 (78, .iload_n 1, 1) (List.mem_of_getElem? (i := 21) rfl)
theorem dX10_page_79 : decode cX10_page 79 = .ok (.iaload, 1) := DX10_page_0 (79, .iaload, 1) (List.mem_of_getElem? (i := 22) rfl)
theorem dX10_page_80 : decode cX10_page 80 = .ok (.goto 15, 3) := DX10_page_0 (80, .goto 15, 3) (List.mem_of_getElem? (i := 23) rfl)
theorem dX10_page_83 : decode cX10_page 83 = .ok (.aload_n 0, 1) := DX10_page_0 (83, .aload_n 0, 1) (List.mem_of_getElem? (i := 24) rfl)
theorem dX10_page_84 : decode cX10_page 84 = .ok (.getfield 10, 3) := DX10_page_0 (84, .getfield 10, 3) (List.mem_of_getElem? (i := 25) rfl)
theorem dX10_page_87 : decode cX10_page 87 = .ok (.getfield 41, 3) := DX10_page_0 (87, .getfield 41, 3) (List.mem_of_getElem? (i := 26) rfl)
theorem dX10_page_90 : decode cX10_page 90 = .ok (.getfield 178, 3) := DX10_page_0 (90, .getfield 178, 3) (List.mem_of_getElem? (i := 27) rfl)
theorem dX10_page_93 : decode cX10_page 93 = .ok (.iload_n 3, 1) := DX10_page_0 (93, .iload_n 3, 1) (List.mem_of_getElem? (i := 28) rfl)
theorem dX10_page_94 : decode cX10_page 94 = .ok (.iaload, 1) := DX10_page_0 (94, .iaload, 1) (List.mem_of_getElem? (i := 29) rfl)
theorem dX10_page_95 : decode cX10_page 95 = .ok (.ireturn, 1) := DX10_page_0 (95, .ireturn, 1) (List.mem_of_getElem? (i := 30) rfl)
theorem dX10_page_96 : decode cX10_page 96 = .ok (.aload_n 0, 1) := DX10_page_0 (96, .aload_n 0, 1) (List.mem_of_getElem? (i := 31) rfl)
theorem dX10_page_97 : decode cX10_page 97 = .ok (.getfield 10, 3) := DX10_page_0 (97, .getfield 10, 3) (List.mem_of_getElem? (i := 32) rfl)
theorem dX10_page_100 : decode cX10_page 100 = .ok (.getfield 41, 3) := DX10_page_0 (100, .getfield 41, 3) (List.mem_of_getElem? (i := 33) rfl)
theorem dX10_page_103 : decode cX10_page 103 = .ok (.getfield 175, 3) := DX10_page_0 (103, .getfield 175, 3) (List.mem_of_getElem? (i := 34) rfl)
theorem dX10_page_106 : decode cX10_page 106 = .ok (.iload_n 1, 1) := DX10_page_0 (106, .iload_n 1, 1) (List.mem_of_getElem? (i := 35) rfl)
theorem dX10_page_107 : decode cX10_page 107 = .ok (.iaload, 1) := DX10_page_0 (107, .iaload, 1) (List.mem_of_getElem? (i := 36) rfl)
theorem dX10_page_108 : decode cX10_page 108 = .ok (.ireturn, 1) := DX10_page_0 (108, .ireturn, 1) (List.mem_of_getElem? (i := 37) rfl)
theorem dX10_page_109 : decode cX10_page 109 = .ok (.iload_n 3, 1) := DX10_page_0 (109, .iload_n 3, 1) (List.mem_of_getElem? (i := 38) rfl)
theorem dX10_page_110 : decode cX10_page 110 = .ok (.ireturn, 1) := DX10_page_0 (110, .ireturn, 1) (List.mem_of_getElem? (i := 39) rfl)
set_option maxRecDepth 100000 in
theorem DX10_page_40 : ∀ x ∈ ([(111, .iload_n 3, 1), (112, .ifCond .ge 7, 3), (115, .iconst 0, 1), (116, .goto 15, 3), (119, .aload_n 0, 1), (120, .getfield 10, 3), (123, .getfield 41, 3), (126, .getfield 181, 3), (129, .iload_n 3, 1), (130, .iaload, 1), (131, .ireturn, 1), (132, .aload_n 0, 1), (133, .getfield 10, 3), (136, .getfield 41, 3), (139, .iload_n 1, 1), (140, .invokevirtual 184, 3), (143, .ifCond .eq 7, 3), (146, .iconst 1, 1), (147, .goto 4, 3), (150, .iconst 0, 1), (151, .ireturn, 1), (152, .aload_n 0, 1), (153, .getfield 10, 3), (156, .getfield 41, 3), (159, .getfield 187, 3), (162, .iload_n 1, 1), (163, .iaload, 1), (164, .ireturn, 1), (165, .iconst (-1), 1), (166, .ireturn, 1)] : List (Nat × Instr × Nat)), decode cX10_page x.1 = .ok (x.2.1, x.2.2) := by decide +kernel
theorem dX10_page_111 : decode cX10_page 111 = .ok (.iload_n 3, 1) := DX10_page_40 (111, .iload_n 3, 1) (List.mem_of_getElem? (i := 0) rfl)
theorem dX10_page_112 : decode cX10_page 112 = .ok (.ifCond .ge 7, 3) := DX10_page_40 (112, .ifCond .ge 7, 3) (List.mem_of_getElem? (i := 1) rfl)
theorem dX10_page_115 : decode cX10_page 115 = .ok (.iconst 0, 1) := DX10_page_40 (115, .iconst 0, 1) (List.mem_of_getElem? (i := 2) rfl)
theorem dX10_page_116 : decode cX10_page 116 = .ok (.goto 15, 3) := DX10_page_40 (116, .goto 15, 3) (List.mem_of_getElem? (i := 3) rfl)
theorem dX10_page_119 : decode cX10_page 119 = .ok (.aload_n 0, 1) := DX10_page_40 (119, .aload_n 0, 1) (List.mem_of_getElem? (i := 4) rfl)
theorem dX10_page_120 : decode cX10_page 120 = .ok (.getfield 10, 3) := DX10_page_40 (120, .getfield 10, 3) (List.mem_of_getElem? (i := 5) rfl)
theorem dX10_page_123 : decode cX10_page 123 = .ok (.getfield 41, 3) := DX10_page_40 (123, .getfield 41, 3) (List.mem_of_getElem? (i := 6) rfl)
theorem dX10_page_126 : decode cX10_page 126 = .ok (.getfield 181, 3) := DX10_page_40 (126, .getfield 181, 3) (List.mem_of_getElem? (i := 7) rfl)
theorem dX10_page_129 : decode cX10_page 129 = .ok (.iload_n 3, 1) := DX10_page_40 (129, .iload_n 3, 1) (List.mem_of_getElem? (i := 8) rfl)
theorem dX10_page_130 : decode cX10_page 130 = .ok (.iaload, 1) := DX10_page_40 (130, .iaload, 1) (List.mem_of_getElem? (i := 9) rfl)
theorem dX10_page_131 : decode cX10_page 131 = .ok (.ireturn, 1) := DX10_page_40 (131, .ireturn, 1) (List.mem_of_getElem? (i := 10) rfl)
theorem dX10_page_132 : decode cX10_page 132 = .ok (.aload_n 0, 1) := DX10_page_40 (132, .aload_n 0, 1) (List.mem_of_getElem? (i := 11) rfl)
theorem dX10_page_133 : decode cX10_page 133 = .ok (.getfield 10, 3) := DX10_page_40 (133, .getfield 10, 3) (List.mem_of_getElem? (i := 12) rfl)
theorem dX10_page_136 : decode cX10_page 136 = .ok (.getfield 41, 3) := DX10_page_40 (136, .getfield 41, 3) (List.mem_of_getElem? (i := 13) rfl)
theorem dX10_page_139 : decode cX10_page 139 = .ok (.iload_n 1, 1) := DX10_page_40 (139, .iload_n 1, 1) (List.mem_of_getElem? (i := 14) rfl)
theorem dX10_page_140 : decode cX10_page 140 = .ok (.invokevirtual 184, 3) := DX10_page_40 (140, .invokevirtual 184, 3) (List.mem_of_getElem? (i := 15) rfl)
theorem dX10_page_143 : decode cX10_page 143 = .ok (.ifCond .eq 7, 3) := DX10_page_40 (143, .ifCond .eq 7, 3) (List.mem_of_getElem? (i := 16) rfl)
theorem dX10_page_146 : decode cX10_page 146 = .ok (.iconst 1, 1) := DX10_page_40 (146, .iconst 1, 1) (List.mem_of_getElem? (i := 17) rfl)
theorem dX10_page_147 : decode cX10_page 147 = .ok (.goto 4, 3) := DX10_page_40 (147, .goto 4, 3) (List.mem_of_getElem? (i := 18) rfl)
theorem dX10_page_150 : decode cX10_page 150 = .ok (.iconst 0, 1) := DX10_page_40 (150, .iconst 0, 1) (List.mem_of_getElem? (i := 19) rfl)
theorem dX10_page_151 : decode cX10_page 151 = .ok (.ireturn, 1) := DX10_page_40 (151, .ireturn, 1) (List.mem_of_getElem? (i := 20) rfl)
theorem dX10_page_152 : decode cX10_page 152 = .ok (.aload_n 0, 1) := DX10_page_40 (152, .aload_n 0, 1) (List.mem_of_getElem? (i := 21) rfl)
theorem dX10_page_153 : decode cX10_page 153 = .ok (.getfield 10, 3) := DX10_page_40 (153, .getfield 10, 3) (List.mem_of_getElem? (i := 22) rfl)
theorem dX10_page_156 : decode cX10_page 156 = .ok (.getfield 41, 3) := DX10_page_40 (156, .getfield 41, 3) (List.mem_of_getElem? (i := 23) rfl)
theorem dX10_page_159 : decode cX10_page 159 = .ok (.getfield 187, 3) := DX10_page_40 (159, .getfield 187, 3) (List.mem_of_getElem? (i := 24) rfl)
theorem dX10_page_162 : decode cX10_page 162 = .ok (.iload_n 1, 1) := DX10_page_40 (162, .iload_n 1, 1) (List.mem_of_getElem? (i := 25) rfl)
theorem dX10_page_163 : decode cX10_page 163 = .ok (.iaload, 1) := DX10_page_40 (163, .iaload, 1) (List.mem_of_getElem? (i := 26) rfl)
theorem dX10_page_164 : decode cX10_page 164 = .ok (.ireturn, 1) := DX10_page_40 (164, .ireturn, 1) (List.mem_of_getElem? (i := 27) rfl)
theorem dX10_page_165 : decode cX10_page 165 = .ok (.iconst (-1), 1) := DX10_page_40 (165, .iconst (-1), 1) (List.mem_of_getElem? (i := 28) rfl)
theorem dX10_page_166 : decode cX10_page 166 = .ok (.ireturn, 1) := DX10_page_40 (166, .ireturn, 1) (List.mem_of_getElem? (i := 29) rfl)
set_option maxRecDepth 20000 in
theorem ggX10_log_X2_byteAt : GoodIn wsX10_log wsX2_byteAt := goodIn_r _ [8, 9, 10, 28, 29, 30, 31] rfl (by decide +kernel)
set_option maxRecDepth 20000 in
theorem gX10_log_X2_byteAt : GoodIn wsX10_log (wsV RX10 232 RX2 yX2_byteAt wsX2_byteAt) := goodIn_app (goodIn_of _ (by decide +kernel)) ggX10_log_X2_byteAt
set_option maxRecDepth 100000 in
theorem DX10_tx_0 : ∀ x ∈ ([(0, .iload_n 1, 1), (1, .invokestatic 190, 3), (4, .ifCond .ne 5, 3), (7, .iconst (-1), 1), (8, .ireturn, 1), (9, .iload_n 2, 1), (10, .tableswitch 153 0 7 #[46, 59, 72, 85, 98, 111, 124, 133], 46), (56, .aload_n 0, 1), (57, .getfield 10, 3), (60, .getfield 193, 3), (63, .getfield 197, 3), (66, .iload_n 1, 1), (67, .iaload, 1), (68, .ireturn, 1), (69, .aload_n 0, 1), (70, .getfield 10, 3), (73, .getfield 193, 3), (76, .getfield 202, 3), (79, .iload_n 1, 1), (80, .iaload, 1), (81, .ireturn, 1), (82, .aload_n 0, 1), (83, .getfield 10, 3), (86, .getfield 193, 3), (89, .getfield 205, 3), (92, .iload_n 1, 1), (93, .iaload, 1), (94, .ireturn, 1), (95, .aload_n 0, 1), (96, .getfield 10, 3), (99, .getfield 160, 3), (102, .getfield 208, 3), (105, .iload_n 1, 1), (106, .iaload, 1), (107, .ireturn, 1), (108, .aload_n 0, 1), (109, .getfield 10, 3), (112, .getfield 160, 3), (115, .getfield 211, 3), (118, .iload_n 1, 1)] : List (Nat × Instr × Nat)), decode cX10_tx x.1 = .ok (x.2.1, x.2.2) := by decide +kernel
theorem dX10_tx_0 : decode cX10_tx 0 = .ok (.iload_n 1, 1) := DX10_tx_0 (0, .iload_n 1, 1) (List.mem_of_getElem? (i := 0) rfl)
theorem dX10_tx_1 : decode cX10_tx 1 = .ok (.invokestatic 190, 3) := DX10_tx_0 (1, .invokestatic 190, 3) (List.mem_of_getElem? (i := 1) rfl)
theorem dX10_tx_4 : decode cX10_tx 4 = .ok (.ifCond .ne 5, 3) := DX10_tx_0 (4, .ifCond .ne 5, 3) (List.mem_of_getElem? (i := 2) rfl)
theorem dX10_tx_7 : decode cX10_tx 7 = .ok (.iconst (-1), 1) := DX10_tx_0 (7, .iconst (-1), 1) (List.mem_of_getElem? (i := 3) rfl)
theorem dX10_tx_8 : decode cX10_tx 8 = .ok (.ireturn, 1) := DX10_tx_0 (8, .ireturn, 1) (List.mem_of_getElem? (i := 4) rfl)
theorem dX10_tx_9 : decode cX10_tx 9 = .ok (.iload_n 2, 1) := DX10_tx_0 (9, .iload_n 2, 1) (List.mem_of_getElem? (i := 5) rfl)
theorem dX10_tx_10 : decode cX10_tx 10 = .ok (.tableswitch 153 0 7 #[46, 59, 72, 85, 98, 111, 124, 133], 46) := DX10_tx_0 (10, .tableswitch 153 0 7 #[46, 59, 72, 85, 98, 111, 124, 133], 46) (List.mem_of_getElem? (i := 6) rfl)
theorem dX10_tx_56 : decode cX10_tx 56 = .ok (.aload_n 0, 1) := DX10_tx_0 (56, .aload_n 0, 1) (List.mem_of_getElem? (i := 7) rfl)
theorem dX10_tx_57 : decode cX10_tx 57 = .ok (.getfield 10, 3) := DX10_tx_0 (57, .getfield 10, 3) (List.mem_of_getElem? (i := 8) rfl)
theorem dX10_tx_60 : decode cX10_tx 60 = .ok (.getfield 193, 3) := DX10_tx_0 (60, .getfield 193, 3) (List.mem_of_getElem? (i := 9) rfl)
theorem dX10_tx_63 : decode cX10_tx 63 = .ok (.getfield 197, 3) := DX10_tx_0 (63, .getfield 197, 3) (List.mem_of_getElem? (i := 10) rfl)
theorem dX10_tx_66 : decode cX10_tx 66 = .ok (.iload_n 1, 1) := DX10_tx_0 (66, .iload_n 1, 1) (List.mem_of_getElem? (i := 11) rfl)
theorem dX10_tx_67 : decode cX10_tx 67 = .ok (.iaload, 1) := DX10_tx_0 (67, .iaload, 1) (List.mem_of_getElem? (i := 12) rfl)
theorem dX10_tx_68 : decode cX10_tx 68 = .ok (.ireturn, 1) := DX10_tx_0 (68, .ireturn, 1) (List.mem_of_getElem? (i := 13) rfl)
theorem dX10_tx_69 : decode cX10_tx 69 = .ok (.aload_n 0, 1) := DX10_tx_0 (69, .aload_n 0, 1) (List.mem_of_getElem? (i := 14) rfl)
theorem dX10_tx_70 : decode cX10_tx 70 = .ok (.getfield 10, 3) := DX10_tx_0 (70, .getfield 10, 3) (List.mem_of_getElem? (i := 15) rfl)
theorem dX10_tx_73 : decode cX10_tx 73 = .ok (.getfield 193, 3) := DX10_tx_0 (73, .getfield 193, 3) (List.mem_of_getElem? (i := 16) rfl)
theorem dX10_tx_76 : decode cX10_tx 76 = .ok (.getfield 202, 3) := DX10_tx_0 (76, .getfield 202, 3) (List.mem_of_getElem? (i := 17) rfl)
theorem dX10_tx_79 : decode cX10_tx 79 = .ok (.iload_n 1, 1) := DX10_tx_0 (79, .iload_n 1, 1) (List.mem_of_getElem? (i := 18) rfl)
theorem dX10_tx_80 : decode cX10_tx 80 = .ok (.iaload, 1) := DX10_tx_0 (80, .iaload, 1) (List.mem_of_getElem? (i := 19) rfl)
theorem dX10_tx_81 : decode cX10_tx 81 = .ok (.ireturn, 1) := DX10_tx_0 (81, .ireturn, 1) (List.mem_of_getElem? (i := 20) rfl)
theorem dX10_tx_82 : decode cX10_tx 82 = .ok (.aload_n 0, 1) := DX10_tx_0 (82, .aload_n 0, 1) (List.mem_of_getElem? (i := 21) rfl)
theorem dX10_tx_83 : decode cX10_tx 83 = .ok (.getfield 10, 3) := DX10_tx_0 (83, .getfield 10, 3) (List.mem_of_getElem? (i := 22) rfl)
theorem dX10_tx_86 : decode cX10_tx 86 = .ok (.getfield 193, 3) := DX10_tx_0 (86, .getfield 193, 3) (List.mem_of_getElem? (i := 23) rfl)
theorem dX10_tx_89 : decode cX10_tx 89 = .ok (.getfield 205, 3) := DX10_tx_0 (89, .getfield 205, 3) (List.mem_of_getElem? (i := 24) rfl)
theorem dX10_tx_92 : decode cX10_tx 92 = .ok (.iload_n 1, 1) := DX10_tx_0 (92, .iload_n 1, 1) (List.mem_of_getElem? (i := 25) rfl)
theorem dX10_tx_93 : decode cX10_tx 93 = .ok (.iaload, 1) := DX10_tx_0 (93, .iaload, 1) (List.mem_of_getElem? (i := 26) rfl)
theorem dX10_tx_94 : decode cX10_tx 94 = .ok (.ireturn, 1) := DX10_tx_0 (94, .ireturn, 1) (List.mem_of_getElem? (i := 27) rfl)
theorem dX10_tx_95 : decode cX10_tx 95 = .ok (.aload_n 0, 1) := DX10_tx_0 (95, .aload_n 0, 1) (List.mem_of_getElem? (i := 28) rfl)
theorem dX10_tx_96 : decode cX10_tx 96 = .ok (.getfield 10, 3) := DX10_tx_0 (96, .getfield 10, 3) (List.mem_of_getElem? (i := 29) rfl)
theorem dX10_tx_99 : decode cX10_tx 99 = .ok (.getfield 160, 3) := DX10_tx_0 (99, .getfield 160, 3) (List.mem_of_getElem? (i := 30) rfl)
theorem dX10_tx_102 : decode cX10_tx 102 = .ok (.getfield 208, 3) := DX10_tx_0 (102, .getfield 208, 3) (List.mem_of_getElem? (i := 31) rfl)
theorem dX10_tx_105 : decode cX10_tx 105 = .ok (.iload_n 1, 1) := DX10_tx_0 (105, .iload_n 1, 1) (List.mem_of_getElem? (i := 32) rfl)
theorem dX10_tx_106 : decode cX10_tx 106 = .ok (.iaload, 1) := DX10_tx_0 (106, .iaload, 1) (List.mem_of_getElem? (i := 33) rfl)
theorem dX10_tx_107 : decode cX10_tx 107 = .ok (.ireturn, 1) := DX10_tx_0 (107, .ireturn, 1) (List.mem_of_getElem? (i := 34) rfl)
theorem dX10_tx_108 : decode cX10_tx 108 = .ok (.aload_n 0, 1) := DX10_tx_0 (108, .aload_n 0, 1) (List.mem_of_getElem? (i := 35) rfl)
theorem dX10_tx_109 : decode cX10_tx 109 = .ok (.getfield 10, 3) := DX10_tx_0 (109, .getfield 10, 3) (List.mem_of_getElem? (i := 36) rfl)
theorem dX10_tx_112 : decode cX10_tx 112 = .ok (.getfield 160, 3) := DX10_tx_0 (112, .getfield 160, 3) (List.mem_of_getElem? (i := 37) rfl)
theorem dX10_tx_115 : decode cX10_tx 115 = .ok (.getfield 211, 3) := DX10_tx_0 (115, .getfield 211, 3) (List.mem_of_getElem? (i := 38) rfl)
theorem dX10_tx_118 : decode cX10_tx 118 = .ok (.iload_n 1, 1) := DX10_tx_0 (118, .iload_n 1, 1) (List.mem_of_getElem? (i := 39) rfl)
set_option maxRecDepth 100000 in
theorem DX10_tx_40 : ∀ x ∈ ([(119, .iaload, 1), (120, .ireturn, 1), (121, .aload_n 0, 1), (122, .getfield 10, 3), (125, .getfield 160, 3), (128, .getfield 214, 3), (131, .iload_n 1, 1), (132, .iaload, 1), (133, .ireturn, 1), (134, .aload_n 0, 1), (135, .getfield 10, 3), (138, .iload_n 1, 1), (139, .invokevirtual 217, 3), (142, .ireturn, 1), (143, .aload_n 0, 1), (144, .getfield 10, 3), (147, .getfield 160, 3), (150, .iload_n 1, 1), (151, .invokevirtual 220, 3), (154, .ifCond .eq 7, 3), (157, .iconst 1, 1), (158, .goto 4, 3), (161, .iconst 0, 1), (162, .ireturn, 1), (163, .iconst (-1), 1), (164, .ireturn, 1)] : List (Nat × Instr × Nat)), decode cX10_tx x.1 = .ok (x.2.1, x.2.2) := by decide +kernel
theorem dX10_tx_119 : decode cX10_tx 119 = .ok (.iaload, 1) := DX10_tx_40 (119, .iaload, 1) (List.mem_of_getElem? (i := 0) rfl)
theorem dX10_tx_120 : decode cX10_tx 120 = .ok (.ireturn, 1) := DX10_tx_40 (120, .ireturn, 1) (List.mem_of_getElem? (i := 1) rfl)
theorem dX10_tx_121 : decode cX10_tx 121 = .ok (.aload_n 0, 1) := DX10_tx_40 (121, .aload_n 0, 1) (List.mem_of_getElem? (i := 2) rfl)
theorem dX10_tx_122 : decode cX10_tx 122 = .ok (.getfield 10, 3) := DX10_tx_40 (122, .getfield 10, 3) (List.mem_of_getElem? (i := 3) rfl)
theorem dX10_tx_125 : decode cX10_tx 125 = .ok (.getfield 160, 3) := DX10_tx_40 (125, .getfield 160, 3) (List.mem_of_getElem? (i := 4) rfl)
theorem dX10_tx_128 : decode cX10_tx 128 = .ok (.getfield 214, 3) := DX10_tx_40 (128, .getfield 214, 3) (List.mem_of_getElem? (i := 5) rfl)
theorem dX10_tx_131 : decode cX10_tx 131 = .ok (.iload_n 1, 1) := DX10_tx_40 (131, .iload_n 1, 1) (List.mem_of_getElem? (i := 6) rfl)
theorem dX10_tx_132 : decode cX10_tx 132 = .ok (.iaload, 1) := DX10_tx_40 (132, .iaload, 1) (List.mem_of_getElem? (i := 7) rfl)
theorem dX10_tx_133 : decode cX10_tx 133 = .ok (.ireturn, 1) := DX10_tx_40 (133, .ireturn, 1) (List.mem_of_getElem? (i := 8) rfl)
theorem dX10_tx_134 : decode cX10_tx 134 = .ok (.aload_n 0, 1) := DX10_tx_40 (134, .aload_n 0, 1) (List.mem_of_getElem? (i := 9) rfl)
theorem dX10_tx_135 : decode cX10_tx 135 = .ok (.getfield 10, 3) := DX10_tx_40 (135, .getfield 10, 3) (List.mem_of_getElem? (i := 10) rfl)
theorem dX10_tx_138 : decode cX10_tx 138 = .ok (.iload_n 1, 1) := DX10_tx_40 (138, .iload_n 1, 1) (List.mem_of_getElem? (i := 11) rfl)
theorem dX10_tx_139 : decode cX10_tx 139 = .ok (.invokevirtual 217, 3) := DX10_tx_40 (139, .invokevirtual 217, 3) (List.mem_of_getElem? (i := 12) rfl)
theorem dX10_tx_142 : decode cX10_tx 142 = .ok (.ireturn, 1) := DX10_tx_40 (142, .ireturn, 1) (List.mem_of_getElem? (i := 13) rfl)
theorem dX10_tx_143 : decode cX10_tx 143 = .ok (.aload_n 0, 1) := DX10_tx_40 (143, .aload_n 0, 1) (List.mem_of_getElem? (i := 14) rfl)
theorem dX10_tx_144 : decode cX10_tx 144 = .ok (.getfield 10, 3) := DX10_tx_40 (144, .getfield 10, 3) (List.mem_of_getElem? (i := 15) rfl)
theorem dX10_tx_147 : decode cX10_tx 147 = .ok (.getfield 160, 3) := DX10_tx_40 (147, .getfield 160, 3) (List.mem_of_getElem? (i := 16) rfl)
theorem dX10_tx_150 : decode cX10_tx 150 = .ok (.iload_n 1, 1) := DX10_tx_40 (150, .iload_n 1, 1) (List.mem_of_getElem? (i := 17) rfl)
theorem dX10_tx_151 : decode cX10_tx 151 = .ok (.invokevirtual 220, 3) := DX10_tx_40 (151, .invokevirtual 220, 3) (List.mem_of_getElem? (i := 18) rfl)
theorem dX10_tx_154 : decode cX10_tx 154 = .ok (.ifCond .eq 7, 3) := DX10_tx_40 (154, .ifCond .eq 7, 3) (List.mem_of_getElem? (i := 19) rfl)
theorem dX10_tx_157 : decode cX10_tx 157 = .ok (.iconst 1, 1) := DX10_tx_40 (157, .iconst 1, 1) (List.mem_of_getElem? (i := 20) rfl)
theorem dX10_tx_158 : decode cX10_tx 158 = .ok (.goto 4, 3) := DX10_tx_40 (158, .goto 4, 3) (List.mem_of_getElem? (i := 21) rfl)
theorem dX10_tx_161 : decode cX10_tx 161 = .ok (.iconst 0, 1) := DX10_tx_40 (161, .iconst 0, 1) (List.mem_of_getElem? (i := 22) rfl)
theorem dX10_tx_162 : decode cX10_tx 162 = .ok (.ireturn, 1) := DX10_tx_40 (162, .ireturn, 1) (List.mem_of_getElem? (i := 23) rfl)
theorem dX10_tx_163 : decode cX10_tx 163 = .ok (.iconst (-1), 1) := DX10_tx_40 (163, .iconst (-1), 1) (List.mem_of_getElem? (i := 24) rfl)
theorem dX10_tx_164 : decode cX10_tx 164 = .ok (.ireturn, 1) := DX10_tx_40 (164, .ireturn, 1) (List.mem_of_getElem? (i := 25) rfl)
set_option maxRecDepth 20000 in
theorem ggX10_record_X2_beginsAt : GoodIn wsX10_record wsX2_beginsAt := goodIn_r _ [8, 9, 10, 11, 12, 7, 13, 14, 15, 16, 17, 18, 19, 20, 21, 22, 23, 24, 25, 26, 27, 28, 29, 30, 67, 68, 69, 70] rfl (by decide +kernel)
set_option maxRecDepth 20000 in
theorem gX10_record_X2_beginsAt : GoodIn wsX10_record (wsV RX10 235 RX2 yX2_beginsAt wsX2_beginsAt) := goodIn_app (goodIn_of _ (by decide +kernel)) ggX10_record_X2_beginsAt
set_option maxRecDepth 20000 in
theorem ggX10_record_X2_byteAt : GoodIn wsX10_record wsX2_byteAt := goodIn_r _ [18, 9, 14, 67, 68, 69, 70] rfl (by decide +kernel)
set_option maxRecDepth 20000 in
theorem gX10_record_X2_byteAt : GoodIn wsX10_record (wsV RX10 232 RX2 yX2_byteAt wsX2_byteAt) := goodIn_app (goodIn_of _ (by decide +kernel)) ggX10_record_X2_byteAt
set_option maxRecDepth 20000 in
theorem ggX10_record_X2_pairAt : GoodIn wsX10_record wsX2_pairAt := goodIn_r _ [35, 15, 16, 17, 7, 18, 9, 14, 67, 68, 69, 70] rfl (by decide +kernel)
set_option maxRecDepth 20000 in
theorem gX10_record_X2_pairAt : GoodIn wsX10_record (wsV RX10 238 RX2 yX2_pairAt wsX2_pairAt) := goodIn_app (goodIn_of _ (by decide +kernel)) ggX10_record_X2_pairAt
set_option maxRecDepth 20000 in
theorem ggX10_record_X2_onward : GoodIn wsX10_record wsX2_onward := goodIn_r _ [39, 15, 16, 17, 7, 18, 9, 14, 40, 33, 34, 35, 67, 68, 69, 70] rfl (by decide +kernel)
set_option maxRecDepth 20000 in
theorem gX10_record_X2_onward : GoodIn wsX10_record (wsV RX10 241 RX2 yX2_onward wsX2_onward) := goodIn_app (goodIn_of _ (by decide +kernel)) ggX10_record_X2_onward
set_option maxRecDepth 20000 in
theorem ggX10_record_X2_touches : GoodIn wsX10_record wsX2_touches := goodIn_r _ [44, 15, 16, 17, 7, 18, 9, 14, 67, 68, 69, 70] rfl (by decide +kernel)
set_option maxRecDepth 20000 in
theorem gX10_record_X2_touches : GoodIn wsX10_record (wsV RX10 244 RX2 yX2_touches wsX2_touches) := goodIn_app (goodIn_of _ (by decide +kernel)) ggX10_record_X2_touches
set_option maxRecDepth 20000 in
theorem ggX10_record_X2_addressAt : GoodIn wsX10_record wsX2_addressAt := goodIn_r _ [48, 15, 16, 17, 7, 18, 9, 14, 67, 68, 69, 70] rfl (by decide +kernel)
set_option maxRecDepth 20000 in
theorem gX10_record_X2_addressAt : GoodIn wsX10_record (wsV RX10 247 RX2 yX2_addressAt wsX2_addressAt) := goodIn_app (goodIn_of _ (by decide +kernel)) ggX10_record_X2_addressAt
set_option maxRecDepth 20000 in
theorem ggX10_record_X2_behind : GoodIn wsX10_record wsX2_behind := goodIn_r _ [26, 27, 28, 29, 30, 15, 16, 17, 7, 18, 9, 14, 67, 68, 69, 70] rfl (by decide +kernel)
set_option maxRecDepth 20000 in
theorem gX10_record_X2_behind : GoodIn wsX10_record (wsV RX10 250 RX2 yX2_behind wsX2_behind) := goodIn_app (goodIn_of _ (by decide +kernel)) ggX10_record_X2_behind
set_option maxRecDepth 100000 in
theorem DX10_log_0 : ∀ x ∈ ([(0, .iload_n 1, 1), (1, .bipush 8, 2), (3, .if_icmp .lt 17, 3), (6, .iload_n 1, 1), (7, .aload_n 0, 1), (8, .getfield 10, 3), (11, .getfield 223, 3), (14, .getfield 227, 3), (17, .if_icmp .lt 7, 3), (20, .iconst (-1), 1), (21, .goto 14, 3), (24, .aload_n 0, 1), (25, .getfield 10, 3), (28, .getfield 223, 3), (31, .iload_n 1, 1), (32, .invokevirtual 232, 3), (35, .ireturn, 1)] : List (Nat × Instr × Nat)), decode cX10_log x.1 = .ok (x.2.1, x.2.2) := by decide +kernel
theorem dX10_log_0 : decode cX10_log 0 = .ok (.iload_n 1, 1) := DX10_log_0 (0, .iload_n 1, 1) (List.mem_of_getElem? (i := 0) rfl)
theorem dX10_log_1 : decode cX10_log 1 = .ok (.bipush 8, 2) := DX10_log_0 (1, .bipush 8, 2) (List.mem_of_getElem? (i := 1) rfl)
theorem dX10_log_3 : decode cX10_log 3 = .ok (.if_icmp .lt 17, 3) := DX10_log_0 (3, .if_icmp .lt 17, 3) (List.mem_of_getElem? (i := 2) rfl)
theorem dX10_log_6 : decode cX10_log 6 = .ok (.iload_n 1, 1) := DX10_log_0 (6, .iload_n 1, 1) (List.mem_of_getElem? (i := 3) rfl)
theorem dX10_log_7 : decode cX10_log 7 = .ok (.aload_n 0, 1) := DX10_log_0 (7, .aload_n 0, 1) (List.mem_of_getElem? (i := 4) rfl)
theorem dX10_log_8 : decode cX10_log 8 = .ok (.getfield 10, 3) := DX10_log_0 (8, .getfield 10, 3) (List.mem_of_getElem? (i := 5) rfl)
theorem dX10_log_11 : decode cX10_log 11 = .ok (.getfield 223, 3) := DX10_log_0 (11, .getfield 223, 3) (List.mem_of_getElem? (i := 6) rfl)
theorem dX10_log_14 : decode cX10_log 14 = .ok (.getfield 227, 3) := DX10_log_0 (14, .getfield 227, 3) (List.mem_of_getElem? (i := 7) rfl)
theorem dX10_log_17 : decode cX10_log 17 = .ok (.if_icmp .lt 7, 3) := DX10_log_0 (17, .if_icmp .lt 7, 3) (List.mem_of_getElem? (i := 8) rfl)
theorem dX10_log_20 : decode cX10_log 20 = .ok (.iconst (-1), 1) := DX10_log_0 (20, .iconst (-1), 1) (List.mem_of_getElem? (i := 9) rfl)
theorem dX10_log_21 : decode cX10_log 21 = .ok (.goto 14, 3) := DX10_log_0 (21, .goto 14, 3) (List.mem_of_getElem? (i := 10) rfl)
theorem dX10_log_24 : decode cX10_log 24 = .ok (.aload_n 0, 1) := DX10_log_0 (24, .aload_n 0, 1) (List.mem_of_getElem? (i := 11) rfl)
theorem dX10_log_25 : decode cX10_log 25 = .ok (.getfield 10, 3) := DX10_log_0 (25, .getfield 10, 3) (List.mem_of_getElem? (i := 12) rfl)
theorem dX10_log_28 : decode cX10_log 28 = .ok (.getfield 223, 3) := DX10_log_0 (28, .getfield 223, 3) (List.mem_of_getElem? (i := 13) rfl)
theorem dX10_log_31 : decode cX10_log 31 = .ok (.iload_n 1, 1) := DX10_log_0 (31, .iload_n 1, 1) (List.mem_of_getElem? (i := 14) rfl)
theorem dX10_log_32 : decode cX10_log 32 = .ok (.invokevirtual 232, 3) := DX10_log_0 (32, .invokevirtual 232, 3) (List.mem_of_getElem? (i := 15) rfl)
theorem dX10_log_35 : decode cX10_log 35 = .ok (.ireturn, 1) := DX10_log_0 (35, .ireturn, 1) (List.mem_of_getElem? (i := 16) rfl)
set_option maxRecDepth 20000 in
theorem ggX10_would_X9_init : GoodIn wsX10_would wsX9_init := goodIn_r _ [18, 19, 20, 21, 22, 23, 24, 25, 26, 27, 28, 29, 30, 31, 32, 33, 34, 35, 36, 37, 38, 39, 40, 41, 42, 43, 44, 45, 46, 47, 48, 49, 50, 51, 52, 53, 54, 55, 56, 57, 58, 59, 60, 61, 62, 63, 64, 65, 66, 67, 68, 69, 70, 71, 72, 73, 74, 75, 76, 77, 78, 79, 80, 81, 82, 83, 84, 85, 86, 87, 88, 89, 90, 91, 92, 93, 94, 95, 96, 97, 98, 99, 100, 101, 102, 103, 104, 105, 106, 107, 428, 429, 430, 431, 410, 411, 412, 413, 414, 415, 416, 417, 418, 419, 420, 432, 433, 434, 435, 436, 437, 438, 439, 440, 441, 442, 443, 444, 445, 446, 447, 448, 449, 450, 451, 452, 453, 454, 455, 456, 457, 458, 459, 460] rfl (by decide +kernel)
set_option maxRecDepth 20000 in
theorem gX10_would_X9_init_n9 : GoodIn wsX10_would (wsX9_init) := ggX10_would_X9_init
set_option maxRecDepth 20000 in
theorem ggX10_would_X9_copyFrom : GoodIn wsX10_would wsX9_copyFrom := goodIn_r _ [111, 25, 29, 33, 37, 41, 45, 46, 47, 48, 49, 50, 112, 113, 114, 24, 115, 56, 57, 55, 116, 117, 118, 119, 120, 121, 122, 123, 124, 125, 126, 28, 127, 63, 128, 64, 65, 66, 67, 68, 69, 70, 71, 72, 73, 74, 129, 130, 131, 32, 132, 82, 133, 83, 84, 134, 135, 136, 36, 137, 88, 138, 89, 90, 91, 92, 93, 94, 139, 140, 141, 40, 142, 98, 143, 99, 100, 101, 144, 145, 146, 44, 147, 105, 148, 106, 107, 410, 411, 412, 413, 414, 415, 416, 417, 418, 419, 420, 428, 429, 430, 431, 432, 433, 434, 435, 436, 437, 438, 439, 440, 441, 442, 443, 444, 445, 446, 447, 448, 449, 450, 451, 452, 453, 454, 455, 456, 457, 458, 459, 460] rfl (by decide +kernel)
set_option maxRecDepth 20000 in
theorem gX10_would_X9_copyFrom : GoodIn wsX10_would (wsV RX10 259 RX9 yX9_copyFrom wsX9_copyFrom) := goodIn_app (goodIn_of _ (by decide +kernel)) ggX10_would_X9_copyFrom
set_option maxRecDepth 20000 in
theorem ggX10_would_X9_fall : GoodIn wsX10_would wsX9_fall := goodIn_r _ [152, 25, 153, 154, 155, 117, 118, 119, 29, 33, 37, 48, 46, 50, 156, 157, 158, 24, 159, 56, 57, 160, 161, 162, 28, 163, 69, 72, 75, 76, 77, 78, 164, 165, 166, 32, 167, 82, 83, 84, 168, 169, 170, 171, 36, 172, 88, 89, 90, 91, 92, 173, 410, 411, 412, 413, 414, 415, 416, 417, 418, 419, 420, 428, 429, 430, 431, 432, 433, 434, 435, 436, 437, 438, 439, 440, 441, 442, 443, 444, 445, 446, 447, 448, 449, 450, 451, 452, 453] rfl (by decide +kernel)
set_option maxRecDepth 20000 in
theorem gX10_would_X9_fall : GoodIn wsX10_would (wsV RX10 107 RX9 yX9_fall wsX9_fall) := goodIn_app (goodIn_of _ (by decide +kernel)) ggX10_would_X9_fall
set_option maxRecDepth 20000 in
theorem ggX10_would_X4_reset : GoodIn wsX10_would wsX4_reset := goodIn_r _ [178, 179, 180, 181, 182, 421, 422, 423, 424, 425, 426, 427] rfl (by decide +kernel)
set_option maxRecDepth 20000 in
theorem gX10_would_X4_reset : GoodIn wsX10_would (wsV RX10 265 RX4 yX4_reset wsX4_reset) := goodIn_app (goodIn_of _ (by decide +kernel)) ggX10_would_X4_reset
set_option maxRecDepth 20000 in
theorem ggX10_would_X4_attempt : GoodIn wsX10_would wsX4_attempt := goodIn_r _ [186, 187, 188, 189, 190, 182, 191, 192, 193, 194, 28, 195, 67, 196, 197, 198, 199, 65, 63, 128, 121, 122, 123, 64, 66, 200, 201, 202, 203, 24, 204, 56, 57, 205, 206, 207, 208, 55, 209, 210, 211, 212, 213, 214, 215, 216, 217, 218, 219, 220, 221, 222, 223, 224, 225, 226, 227, 228, 229, 230, 231, 232, 233, 234, 118, 235, 236, 237, 238, 177, 239, 240, 241, 242, 243, 244, 245, 117, 119, 179, 246, 247, 76, 77, 78, 248, 249, 250, 4, 251, 47, 252, 253, 254, 255, 32, 256, 82, 83, 257, 258, 259, 260, 261, 262, 263, 264, 265, 266, 267, 268, 269, 270, 271, 272, 84, 273, 274, 275, 276, 277, 278, 279, 280, 281, 282, 283, 284, 285, 286, 287, 288, 157, 158, 159, 289, 290, 291, 292, 133, 293, 294, 295, 296, 297, 298, 299, 300, 301, 302, 303, 304, 305, 72, 70, 69, 71, 74, 73, 306, 307, 308, 309, 68, 310, 311, 312, 313, 314, 315, 316, 317, 318, 319, 320, 321, 322, 323, 324, 325, 326, 327, 328, 329, 330, 331, 332, 180, 333, 334, 335, 336, 181, 337, 338, 339, 340, 33, 37, 341, 342, 343, 344, 25, 345, 346, 347, 348, 349, 58, 350, 351, 352, 353, 354, 355, 356, 357, 358, 359, 360, 361, 362, 363, 364, 365, 36, 366, 90, 88, 89, 367, 368, 369, 370, 91, 92, 371, 372, 373, 374, 375, 376, 377, 378, 379, 380, 381, 382, 383, 29, 384, 385, 386, 387, 388, 389, 390, 391, 392, 393, 394, 395, 396, 397, 398, 399, 150, 151, 152, 153, 154, 155, 48, 46, 50, 156, 160, 161, 162, 163, 75, 164, 165, 166, 167, 168, 169, 170, 171, 172, 173, 421, 422, 423, 424, 425, 426, 427, 410, 411, 412, 413, 414, 415, 416, 417, 418, 419, 420, 432, 433, 434, 435, 436, 437, 438, 439, 440, 441, 442, 443, 428, 429, 430, 431, 454, 455, 456, 457, 444, 445, 446, 447, 448, 449, 450, 451, 452, 453] rfl (by decide +kernel)
set_option maxRecDepth 20000 in
theorem gX10_would_X4_attempt : GoodIn wsX10_would (wsV RX10 111 RX4 yX4_attempt wsX4_attempt) := goodIn_app (goodIn_of _ (by decide +kernel)) ggX10_would_X4_attempt
set_option maxRecDepth 20000 in
theorem ggX10_would_X3_byteNow : GoodIn wsX10_would wsX3_byteNow := goodIn_r _ [403, 63, 70, 306, 307, 308, 28, 309, 68, 69, 432, 433, 434, 435, 436, 437, 438, 439, 440, 441, 442, 443] rfl (by decide +kernel)
set_option maxRecDepth 20000 in
theorem gX10_would_X3_byteNow : GoodIn wsX10_would (wsV RX10 153 RX3 yX3_byteNow wsX3_byteNow) := goodIn_app (goodIn_of _ (by decide +kernel)) ggX10_would_X3_byteNow
set_option maxRecDepth 100000 in
theorem DX10_record_0 : ∀ x ∈ ([(0, .aload_n 0, 1), (1, .getfield 10, 3), (4, .getfield 223, 3), (7, .astore_n 3, 1), (8, .aload_n 3, 1), (9, .iload_n 1, 1), (10, .invokevirtual 235, 3), (13, .ifCond .ne 5, 3), (16, .iconst (-1), 1), (17, .ireturn, 1), (18, .aload_n 3, 1), (19, .iload_n 1, 1), (20, .invokevirtual 232, 3), (23, .istore 4, 2), (25, .iload_n 2, 1), (26, .tableswitch 128 0 6 #[42, 45, 53, 61, 69, 92, 110], 42), (68, .iload 4, 2), (70, .ireturn, 1), (71, .aload_n 3, 1), (72, .iload_n 1, 1), (73, .iconst 1, 1), (74, .iadd, 1), (75, .invokevirtual 232, 3), (78, .ireturn, 1), (79, .aload_n 3, 1), (80, .iload_n 1, 1), (81, .iconst 2, 1), (82, .iadd, 1), (83, .invokevirtual 232, 3), (86, .ireturn, 1), (87, .aload_n 3, 1), (88, .iload_n 1, 1), (89, .iconst 3, 1), (90, .iadd, 1), (91, .invokevirtual 238, 3), (94, .ireturn, 1), (95, .iload 4, 2), (97, .iconst 4, 1), (98, .if_icmp .eq 10, 3), (101, .iload 4, 2)] : List (Nat × Instr × Nat)), decode cX10_record x.1 = .ok (x.2.1, x.2.2) := by decide +kernel
theorem dX10_record_0 : decode cX10_record 0 = .ok (.aload_n 0, 1) := DX10_record_0 (0, .aload_n 0, 1) (List.mem_of_getElem? (i := 0) rfl)
theorem dX10_record_1 : decode cX10_record 1 = .ok (.getfield 10, 3) := DX10_record_0 (1, .getfield 10, 3) (List.mem_of_getElem? (i := 1) rfl)
theorem dX10_record_4 : decode cX10_record 4 = .ok (.getfield 223, 3) := DX10_record_0 (4, .getfield 223, 3) (List.mem_of_getElem? (i := 2) rfl)
theorem dX10_record_7 : decode cX10_record 7 = .ok (.astore_n 3, 1) := DX10_record_0 (7, .astore_n 3, 1) (List.mem_of_getElem? (i := 3) rfl)
theorem dX10_record_8 : decode cX10_record 8 = .ok (.aload_n 3, 1) := DX10_record_0 (8, .aload_n 3, 1) (List.mem_of_getElem? (i := 4) rfl)
theorem dX10_record_9 : decode cX10_record 9 = .ok (.iload_n 1, 1) := DX10_record_0 (9, .iload_n 1, 1) (List.mem_of_getElem? (i := 5) rfl)
theorem dX10_record_10 : decode cX10_record 10 = .ok (.invokevirtual 235, 3) := DX10_record_0 (10, .invokevirtual 235, 3) (List.mem_of_getElem? (i := 6) rfl)
theorem dX10_record_13 : decode cX10_record 13 = .ok (.ifCond .ne 5, 3) := DX10_record_0 (13, .ifCond .ne 5, 3) (List.mem_of_getElem? (i := 7) rfl)
theorem dX10_record_16 : decode cX10_record 16 = .ok (.iconst (-1), 1) := DX10_record_0 (16, .iconst (-1), 1) (List.mem_of_getElem? (i := 8) rfl)
theorem dX10_record_17 : decode cX10_record 17 = .ok (.ireturn, 1) := DX10_record_0 (17, .ireturn, 1) (List.mem_of_getElem? (i := 9) rfl)
theorem dX10_record_18 : decode cX10_record 18 = .ok (.aload_n 3, 1) := DX10_record_0 (18, .aload_n 3, 1) (List.mem_of_getElem? (i := 10) rfl)
theorem dX10_record_19 : decode cX10_record 19 = .ok (.iload_n 1, 1) := DX10_record_0 (19, .iload_n 1, 1) (List.mem_of_getElem? (i := 11) rfl)
theorem dX10_record_20 : decode cX10_record 20 = .ok (.invokevirtual 232, 3) := DX10_record_0 (20, .invokevirtual 232, 3) (List.mem_of_getElem? (i := 12) rfl)
theorem dX10_record_23 : decode cX10_record 23 = .ok (.istore 4, 2) := DX10_record_0 (23, .istore 4, 2) (List.mem_of_getElem? (i := 13) rfl)
theorem dX10_record_25 : decode cX10_record 25 = .ok (.iload_n 2, 1) := DX10_record_0 (25, .iload_n 2, 1) (List.mem_of_getElem? (i := 14) rfl)
theorem dX10_record_26 : decode cX10_record 26 = .ok (.tableswitch 128 0 6 #[42, 45, 53, 61, 69, 92, 110], 42) := DX10_record_0 (26, .tableswitch 128 0 6 #[42, 45, 53, 61, 69, 92, 110], 42) (List.mem_of_getElem? (i := 15) rfl)
theorem dX10_record_68 : decode cX10_record 68 = .ok (.iload 4, 2) := DX10_record_0 (68, .iload 4, 2) (List.mem_of_getElem? (i := 16) rfl)
theorem dX10_record_70 : decode cX10_record 70 = .ok (.ireturn, 1) := DX10_record_0 (70, .ireturn, 1) (List.mem_of_getElem? (i := 17) rfl)
theorem dX10_record_71 : decode cX10_record 71 = .ok (.aload_n 3, 1) := DX10_record_0 (71, .aload_n 3, 1) (List.mem_of_getElem? (i := 18) rfl)
theorem dX10_record_72 : decode cX10_record 72 = .ok (.iload_n 1, 1) := DX10_record_0 (72, .iload_n 1, 1) (List.mem_of_getElem? (i := 19) rfl)
theorem dX10_record_73 : decode cX10_record 73 = .ok (.iconst 1, 1) := DX10_record_0 (73, .iconst 1, 1) (List.mem_of_getElem? (i := 20) rfl)
theorem dX10_record_74 : decode cX10_record 74 = .ok (.iadd, 1) := DX10_record_0 (74, .iadd, 1) (List.mem_of_getElem? (i := 21) rfl)
theorem dX10_record_75 : decode cX10_record 75 = .ok (.invokevirtual 232, 3) := DX10_record_0 (75, .invokevirtual 232, 3) (List.mem_of_getElem? (i := 22) rfl)
theorem dX10_record_78 : decode cX10_record 78 = .ok (.ireturn, 1) := DX10_record_0 (78, .ireturn, 1) (List.mem_of_getElem? (i := 23) rfl)
theorem dX10_record_79 : decode cX10_record 79 = .ok (.aload_n 3, 1) := DX10_record_0 (79, .aload_n 3, 1) (List.mem_of_getElem? (i := 24) rfl)
theorem dX10_record_80 : decode cX10_record 80 = .ok (.iload_n 1, 1) := DX10_record_0 (80, .iload_n 1, 1) (List.mem_of_getElem? (i := 25) rfl)
theorem dX10_record_81 : decode cX10_record 81 = .ok (.iconst 2, 1) := DX10_record_0 (81, .iconst 2, 1) (List.mem_of_getElem? (i := 26) rfl)
theorem dX10_record_82 : decode cX10_record 82 = .ok (.iadd, 1) := DX10_record_0 (82, .iadd, 1) (List.mem_of_getElem? (i := 27) rfl)
theorem dX10_record_83 : decode cX10_record 83 = .ok (.invokevirtual 232, 3) := DX10_record_0 (83, .invokevirtual 232, 3) (List.mem_of_getElem? (i := 28) rfl)
theorem dX10_record_86 : decode cX10_record 86 = .ok (.ireturn, 1) := DX10_record_0 (86, .ireturn, 1) (List.mem_of_getElem? (i := 29) rfl)
theorem dX10_record_87 : decode cX10_record 87 = .ok (.aload_n 3, 1) := DX10_record_0 (87, .aload_n 3, 1) (List.mem_of_getElem? (i := 30) rfl)
theorem dX10_record_88 : decode cX10_record 88 = .ok (.iload_n 1, 1) := DX10_record_0 (88, .iload_n 1, 1) (List.mem_of_getElem? (i := 31) rfl)
theorem dX10_record_89 : decode cX10_record 89 = .ok (.iconst 3, 1) := DX10_record_0 (89, .iconst 3, 1) (List.mem_of_getElem? (i := 32) rfl)
theorem dX10_record_90 : decode cX10_record 90 = .ok (.iadd, 1) := DX10_record_0 (90, .iadd, 1) (List.mem_of_getElem? (i := 33) rfl)
theorem dX10_record_91 : decode cX10_record 91 = .ok (.invokevirtual 238, 3) := DX10_record_0 (91, .invokevirtual 238, 3) (List.mem_of_getElem? (i := 34) rfl)
theorem dX10_record_94 : decode cX10_record 94 = .ok (.ireturn, 1) := DX10_record_0 (94, .ireturn, 1) (List.mem_of_getElem? (i := 35) rfl)
theorem dX10_record_95 : decode cX10_record 95 = .ok (.iload 4, 2) := DX10_record_0 (95, .iload 4, 2) (List.mem_of_getElem? (i := 36) rfl)
theorem dX10_record_97 : decode cX10_record 97 = .ok (.iconst 4, 1) := DX10_record_0 (97, .iconst 4, 1) (List.mem_of_getElem? (i := 37) rfl)
theorem dX10_record_98 : decode cX10_record 98 = .ok (.if_icmp .eq 10, 3) := DX10_record_0 (98, .if_icmp .eq 10, 3) (List.mem_of_getElem? (i := 38) rfl)
theorem dX10_record_101 : decode cX10_record 101 = .ok (.iload 4, 2) := DX10_record_0 (101, .iload 4, 2) (List.mem_of_getElem? (i := 39) rfl)
set_option maxRecDepth 100000 in
theorem DX10_record_40 : ∀ x ∈ ([(103, .bipush 9, 2), (105, .if_icmp .ne 11, 3), (108, .aload_n 3, 1), (109, .iload_n 1, 1), (110, .invokevirtual 241, 3), (113, .goto 4, 3), (116, .iconst (-1), 1), (117, .ireturn, 1), (118, .aload_n 3, 1), (119, .iload_n 1, 1), (120, .invokevirtual 244, 3), (123, .ifCond .eq 11, 3), (126, .aload_n 3, 1), (127, .iload_n 1, 1), (128, .invokevirtual 247, 3), (131, .goto 4, 3), (134, .iconst (-1), 1), (135, .ireturn, 1), (136, .aload_n 3, 1), (137, .iload_n 1, 1), (138, .invokevirtual 250, 3), (141, .aload_n 3, 1), (142, .getfield 253, 3), (145, .if_icmp .gt 7, 3), (148, .iconst 1, 1), (149, .goto 4, 3), (152, .iconst 0, 1), (153, .ireturn, 1), (154, .iconst (-1), 1), (155, .ireturn, 1)] : List (Nat × Instr × Nat)), decode cX10_record x.1 = .ok (x.2.1, x.2.2) := by decide +kernel
theorem dX10_record_103 : decode cX10_record 103 = .ok (.bipush 9, 2) := DX10_record_40 (103, .bipush 9, 2) (List.mem_of_getElem? (i := 0) rfl)
theorem dX10_record_105 : decode cX10_record 105 = .ok (.if_icmp .ne 11, 3) := DX10_record_40 (105, .if_icmp .ne 11, 3) (List.mem_of_getElem? (i := 1) rfl)
theorem dX10_record_108 : decode cX10_record 108 = .ok (.aload_n 3, 1) := DX10_record_40 (108, .aload_n 3, 1) (List.mem_of_getElem? (i := 2) rfl)
theorem dX10_record_109 : decode cX10_record 109 = .ok (.iload_n 1, 1) := DX10_record_40 (109, .iload_n 1, 1) (List.mem_of_getElem? (i := 3) rfl)
theorem dX10_record_110 : decode cX10_record 110 = .ok (.invokevirtual 241, 3) := DX10_record_40 (110, .invokevirtual 241, 3) (List.mem_of_getElem? (i := 4) rfl)
theorem dX10_record_113 : decode cX10_record 113 = .ok (.goto 4, 3) := DX10_record_40 (113, .goto 4, 3) (List.mem_of_getElem? (i := 5) rfl)
theorem dX10_record_116 : decode cX10_record 116 = .ok (.iconst (-1), 1) := DX10_record_40 (116, .iconst (-1), 1) (List.mem_of_getElem? (i := 6) rfl)
theorem dX10_record_117 : decode cX10_record 117 = .ok (.ireturn, 1) := DX10_record_40 (117, .ireturn, 1) (List.mem_of_getElem? (i := 7) rfl)
theorem dX10_record_118 : decode cX10_record 118 = .ok (.aload_n 3, 1) := DX10_record_40 (118, .aload_n 3, 1) (List.mem_of_getElem? (i := 8) rfl)
theorem dX10_record_119 : decode cX10_record 119 = .ok (.iload_n 1, 1) := DX10_record_40 (119, .iload_n 1, 1) (List.mem_of_getElem? (i := 9) rfl)
theorem dX10_record_120 : decode cX10_record 120 = .ok (.invokevirtual 244, 3) := DX10_record_40 (120, .invokevirtual 244, 3) (List.mem_of_getElem? (i := 10) rfl)
theorem dX10_record_123 : decode cX10_record 123 = .ok (.ifCond .eq 11, 3) := DX10_record_40 (123, .ifCond .eq 11, 3) (List.mem_of_getElem? (i := 11) rfl)
theorem dX10_record_126 : decode cX10_record 126 = .ok (.aload_n 3, 1) := DX10_record_40 (126, .aload_n 3, 1) (List.mem_of_getElem? (i := 12) rfl)
theorem dX10_record_127 : decode cX10_record 127 = .ok (.iload_n 1, 1) := DX10_record_40 (127, .iload_n 1, 1) (List.mem_of_getElem? (i := 13) rfl)
theorem dX10_record_128 : decode cX10_record 128 = .ok (.invokevirtual 247, 3) := DX10_record_40 (128, .invokevirtual 247, 3) (List.mem_of_getElem? (i := 14) rfl)
theorem dX10_record_131 : decode cX10_record 131 = .ok (.goto 4, 3) := DX10_record_40 (131, .goto 4, 3) (List.mem_of_getElem? (i := 15) rfl)
theorem dX10_record_134 : decode cX10_record 134 = .ok (.iconst (-1), 1) := DX10_record_40 (134, .iconst (-1), 1) (List.mem_of_getElem? (i := 16) rfl)
theorem dX10_record_135 : decode cX10_record 135 = .ok (.ireturn, 1) := DX10_record_40 (135, .ireturn, 1) (List.mem_of_getElem? (i := 17) rfl)
theorem dX10_record_136 : decode cX10_record 136 = .ok (.aload_n 3, 1) := DX10_record_40 (136, .aload_n 3, 1) (List.mem_of_getElem? (i := 18) rfl)
theorem dX10_record_137 : decode cX10_record 137 = .ok (.iload_n 1, 1) := DX10_record_40 (137, .iload_n 1, 1) (List.mem_of_getElem? (i := 19) rfl)
theorem dX10_record_138 : decode cX10_record 138 = .ok (.invokevirtual 250, 3) := DX10_record_40 (138, .invokevirtual 250, 3) (List.mem_of_getElem? (i := 20) rfl)
theorem dX10_record_141 : decode cX10_record 141 = .ok (.aload_n 3, 1) := DX10_record_40 (141, .aload_n 3, 1) (List.mem_of_getElem? (i := 21) rfl)
theorem dX10_record_142 : decode cX10_record 142 = .ok (.getfield 253, 3) := DX10_record_40 (142, .getfield 253, 3) (List.mem_of_getElem? (i := 22) rfl)
theorem dX10_record_145 : decode cX10_record 145 = .ok (.if_icmp .gt 7, 3) := DX10_record_40 (145, .if_icmp .gt 7, 3) (List.mem_of_getElem? (i := 23) rfl)
theorem dX10_record_148 : decode cX10_record 148 = .ok (.iconst 1, 1) := DX10_record_40 (148, .iconst 1, 1) (List.mem_of_getElem? (i := 24) rfl)
theorem dX10_record_149 : decode cX10_record 149 = .ok (.goto 4, 3) := DX10_record_40 (149, .goto 4, 3) (List.mem_of_getElem? (i := 25) rfl)
theorem dX10_record_152 : decode cX10_record 152 = .ok (.iconst 0, 1) := DX10_record_40 (152, .iconst 0, 1) (List.mem_of_getElem? (i := 26) rfl)
theorem dX10_record_153 : decode cX10_record 153 = .ok (.ireturn, 1) := DX10_record_40 (153, .ireturn, 1) (List.mem_of_getElem? (i := 27) rfl)
theorem dX10_record_154 : decode cX10_record 154 = .ok (.iconst (-1), 1) := DX10_record_40 (154, .iconst (-1), 1) (List.mem_of_getElem? (i := 28) rfl)
theorem dX10_record_155 : decode cX10_record 155 = .ok (.ireturn, 1) := DX10_record_40 (155, .ireturn, 1) (List.mem_of_getElem? (i := 29) rfl)
set_option maxRecDepth 20000 in
theorem ggX10_victim_X0_deadlocked : GoodIn wsX10_victim wsX0_deadlocked := goodIn_r _ [7, 8, 60, 61, 62, 63, 64, 65, 66] rfl (by decide +kernel)
set_option maxRecDepth 20000 in
theorem gX10_victim_X0_deadlocked : GoodIn wsX10_victim (wsV RX10 220 RX0 yX0_deadlocked wsX0_deadlocked) := goodIn_app (goodIn_of _ (by decide +kernel)) ggX10_victim_X0_deadlocked
set_option maxRecDepth 20000 in
theorem ggX10_victim_X9_cost : GoodIn wsX10_victim wsX9_cost := goodIn_r _ [13, 14, 15, 16, 17, 18, 19, 20, 21, 22, 23, 24, 25, 26, 27, 28, 29, 30, 31, 32, 33, 34, 35, 36, 37, 38, 39, 40, 41, 42, 49, 50, 51, 52, 53, 54, 55, 56, 57, 58, 59, 67, 68, 69, 70, 71, 72, 73] rfl (by decide +kernel)
set_option maxRecDepth 20000 in
theorem gX10_victim_X9_cost : GoodIn wsX10_victim (wsV RX10 217 RX9 yX9_cost wsX9_cost) := goodIn_app (goodIn_of _ (by decide +kernel)) ggX10_victim_X9_cost
set_option maxRecDepth 100000 in
theorem DX10_would_0 : ∀ x ∈ ([(0, .iload_n 1, 1), (1, .ifCond .lt 31, 3), (4, .iload_n 1, 1), (5, .sipush 999, 3), (8, .if_icmp .gt 24, 3), (11, .iload_n 2, 1), (12, .ifCond .lt 20, 3), (15, .iload_n 2, 1), (16, .bipush 9, 2), (18, .if_icmp .gt 14, 3), (21, .iload_n 3, 1), (22, .ifCond .lt 10, 3), (25, .iload_n 3, 1), (26, .sipush 261, 3), (29, .if_icmp .le 5, 3), (32, .iconst (-1), 1), (33, .ireturn, 1), (34, .aload_n 0, 1), (35, .getfield 256, 3), (38, .ifnonnull 14, 3), (41, .aload_n 0, 1), (42, .new 7, 3), (45, .dup, 1), (46, .invokespecial 9, 3), (49, .putfield 256, 3), (52, .aload_n 0, 1), (53, .getfield 256, 3), (56, .aload_n 0, 1), (57, .getfield 10, 3), (60, .invokevirtual 259, 3), (63, .aload_n 0, 1), (64, .getfield 256, 3), (67, .getfield 37, 3), (70, .ifCond .eq 11, 3), (73, .aload_n 0, 1), (74, .getfield 256, 3), (77, .iload_n 1, 1), (78, .invokevirtual 107, 3), (81, .aload_n 0, 1), (82, .getfield 256, 3)] : List (Nat × Instr × Nat)), decode cX10_would x.1 = .ok (x.2.1, x.2.2) := by decide +kernel
theorem dX10_would_0 : decode cX10_would 0 = .ok (.iload_n 1, 1) := DX10_would_0 (0, .iload_n 1, 1) (List.mem_of_getElem? (i := 0) rfl)
theorem dX10_would_1 : decode cX10_would 1 = .ok (.ifCond .lt 31, 3) := DX10_would_0 (1, .ifCond .lt 31, 3) (List.mem_of_getElem? (i := 1) rfl)
theorem dX10_would_4 : decode cX10_would 4 = .ok (.iload_n 1, 1) := DX10_would_0 (4, .iload_n 1, 1) (List.mem_of_getElem? (i := 2) rfl)
theorem dX10_would_5 : decode cX10_would 5 = .ok (.sipush 999, 3) := DX10_would_0 (5, .sipush 999, 3) (List.mem_of_getElem? (i := 3) rfl)
theorem dX10_would_8 : decode cX10_would 8 = .ok (.if_icmp .gt 24, 3) := DX10_would_0 (8, .if_icmp .gt 24, 3) (List.mem_of_getElem? (i := 4) rfl)
theorem dX10_would_11 : decode cX10_would 11 = .ok (.iload_n 2, 1) := DX10_would_0 (11, .iload_n 2, 1) (List.mem_of_getElem? (i := 5) rfl)
theorem dX10_would_12 : decode cX10_would 12 = .ok (.ifCond .lt 20, 3) := DX10_would_0 (12, .ifCond .lt 20, 3) (List.mem_of_getElem? (i := 6) rfl)
theorem dX10_would_15 : decode cX10_would 15 = .ok (.iload_n 2, 1) := DX10_would_0 (15, .iload_n 2, 1) (List.mem_of_getElem? (i := 7) rfl)
theorem dX10_would_16 : decode cX10_would 16 = .ok (.bipush 9, 2) := DX10_would_0 (16, .bipush 9, 2) (List.mem_of_getElem? (i := 8) rfl)
theorem dX10_would_18 : decode cX10_would 18 = .ok (.if_icmp .gt 14, 3) := DX10_would_0 (18, .if_icmp .gt 14, 3) (List.mem_of_getElem? (i := 9) rfl)
theorem dX10_would_21 : decode cX10_would 21 = .ok (.iload_n 3, 1) := DX10_would_0 (21, .iload_n 3, 1) (List.mem_of_getElem? (i := 10) rfl)
theorem dX10_would_22 : decode cX10_would 22 = .ok (.ifCond .lt 10, 3) := DX10_would_0 (22, .ifCond .lt 10, 3) (List.mem_of_getElem? (i := 11) rfl)
theorem dX10_would_25 : decode cX10_would 25 = .ok (.iload_n 3, 1) := DX10_would_0 (25, .iload_n 3, 1) (List.mem_of_getElem? (i := 12) rfl)
theorem dX10_would_26 : decode cX10_would 26 = .ok (.sipush 261, 3) := DX10_would_0 (26, .sipush 261, 3) (List.mem_of_getElem? (i := 13) rfl)
theorem dX10_would_29 : decode cX10_would 29 = .ok (.if_icmp .le 5, 3) := DX10_would_0 (29, .if_icmp .le 5, 3) (List.mem_of_getElem? (i := 14) rfl)
theorem dX10_would_32 : decode cX10_would 32 = .ok (.iconst (-1), 1) := DX10_would_0 (32, .iconst (-1), 1) (List.mem_of_getElem? (i := 15) rfl)
theorem dX10_would_33 : decode cX10_would 33 = .ok (.ireturn, 1) := DX10_would_0 (33, .ireturn, 1) (List.mem_of_getElem? (i := 16) rfl)
theorem dX10_would_34 : decode cX10_would 34 = .ok (.aload_n 0, 1) := DX10_would_0 (34, .aload_n 0, 1) (List.mem_of_getElem? (i := 17) rfl)
theorem dX10_would_35 : decode cX10_would 35 = .ok (.getfield 256, 3) := DX10_would_0 (35, .getfield 256, 3) (List.mem_of_getElem? (i := 18) rfl)
theorem dX10_would_38 : decode cX10_would 38 = .ok (.ifnonnull 14, 3) := DX10_would_0 (38, .ifnonnull 14, 3) (List.mem_of_getElem? (i := 19) rfl)
theorem dX10_would_41 : decode cX10_would 41 = .ok (.aload_n 0, 1) := DX10_would_0 (41, .aload_n 0, 1) (List.mem_of_getElem? (i := 20) rfl)
theorem dX10_would_42 : decode cX10_would 42 = .ok (.new 7, 3) := DX10_would_0 (42, .new 7, 3) (List.mem_of_getElem? (i := 21) rfl)
theorem dX10_would_45 : decode cX10_would 45 = .ok (.dup, 1) := DX10_would_0 (45, .dup, 1) (List.mem_of_getElem? (i := 22) rfl)
theorem dX10_would_46 : decode cX10_would 46 = .ok (.invokespecial 9, 3) := DX10_would_0 (46, .invokespecial 9, 3) (List.mem_of_getElem? (i := 23) rfl)
theorem dX10_would_49 : decode cX10_would 49 = .ok (.putfield 256, 3) := DX10_would_0 (49, .putfield 256, 3) (List.mem_of_getElem? (i := 24) rfl)
theorem dX10_would_52 : decode cX10_would 52 = .ok (.aload_n 0, 1) := DX10_would_0 (52, .aload_n 0, 1) (List.mem_of_getElem? (i := 25) rfl)
theorem dX10_would_53 : decode cX10_would 53 = .ok (.getfield 256, 3) := DX10_would_0 (53, .getfield 256, 3) (List.mem_of_getElem? (i := 26) rfl)
theorem dX10_would_56 : decode cX10_would 56 = .ok (.aload_n 0, 1) := DX10_would_0 (56, .aload_n 0, 1) (List.mem_of_getElem? (i := 27) rfl)
theorem dX10_would_57 : decode cX10_would 57 = .ok (.getfield 10, 3) := DX10_would_0 (57, .getfield 10, 3) (List.mem_of_getElem? (i := 28) rfl)
theorem dX10_would_60 : decode cX10_would 60 = .ok (.invokevirtual 259, 3) := DX10_would_0 (60, .invokevirtual 259, 3) (List.mem_of_getElem? (i := 29) rfl)
theorem dX10_would_63 : decode cX10_would 63 = .ok (.aload_n 0, 1) := DX10_would_0 (63, .aload_n 0, 1) (List.mem_of_getElem? (i := 30) rfl)
theorem dX10_would_64 : decode cX10_would 64 = .ok (.getfield 256, 3) := DX10_would_0 (64, .getfield 256, 3) (List.mem_of_getElem? (i := 31) rfl)
theorem dX10_would_67 : decode cX10_would 67 = .ok (.getfield 37, 3) := DX10_would_0 (67, .getfield 37, 3) (List.mem_of_getElem? (i := 32) rfl)
theorem dX10_would_70 : decode cX10_would 70 = .ok (.ifCond .eq 11, 3) := DX10_would_0 (70, .ifCond .eq 11, 3) (List.mem_of_getElem? (i := 33) rfl)
theorem dX10_would_73 : decode cX10_would 73 = .ok (.aload_n 0, 1) := DX10_would_0 (73, .aload_n 0, 1) (List.mem_of_getElem? (i := 34) rfl)
theorem dX10_would_74 : decode cX10_would 74 = .ok (.getfield 256, 3) := DX10_would_0 (74, .getfield 256, 3) (List.mem_of_getElem? (i := 35) rfl)
theorem dX10_would_77 : decode cX10_would 77 = .ok (.iload_n 1, 1) := DX10_would_0 (77, .iload_n 1, 1) (List.mem_of_getElem? (i := 36) rfl)
theorem dX10_would_78 : decode cX10_would 78 = .ok (.invokevirtual 107, 3) := DX10_would_0 (78, .invokevirtual 107, 3) (List.mem_of_getElem? (i := 37) rfl)
theorem dX10_would_81 : decode cX10_would 81 = .ok (.aload_n 0, 1) := DX10_would_0 (81, .aload_n 0, 1) (List.mem_of_getElem? (i := 38) rfl)
theorem dX10_would_82 : decode cX10_would 82 = .ok (.getfield 256, 3) := DX10_would_0 (82, .getfield 256, 3) (List.mem_of_getElem? (i := 39) rfl)
set_option maxRecDepth 100000 in
theorem DX10_would_40 : ∀ x ∈ ([(85, .getfield 262, 3), (88, .istore 4, 2), (90, .aload_n 0, 1), (91, .getfield 26, 3), (94, .invokevirtual 265, 3), (97, .iconst 0, 1), (98, .istore 5, 2), (100, .iload 5, 2), (102, .ldc_w 268, 3), (105, .if_icmp .ge 40, 3), (108, .aload_n 0, 1), (109, .getfield 256, 3), (112, .getfield 37, 3), (115, .ifCond .ne 30, 3), (118, .aload_n 0, 1), (119, .getfield 26, 3), (122, .aload_n 0, 1), (123, .getfield 256, 3), (126, .iload_n 2, 1), (127, .ifCond .ne 7, 3), (130, .iconst (-1), 1), (131, .goto 4, 3), (134, .iload_n 2, 1), (135, .invokevirtual 111, 3), (138, .pop, 1), (139, .iinc 5 1, 3), (142, .goto (-42), 3), (145, .iload_n 3, 1), (146, .tableswitch 92 256 261 #[38, 46, 54, 62, 73, 84], 38), (184, .aload_n 0, 1), (185, .getfield 26, 3), (188, .getfield 269, 3), (191, .ireturn, 1), (192, .aload_n 0, 1), (193, .getfield 26, 3), (196, .getfield 272, 3), (199, .ireturn, 1), (200, .aload_n 0, 1), (201, .getfield 26, 3), (204, .getfield 275, 3)] : List (Nat × Instr × Nat)), decode cX10_would x.1 = .ok (x.2.1, x.2.2) := by decide +kernel
theorem dX10_would_85 : decode cX10_would 85 = .ok (.getfield 262, 3) := DX10_would_40 (85, .getfield 262, 3) (List.mem_of_getElem? (i := 0) rfl)
theorem dX10_would_88 : decode cX10_would 88 = .ok (.istore 4, 2) := DX10_would_40 (88, .istore 4, 2) (List.mem_of_getElem? (i := 1) rfl)
theorem dX10_would_90 : decode cX10_would 90 = .ok (.aload_n 0, 1) := DX10_would_40 (90, .aload_n 0, 1) (List.mem_of_getElem? (i := 2) rfl)
theorem dX10_would_91 : decode cX10_would 91 = .ok (.getfield 26, 3) := DX10_would_40 (91, .getfield 26, 3) (List.mem_of_getElem? (i := 3) rfl)
theorem dX10_would_94 : decode cX10_would 94 = .ok (.invokevirtual 265, 3) := DX10_would_40 (94, .invokevirtual 265, 3) (List.mem_of_getElem? (i := 4) rfl)
theorem dX10_would_97 : decode cX10_would 97 = .ok (.iconst 0, 1) := DX10_would_40 (97, .iconst 0, 1) (List.mem_of_getElem? (i := 5) rfl)
theorem dX10_would_98 : decode cX10_would 98 = .ok (.istore 5, 2) := DX10_would_40 (98, .istore 5, 2) (List.mem_of_getElem? (i := 6) rfl)
theorem dX10_would_100 : decode cX10_would 100 = .ok (.iload 5, 2) := DX10_would_40 (100, .iload 5, 2) (List.mem_of_getElem? (i := 7) rfl)
theorem dX10_would_102 : decode cX10_would 102 = .ok (.ldc_w 268, 3) := DX10_would_40 (102, .ldc_w 268, 3) (List.mem_of_getElem? (i := 8) rfl)
theorem dX10_would_105 : decode cX10_would 105 = .ok (.if_icmp .ge 40, 3) := DX10_would_40 (105, .if_icmp .ge 40, 3) (List.mem_of_getElem? (i := 9) rfl)
theorem dX10_would_108 : decode cX10_would 108 = .ok (.aload_n 0, 1) := DX10_would_40 (108, .aload_n 0, 1) (List.mem_of_getElem? (i := 10) rfl)
theorem dX10_would_109 : decode cX10_would 109 = .ok (.getfield 256, 3) := DX10_would_40 (109, .getfield 256, 3) (List.mem_of_getElem? (i := 11) rfl)
theorem dX10_would_112 : decode cX10_would 112 = .ok (.getfield 37, 3) := DX10_would_40 (112, .getfield 37, 3) (List.mem_of_getElem? (i := 12) rfl)
theorem dX10_would_115 : decode cX10_would 115 = .ok (.ifCond .ne 30, 3) := DX10_would_40 (115, .ifCond .ne 30, 3) (List.mem_of_getElem? (i := 13) rfl)
theorem dX10_would_118 : decode cX10_would 118 = .ok (.aload_n 0, 1) := DX10_would_40 (118, .aload_n 0, 1) (List.mem_of_getElem? (i := 14) rfl)
theorem dX10_would_119 : decode cX10_would 119 = .ok (.getfield 26, 3) := DX10_would_40 (119, .getfield 26, 3) (List.mem_of_getElem? (i := 15) rfl)
theorem dX10_would_122 : decode cX10_would 122 = .ok (.aload_n 0, 1) := DX10_would_40 (122, .aload_n 0, 1) (List.mem_of_getElem? (i := 16) rfl)
theorem dX10_would_123 : decode cX10_would 123 = .ok (.getfield 256, 3) := DX10_would_40 (123, .getfield 256, 3) (List.mem_of_getElem? (i := 17) rfl)
theorem dX10_would_126 : decode cX10_would 126 = .ok (.iload_n 2, 1) := DX10_would_40 (126, .iload_n 2, 1) (List.mem_of_getElem? (i := 18) rfl)
theorem dX10_would_127 : decode cX10_would 127 = .ok (.ifCond .ne 7, 3) := DX10_would_40 (127, .ifCond .ne 7, 3) (List.mem_of_getElem? (i := 19) rfl)
theorem dX10_would_130 : decode cX10_would 130 = .ok (.iconst (-1), 1) := DX10_would_40 (130, .iconst (-1), 1) (List.mem_of_getElem? (i := 20) rfl)
theorem dX10_would_131 : decode cX10_would 131 = .ok (.goto 4, 3) := DX10_would_40 (131, .goto 4, 3) (List.mem_of_getElem? (i := 21) rfl)
theorem dX10_would_134 : decode cX10_would 134 = .ok (.iload_n 2, 1) := DX10_would_40 (134, .iload_n 2, 1) (List.mem_of_getElem? (i := 22) rfl)
theorem dX10_would_135 : decode cX10_would 135 = .ok (.invokevirtual 111, 3) := DX10_would_40 (135, .invokevirtual 111, 3) (List.mem_of_getElem? (i := 23) rfl)
theorem dX10_would_138 : decode cX10_would 138 = .ok (.pop, 1) := DX10_would_40 (138, .pop, 1) (List.mem_of_getElem? (i := 24) rfl)
theorem dX10_would_139 : decode cX10_would 139 = .ok (.iinc 5 1, 3) := DX10_would_40 (139, .iinc 5 1, 3) (List.mem_of_getElem? (i := 25) rfl)
theorem dX10_would_142 : decode cX10_would 142 = .ok (.goto (-42), 3) := DX10_would_40 (142, .goto (-42), 3) (List.mem_of_getElem? (i := 26) rfl)
theorem dX10_would_145 : decode cX10_would 145 = .ok (.iload_n 3, 1) := DX10_would_40 (145, .iload_n 3, 1) (List.mem_of_getElem? (i := 27) rfl)
theorem dX10_would_146 : decode cX10_would 146 = .ok (.tableswitch 92 256 261 #[38, 46, 54, 62, 73, 84], 38) := DX10_would_40 (146, .tableswitch 92 256 261 #[38, 46, 54, 62, 73, 84], 38) (List.mem_of_getElem? (i := 28) rfl)
theorem dX10_would_184 : decode cX10_would 184 = .ok (.aload_n 0, 1) := DX10_would_40 (184, .aload_n 0, 1) (List.mem_of_getElem? (i := 29) rfl)
theorem dX10_would_185 : decode cX10_would 185 = .ok (.getfield 26, 3) := DX10_would_40 (185, .getfield 26, 3) (List.mem_of_getElem? (i := 30) rfl)
theorem dX10_would_188 : decode cX10_would 188 = .ok (.getfield 269, 3) := DX10_would_40 (188, .getfield 269, 3) (List.mem_of_getElem? (i := 31) rfl)
theorem dX10_would_191 : decode cX10_would 191 = .ok (.ireturn, 1) := DX10_would_40 (191, .ireturn, 1) (List.mem_of_getElem? (i := 32) rfl)
theorem dX10_would_192 : decode cX10_would 192 = .ok (.aload_n 0, 1) := DX10_would_40 (192, .aload_n 0, 1) (List.mem_of_getElem? (i := 33) rfl)
theorem dX10_would_193 : decode cX10_would 193 = .ok (.getfield 26, 3) := DX10_would_40 (193, .getfield 26, 3) (List.mem_of_getElem? (i := 34) rfl)
theorem dX10_would_196 : decode cX10_would 196 = .ok (.getfield 272, 3) := DX10_would_40 (196, .getfield 272, 3) (List.mem_of_getElem? (i := 35) rfl)
theorem dX10_would_199 : decode cX10_would 199 = .ok (.ireturn, 1) := DX10_would_40 (199, .ireturn, 1) (List.mem_of_getElem? (i := 36) rfl)
theorem dX10_would_200 : decode cX10_would 200 = .ok (.aload_n 0, 1) := DX10_would_40 (200, .aload_n 0, 1) (List.mem_of_getElem? (i := 37) rfl)
theorem dX10_would_201 : decode cX10_would 201 = .ok (.getfield 26, 3) := DX10_would_40 (201, .getfield 26, 3) (List.mem_of_getElem? (i := 38) rfl)
theorem dX10_would_204 : decode cX10_would 204 = .ok (.getfield 275, 3) := DX10_would_40 (204, .getfield 275, 3) (List.mem_of_getElem? (i := 39) rfl)
set_option maxRecDepth 100000 in
theorem DX10_would_80 : ∀ x ∈ ([(207, .ireturn, 1), (208, .aload_n 0, 1), (209, .getfield 256, 3), (212, .getfield 262, 3), (215, .iload 4, 2), (217, .isub, 1), (218, .ireturn, 1), (219, .aload_n 0, 1), (220, .getfield 256, 3), (223, .getfield 223, 3), (226, .getfield 227, 3), (229, .ireturn, 1), (230, .aload_n 0, 1), (231, .getfield 26, 3), (234, .getfield 278, 3), (237, .ireturn, 1), (238, .aload_n 0, 1), (239, .getfield 256, 3), (242, .getfield 41, 3), (245, .iload_n 3, 1), (246, .invokevirtual 153, 3), (249, .ireturn, 1)] : List (Nat × Instr × Nat)), decode cX10_would x.1 = .ok (x.2.1, x.2.2) := by decide +kernel
theorem dX10_would_207 : decode cX10_would 207 = .ok (.ireturn, 1) := DX10_would_80 (207, .ireturn, 1) (List.mem_of_getElem? (i := 0) rfl)
theorem dX10_would_208 : decode cX10_would 208 = .ok (.aload_n 0, 1) := DX10_would_80 (208, .aload_n 0, 1) (List.mem_of_getElem? (i := 1) rfl)
theorem dX10_would_209 : decode cX10_would 209 = .ok (.getfield 256, 3) := DX10_would_80 (209, .getfield 256, 3) (List.mem_of_getElem? (i := 2) rfl)
theorem dX10_would_212 : decode cX10_would 212 = .ok (.getfield 262, 3) := DX10_would_80 (212, .getfield 262, 3) (List.mem_of_getElem? (i := 3) rfl)
theorem dX10_would_215 : decode cX10_would 215 = .ok (.iload 4, 2) := DX10_would_80 (215, .iload 4, 2) (List.mem_of_getElem? (i := 4) rfl)
theorem dX10_would_217 : decode cX10_would 217 = .ok (.isub, 1) := DX10_would_80 (217, .isub, 1) (List.mem_of_getElem? (i := 5) rfl)
theorem dX10_would_218 : decode cX10_would 218 = .ok (.ireturn, 1) := DX10_would_80 (218, .ireturn, 1) (List.mem_of_getElem? (i := 6) rfl)
theorem dX10_would_219 : decode cX10_would 219 = .ok (.aload_n 0, 1) := DX10_would_80 (219, .aload_n 0, 1) (List.mem_of_getElem? (i := 7) rfl)
theorem dX10_would_220 : decode cX10_would 220 = .ok (.getfield 256, 3) := DX10_would_80 (220, .getfield 256, 3) (List.mem_of_getElem? (i := 8) rfl)
theorem dX10_would_223 : decode cX10_would 223 = .ok (.getfield 223, 3) := DX10_would_80 (223, .getfield 223, 3) (List.mem_of_getElem? (i := 9) rfl)
theorem dX10_would_226 : decode cX10_would 226 = .ok (.getfield 227, 3) := DX10_would_80 (226, .getfield 227, 3) (List.mem_of_getElem? (i := 10) rfl)
theorem dX10_would_229 : decode cX10_would 229 = .ok (.ireturn, 1) := DX10_would_80 (229, .ireturn, 1) (List.mem_of_getElem? (i := 11) rfl)
theorem dX10_would_230 : decode cX10_would 230 = .ok (.aload_n 0, 1) := DX10_would_80 (230, .aload_n 0, 1) (List.mem_of_getElem? (i := 12) rfl)
theorem dX10_would_231 : decode cX10_would 231 = .ok (.getfield 26, 3) := DX10_would_80 (231, .getfield 26, 3) (List.mem_of_getElem? (i := 13) rfl)
theorem dX10_would_234 : decode cX10_would 234 = .ok (.getfield 278, 3) := DX10_would_80 (234, .getfield 278, 3) (List.mem_of_getElem? (i := 14) rfl)
theorem dX10_would_237 : decode cX10_would 237 = .ok (.ireturn, 1) := DX10_would_80 (237, .ireturn, 1) (List.mem_of_getElem? (i := 15) rfl)
theorem dX10_would_238 : decode cX10_would 238 = .ok (.aload_n 0, 1) := DX10_would_80 (238, .aload_n 0, 1) (List.mem_of_getElem? (i := 16) rfl)
theorem dX10_would_239 : decode cX10_would 239 = .ok (.getfield 256, 3) := DX10_would_80 (239, .getfield 256, 3) (List.mem_of_getElem? (i := 17) rfl)
theorem dX10_would_242 : decode cX10_would 242 = .ok (.getfield 41, 3) := DX10_would_80 (242, .getfield 41, 3) (List.mem_of_getElem? (i := 18) rfl)
theorem dX10_would_245 : decode cX10_would 245 = .ok (.iload_n 3, 1) := DX10_would_80 (245, .iload_n 3, 1) (List.mem_of_getElem? (i := 19) rfl)
theorem dX10_would_246 : decode cX10_would 246 = .ok (.invokevirtual 153, 3) := DX10_would_80 (246, .invokevirtual 153, 3) (List.mem_of_getElem? (i := 20) rfl)
theorem dX10_would_249 : decode cX10_would 249 = .ok (.ireturn, 1) := DX10_would_80 (249, .ireturn, 1) (List.mem_of_getElem? (i := 21) rfl)
set_option maxRecDepth 20000 in
theorem ggX10_ship_X7_take : GoodIn wsX10_ship wsX7_take := goodIn_r _ [9, 10, 11, 12, 13, 14, 15, 16, 17, 18, 19, 20, 21, 22, 23, 24, 25, 26, 27, 28, 29, 30, 31, 32, 33, 34, 35, 36, 37, 38, 39, 40, 41, 42, 43, 44, 45, 46, 47, 48, 49, 50, 51, 52, 70, 71, 72, 73, 74, 75, 76, 77] rfl (by decide +kernel)
set_option maxRecDepth 20000 in
theorem gX10_ship_X7_take : GoodIn wsX10_ship (wsV RX10 285 RX7 yX7_take wsX7_take) := goodIn_app (goodIn_of _ (by decide +kernel)) ggX10_ship_X7_take
set_option maxRecDepth 100000 in
theorem DX10_victim_0 : ∀ x ∈ ([(0, .iconst 0, 1), (1, .istore_n 1, 1), (2, .iconst (-1), 1), (3, .istore_n 2, 1), (4, .iconst 1, 1), (5, .istore_n 3, 1), (6, .iload_n 3, 1), (7, .bipush 9, 2), (9, .if_icmp .gt 49, 3), (12, .aload_n 0, 1), (13, .getfield 10, 3), (16, .getfield 160, 3), (19, .iload_n 3, 1), (20, .invokevirtual 220, 3), (23, .ifCond .eq 29, 3), (26, .aload_n 0, 1), (27, .getfield 10, 3), (30, .iload_n 3, 1), (31, .invokevirtual 217, 3), (34, .istore 4, 2), (36, .iload_n 2, 1), (37, .iconst (-1), 1), (38, .if_icmp .eq 9, 3), (41, .iload 4, 2), (43, .iload_n 1, 1), (44, .if_icmp .ge 8, 3), (47, .iload_n 3, 1), (48, .istore_n 2, 1), (49, .iload 4, 2), (51, .istore_n 1, 1), (52, .iinc 3 1, 3), (55, .goto (-49), 3), (58, .iload_n 2, 1), (59, .ireturn, 1)] : List (Nat × Instr × Nat)), decode cX10_victim x.1 = .ok (x.2.1, x.2.2) := by decide +kernel
theorem dX10_victim_0 : decode cX10_victim 0 = .ok (.iconst 0, 1) := DX10_victim_0 (0, .iconst 0, 1) (List.mem_of_getElem? (i := 0) rfl)
theorem dX10_victim_1 : decode cX10_victim 1 = .ok (.istore_n 1, 1) := DX10_victim_0 (1, .istore_n 1, 1) (List.mem_of_getElem? (i := 1) rfl)
theorem dX10_victim_2 : decode cX10_victim 2 = .ok (.iconst (-1), 1) := DX10_victim_0 (2, .iconst (-1), 1) (List.mem_of_getElem? (i := 2) rfl)
theorem dX10_victim_3 : decode cX10_victim 3 = .ok (.istore_n 2, 1) := DX10_victim_0 (3, .istore_n 2, 1) (List.mem_of_getElem? (i := 3) rfl)
theorem dX10_victim_4 : decode cX10_victim 4 = .ok (.iconst 1, 1) := DX10_victim_0 (4, .iconst 1, 1) (List.mem_of_getElem? (i := 4) rfl)
theorem dX10_victim_5 : decode cX10_victim 5 = .ok (.istore_n 3, 1) := DX10_victim_0 (5, .istore_n 3, 1) (List.mem_of_getElem? (i := 5) rfl)
theorem dX10_victim_6 : decode cX10_victim 6 = .ok (.iload_n 3, 1) := DX10_victim_0 (6, .iload_n 3, 1) (List.mem_of_getElem? (i := 6) rfl)
theorem dX10_victim_7 : decode cX10_victim 7 = .ok (.bipush 9, 2) := DX10_victim_0 (7, .bipush 9, 2) (List.mem_of_getElem? (i := 7) rfl)
theorem dX10_victim_9 : decode cX10_victim 9 = .ok (.if_icmp .gt 49, 3) := DX10_victim_0 (9, .if_icmp .gt 49, 3) (List.mem_of_getElem? (i := 8) rfl)
theorem dX10_victim_12 : decode cX10_victim 12 = .ok (.aload_n 0, 1) := DX10_victim_0 (12, .aload_n 0, 1) (List.mem_of_getElem? (i := 9) rfl)
theorem dX10_victim_13 : decode cX10_victim 13 = .ok (.getfield 10, 3) := DX10_victim_0 (13, .getfield 10, 3) (List.mem_of_getElem? (i := 10) rfl)
theorem dX10_victim_16 : decode cX10_victim 16 = .ok (.getfield 160, 3) := DX10_victim_0 (16, .getfield 160, 3) (List.mem_of_getElem? (i := 11) rfl)
theorem dX10_victim_19 : decode cX10_victim 19 = .ok (.iload_n 3, 1) := DX10_victim_0 (19, .iload_n 3, 1) (List.mem_of_getElem? (i := 12) rfl)
theorem dX10_victim_20 : decode cX10_victim 20 = .ok (.invokevirtual 220, 3) := DX10_victim_0 (20, .invokevirtual 220, 3) (List.mem_of_getElem? (i := 13) rfl)
theorem dX10_victim_23 : decode cX10_victim 23 = .ok (.ifCond .eq 29, 3) := DX10_victim_0 (23, .ifCond .eq 29, 3) (List.mem_of_getElem? (i := 14) rfl)
theorem dX10_victim_26 : decode cX10_victim 26 = .ok (.aload_n 0, 1) := DX10_victim_0 (26, .aload_n 0, 1) (List.mem_of_getElem? (i := 15) rfl)
theorem dX10_victim_27 : decode cX10_victim 27 = .ok (.getfield 10, 3) := DX10_victim_0 (27, .getfield 10, 3) (List.mem_of_getElem? (i := 16) rfl)
theorem dX10_victim_30 : decode cX10_victim 30 = .ok (.iload_n 3, 1) := DX10_victim_0 (30, .iload_n 3, 1) (List.mem_of_getElem? (i := 17) rfl)
theorem dX10_victim_31 : decode cX10_victim 31 = .ok (.invokevirtual 217, 3) := DX10_victim_0 (31, .invokevirtual 217, 3) (List.mem_of_getElem? (i := 18) rfl)
theorem dX10_victim_34 : decode cX10_victim 34 = .ok (.istore 4, 2) := DX10_victim_0 (34, .istore 4, 2) (List.mem_of_getElem? (i := 19) rfl)
theorem dX10_victim_36 : decode cX10_victim 36 = .ok (.iload_n 2, 1) := DX10_victim_0 (36, .iload_n 2, 1) (List.mem_of_getElem? (i := 20) rfl)
theorem dX10_victim_37 : decode cX10_victim 37 = .ok (.iconst (-1), 1) := DX10_victim_0 (37, .iconst (-1), 1) (List.mem_of_getElem? (i := 21) rfl)
theorem dX10_victim_38 : decode cX10_victim 38 = .ok (.if_icmp .eq 9, 3) := DX10_victim_0 (38, .if_icmp .eq 9, 3) (List.mem_of_getElem? (i := 22) rfl)
theorem dX10_victim_41 : decode cX10_victim 41 = .ok (.iload 4, 2) := DX10_victim_0 (41, .iload 4, 2) (List.mem_of_getElem? (i := 23) rfl)
theorem dX10_victim_43 : decode cX10_victim 43 = .ok (.iload_n 1, 1) := DX10_victim_0 (43, .iload_n 1, 1) (List.mem_of_getElem? (i := 24) rfl)
theorem dX10_victim_44 : decode cX10_victim 44 = .ok (.if_icmp .ge 8, 3) := DX10_victim_0 (44, .if_icmp .ge 8, 3) (List.mem_of_getElem? (i := 25) rfl)
theorem dX10_victim_47 : decode cX10_victim 47 = .ok (.iload_n 3, 1) := DX10_victim_0 (47, .iload_n 3, 1) (List.mem_of_getElem? (i := 26) rfl)
theorem dX10_victim_48 : decode cX10_victim 48 = .ok (.istore_n 2, 1) := DX10_victim_0 (48, .istore_n 2, 1) (List.mem_of_getElem? (i := 27) rfl)
theorem dX10_victim_49 : decode cX10_victim 49 = .ok (.iload 4, 2) := DX10_victim_0 (49, .iload 4, 2) (List.mem_of_getElem? (i := 28) rfl)
theorem dX10_victim_51 : decode cX10_victim 51 = .ok (.istore_n 1, 1) := DX10_victim_0 (51, .istore_n 1, 1) (List.mem_of_getElem? (i := 29) rfl)
theorem dX10_victim_52 : decode cX10_victim 52 = .ok (.iinc 3 1, 3) := DX10_victim_0 (52, .iinc 3 1, 3) (List.mem_of_getElem? (i := 30) rfl)
theorem dX10_victim_55 : decode cX10_victim 55 = .ok (.goto (-49), 3) := DX10_victim_0 (55, .goto (-49), 3) (List.mem_of_getElem? (i := 31) rfl)
theorem dX10_victim_58 : decode cX10_victim 58 = .ok (.iload_n 2, 1) := DX10_victim_0 (58, .iload_n 2, 1) (List.mem_of_getElem? (i := 32) rfl)
theorem dX10_victim_59 : decode cX10_victim 59 = .ok (.ireturn, 1) := DX10_victim_0 (59, .ireturn, 1) (List.mem_of_getElem? (i := 33) rfl)
set_option maxRecDepth 20000 in
theorem ggX10_stand_X1_takenOver : GoodIn wsX10_stand wsX1_takenOver := goodIn_r _ [11, 12, 13, 14, 15, 16, 17, 18, 19, 20, 21, 22, 23, 24, 25, 26, 27, 28, 29, 30, 31, 32, 33, 34, 35, 36, 37, 38, 39, 40, 41, 42, 43, 44, 45, 46, 47, 48, 49, 50, 51, 52, 53, 54, 55, 56, 57, 58, 59, 60, 61, 62, 63, 64, 10, 65, 66, 67, 68, 69, 70, 71, 72, 73, 74, 75, 76, 77, 78, 79, 80, 81, 82, 83, 84, 85, 86, 87, 88, 89, 90, 91, 92, 93, 94, 95, 96, 97, 119, 115, 116, 117, 118, 120, 121, 122, 123, 124, 125, 126] rfl (by decide +kernel)
set_option maxRecDepth 20000 in
theorem gX10_stand_X1_takenOver : GoodIn wsX10_stand (wsV RX10 297 RX1 yX1_takenOver wsX1_takenOver) := goodIn_app (goodIn_of _ (by decide +kernel)) ggX10_stand_X1_takenOver
set_option maxRecDepth 100000 in
theorem DX10_ship_0 : ∀ x ∈ ([(0, .iload_n 1, 1), (1, .iconst 1, 1), (2, .if_icmp .lt 10, 3), (5, .iload_n 1, 1), (6, .sipush 999, 3), (9, .if_icmp .le 5, 3), (12, .iconst (-1), 1), (13, .ireturn, 1), (14, .aload_n 0, 1), (15, .getfield 10, 3), (18, .getfield 281, 3), (21, .aload_n 0, 1), (22, .getfield 10, 3), (25, .getfield 223, 3), (28, .iload_n 1, 1), (29, .invokevirtual 285, 3), (32, .aload_n 0, 1), (33, .getfield 10, 3), (36, .getfield 281, 3), (39, .getfield 291, 3), (42, .ireturn, 1)] : List (Nat × Instr × Nat)), decode cX10_ship x.1 = .ok (x.2.1, x.2.2) := by decide +kernel
theorem dX10_ship_0 : decode cX10_ship 0 = .ok (.iload_n 1, 1) := DX10_ship_0 (0, .iload_n 1, 1) (List.mem_of_getElem? (i := 0) rfl)
theorem dX10_ship_1 : decode cX10_ship 1 = .ok (.iconst 1, 1) := DX10_ship_0 (1, .iconst 1, 1) (List.mem_of_getElem? (i := 1) rfl)
theorem dX10_ship_2 : decode cX10_ship 2 = .ok (.if_icmp .lt 10, 3) := DX10_ship_0 (2, .if_icmp .lt 10, 3) (List.mem_of_getElem? (i := 2) rfl)
theorem dX10_ship_5 : decode cX10_ship 5 = .ok (.iload_n 1, 1) := DX10_ship_0 (5, .iload_n 1, 1) (List.mem_of_getElem? (i := 3) rfl)
theorem dX10_ship_6 : decode cX10_ship 6 = .ok (.sipush 999, 3) := DX10_ship_0 (6, .sipush 999, 3) (List.mem_of_getElem? (i := 4) rfl)
theorem dX10_ship_9 : decode cX10_ship 9 = .ok (.if_icmp .le 5, 3) := DX10_ship_0 (9, .if_icmp .le 5, 3) (List.mem_of_getElem? (i := 5) rfl)
theorem dX10_ship_12 : decode cX10_ship 12 = .ok (.iconst (-1), 1) := DX10_ship_0 (12, .iconst (-1), 1) (List.mem_of_getElem? (i := 6) rfl)
theorem dX10_ship_13 : decode cX10_ship 13 = .ok (.ireturn, 1) := DX10_ship_0 (13, .ireturn, 1) (List.mem_of_getElem? (i := 7) rfl)
theorem dX10_ship_14 : decode cX10_ship 14 = .ok (.aload_n 0, 1) := DX10_ship_0 (14, .aload_n 0, 1) (List.mem_of_getElem? (i := 8) rfl)
theorem dX10_ship_15 : decode cX10_ship 15 = .ok (.getfield 10, 3) := DX10_ship_0 (15, .getfield 10, 3) (List.mem_of_getElem? (i := 9) rfl)
theorem dX10_ship_18 : decode cX10_ship 18 = .ok (.getfield 281, 3) := DX10_ship_0 (18, .getfield 281, 3) (List.mem_of_getElem? (i := 10) rfl)
theorem dX10_ship_21 : decode cX10_ship 21 = .ok (.aload_n 0, 1) := DX10_ship_0 (21, .aload_n 0, 1) (List.mem_of_getElem? (i := 11) rfl)
theorem dX10_ship_22 : decode cX10_ship 22 = .ok (.getfield 10, 3) := DX10_ship_0 (22, .getfield 10, 3) (List.mem_of_getElem? (i := 12) rfl)
theorem dX10_ship_25 : decode cX10_ship 25 = .ok (.getfield 223, 3) := DX10_ship_0 (25, .getfield 223, 3) (List.mem_of_getElem? (i := 13) rfl)
theorem dX10_ship_28 : decode cX10_ship 28 = .ok (.iload_n 1, 1) := DX10_ship_0 (28, .iload_n 1, 1) (List.mem_of_getElem? (i := 14) rfl)
theorem dX10_ship_29 : decode cX10_ship 29 = .ok (.invokevirtual 285, 3) := DX10_ship_0 (29, .invokevirtual 285, 3) (List.mem_of_getElem? (i := 15) rfl)
theorem dX10_ship_32 : decode cX10_ship 32 = .ok (.aload_n 0, 1) := DX10_ship_0 (32, .aload_n 0, 1) (List.mem_of_getElem? (i := 16) rfl)
theorem dX10_ship_33 : decode cX10_ship 33 = .ok (.getfield 10, 3) := DX10_ship_0 (33, .getfield 10, 3) (List.mem_of_getElem? (i := 17) rfl)
theorem dX10_ship_36 : decode cX10_ship 36 = .ok (.getfield 281, 3) := DX10_ship_0 (36, .getfield 281, 3) (List.mem_of_getElem? (i := 18) rfl)
theorem dX10_ship_39 : decode cX10_ship 39 = .ok (.getfield 291, 3) := DX10_ship_0 (39, .getfield 291, 3) (List.mem_of_getElem? (i := 19) rfl)
theorem dX10_ship_42 : decode cX10_ship 42 = .ok (.ireturn, 1) := DX10_ship_0 (42, .ireturn, 1) (List.mem_of_getElem? (i := 20) rfl)
set_option maxRecDepth 20000 in
theorem ggX10_asOf_X2_beginsAt : GoodIn wsX10_asOf wsX2_beginsAt := goodIn_r _ [8, 9, 10, 11, 12, 7, 13, 14, 15, 16, 17, 18, 19, 20, 21, 22, 23, 24, 25, 26, 27, 28, 29, 30, 131, 132, 133, 134] rfl (by decide +kernel)
set_option maxRecDepth 20000 in
theorem gX10_asOf_X2_beginsAt : GoodIn wsX10_asOf (wsV RX10 235 RX2 yX2_beginsAt wsX2_beginsAt) := goodIn_app (goodIn_of _ (by decide +kernel)) ggX10_asOf_X2_beginsAt
set_option maxRecDepth 20000 in
theorem ggX10_asOf_X1_byteAsOf : GoodIn wsX10_asOf wsX1_byteAsOf := goodIn_r _ [35, 36, 37, 38, 39, 40, 41, 42, 43, 44, 45, 46, 47, 48, 49, 50, 51, 52, 53, 16, 17, 7, 18, 9, 14, 54, 55, 56, 57, 58, 59, 60, 61, 62, 63, 64, 15, 65, 66, 67, 68, 69, 70, 71, 72, 73, 74, 75, 76, 77, 78, 79, 80, 81, 24, 25, 26, 27, 28, 29, 30, 82, 83, 84, 34, 85, 86, 87, 88, 89, 90, 91, 92, 93, 94, 95, 96, 97, 98, 99, 100, 101, 102, 103, 104, 105, 106, 107, 108, 109, 110, 111, 112, 113, 135, 136, 137, 138, 131, 132, 133, 134] rfl (by decide +kernel)
set_option maxRecDepth 20000 in
theorem gX10_asOf_X1_byteAsOf : GoodIn wsX10_asOf (wsV RX10 302 RX1 yX1_byteAsOf wsX1_byteAsOf) := goodIn_app (goodIn_of _ (by decide +kernel)) ggX10_asOf_X1_byteAsOf
set_option maxRecDepth 100000 in
theorem DX10_stand_0 : ∀ x ∈ ([(0, .iload_n 1, 1), (1, .ifCond .lt 10, 3), (4, .iload_n 1, 1), (5, .sipush 256, 3), (8, .if_icmp .lt 5, 3), (11, .iconst (-1), 1), (12, .ireturn, 1), (13, .iload_n 2, 1), (14, .tableswitch 78 0 2 #[26, 39, 62], 26), (40, .aload_n 0, 1), (41, .getfield 10, 3), (44, .getfield 281, 3), (47, .getfield 294, 3), (50, .iload_n 1, 1), (51, .iaload, 1), (52, .ireturn, 1), (53, .aload_n 0, 1), (54, .getfield 33, 3), (57, .aload_n 0, 1), (58, .getfield 10, 3), (61, .getfield 223, 3), (64, .aload_n 0, 1), (65, .getfield 10, 3), (68, .getfield 281, 3), (71, .iload_n 1, 1), (72, .invokevirtual 297, 3), (75, .ireturn, 1), (76, .aload_n 0, 1), (77, .getfield 10, 3), (80, .getfield 281, 3), (83, .getfield 301, 3), (86, .iload_n 1, 1), (87, .bipush 16, 2), (89, .idiv, 1), (90, .iaload, 1), (91, .ireturn, 1), (92, .iconst (-1), 1), (93, .ireturn, 1)] : List (Nat × Instr × Nat)), decode cX10_stand x.1 = .ok (x.2.1, x.2.2) := by decide +kernel
theorem dX10_stand_0 : decode cX10_stand 0 = .ok (.iload_n 1, 1) := DX10_stand_0 (0, .iload_n 1, 1) (List.mem_of_getElem? (i := 0) rfl)
theorem dX10_stand_1 : decode cX10_stand 1 = .ok (.ifCond .lt 10, 3) := DX10_stand_0 (1, .ifCond .lt 10, 3) (List.mem_of_getElem? (i := 1) rfl)
theorem dX10_stand_4 : decode cX10_stand 4 = .ok (.iload_n 1, 1) := DX10_stand_0 (4, .iload_n 1, 1) (List.mem_of_getElem? (i := 2) rfl)
theorem dX10_stand_5 : decode cX10_stand 5 = .ok (.sipush 256, 3) := DX10_stand_0 (5, .sipush 256, 3) (List.mem_of_getElem? (i := 3) rfl)
theorem dX10_stand_8 : decode cX10_stand 8 = .ok (.if_icmp .lt 5, 3) := DX10_stand_0 (8, .if_icmp .lt 5, 3) (List.mem_of_getElem? (i := 4) rfl)
theorem dX10_stand_11 : decode cX10_stand 11 = .ok (.iconst (-1), 1) := DX10_stand_0 (11, .iconst (-1), 1) (List.mem_of_getElem? (i := 5) rfl)
theorem dX10_stand_12 : decode cX10_stand 12 = .ok (.ireturn, 1) := DX10_stand_0 (12, .ireturn, 1) (List.mem_of_getElem? (i := 6) rfl)
theorem dX10_stand_13 : decode cX10_stand 13 = .ok (.iload_n 2, 1) := DX10_stand_0 (13, .iload_n 2, 1) (List.mem_of_getElem? (i := 7) rfl)
theorem dX10_stand_14 : decode cX10_stand 14 = .ok (.tableswitch 78 0 2 #[26, 39, 62], 26) := DX10_stand_0 (14, .tableswitch 78 0 2 #[26, 39, 62], 26) (List.mem_of_getElem? (i := 8) rfl)
theorem dX10_stand_40 : decode cX10_stand 40 = .ok (.aload_n 0, 1) := DX10_stand_0 (40, .aload_n 0, 1) (List.mem_of_getElem? (i := 9) rfl)
theorem dX10_stand_41 : decode cX10_stand 41 = .ok (.getfield 10, 3) := DX10_stand_0 (41, .getfield 10, 3) (List.mem_of_getElem? (i := 10) rfl)
theorem dX10_stand_44 : decode cX10_stand 44 = .ok (.getfield 281, 3) := DX10_stand_0 (44, .getfield 281, 3) (List.mem_of_getElem? (i := 11) rfl)
theorem dX10_stand_47 : decode cX10_stand 47 = .ok (.getfield 294, 3) := DX10_stand_0 (47, .getfield 294, 3) (List.mem_of_getElem? (i := 12) rfl)
theorem dX10_stand_50 : decode cX10_stand 50 = .ok (.iload_n 1, 1) := DX10_stand_0 (50, .iload_n 1, 1) (List.mem_of_getElem? (i := 13) rfl)
theorem dX10_stand_51 : decode cX10_stand 51 = .ok (.iaload, 1) := DX10_stand_0 (51, .iaload, 1) (List.mem_of_getElem? (i := 14) rfl)
theorem dX10_stand_52 : decode cX10_stand 52 = .ok (.ireturn, 1) := DX10_stand_0 (52, .ireturn, 1) (List.mem_of_getElem? (i := 15) rfl)
theorem dX10_stand_53 : decode cX10_stand 53 = .ok (.aload_n 0, 1) := DX10_stand_0 (53, .aload_n 0, 1) (List.mem_of_getElem? (i := 16) rfl)
theorem dX10_stand_54 : decode cX10_stand 54 = .ok (.getfield 33, 3) := DX10_stand_0 (54, .getfield 33, 3) (List.mem_of_getElem? (i := 17) rfl)
theorem dX10_stand_57 : decode cX10_stand 57 = .ok (.aload_n 0, 1) := DX10_stand_0 (57, .aload_n 0, 1) (List.mem_of_getElem? (i := 18) rfl)
theorem dX10_stand_58 : decode cX10_stand 58 = .ok (.getfield 10, 3) := DX10_stand_0 (58, .getfield 10, 3) (List.mem_of_getElem? (i := 19) rfl)
theorem dX10_stand_61 : decode cX10_stand 61 = .ok (.getfield 223, 3) := DX10_stand_0 (61, .getfield 223, 3) (List.mem_of_getElem? (i := 20) rfl)
theorem dX10_stand_64 : decode cX10_stand 64 = .ok (.aload_n 0, 1) := DX10_stand_0 (64, .aload_n 0, 1) (List.mem_of_getElem? (i := 21) rfl)
theorem dX10_stand_65 : decode cX10_stand 65 = .ok (.getfield 10, 3) := DX10_stand_0 (65, .getfield 10, 3) (List.mem_of_getElem? (i := 22) rfl)
theorem dX10_stand_68 : decode cX10_stand 68 = .ok (.getfield 281, 3) := DX10_stand_0 (68, .getfield 281, 3) (List.mem_of_getElem? (i := 23) rfl)
theorem dX10_stand_71 : decode cX10_stand 71 = .ok (.iload_n 1, 1) := DX10_stand_0 (71, .iload_n 1, 1) (List.mem_of_getElem? (i := 24) rfl)
theorem dX10_stand_72 : decode cX10_stand 72 = .ok (.invokevirtual 297, 3) := DX10_stand_0 (72, .invokevirtual 297, 3) (List.mem_of_getElem? (i := 25) rfl)
theorem dX10_stand_75 : decode cX10_stand 75 = .ok (.ireturn, 1) := DX10_stand_0 (75, .ireturn, 1) (List.mem_of_getElem? (i := 26) rfl)
theorem dX10_stand_76 : decode cX10_stand 76 = .ok (.aload_n 0, 1) := DX10_stand_0 (76, .aload_n 0, 1) (List.mem_of_getElem? (i := 27) rfl)
theorem dX10_stand_77 : decode cX10_stand 77 = .ok (.getfield 10, 3) := DX10_stand_0 (77, .getfield 10, 3) (List.mem_of_getElem? (i := 28) rfl)
theorem dX10_stand_80 : decode cX10_stand 80 = .ok (.getfield 281, 3) := DX10_stand_0 (80, .getfield 281, 3) (List.mem_of_getElem? (i := 29) rfl)
theorem dX10_stand_83 : decode cX10_stand 83 = .ok (.getfield 301, 3) := DX10_stand_0 (83, .getfield 301, 3) (List.mem_of_getElem? (i := 30) rfl)
theorem dX10_stand_86 : decode cX10_stand 86 = .ok (.iload_n 1, 1) := DX10_stand_0 (86, .iload_n 1, 1) (List.mem_of_getElem? (i := 31) rfl)
theorem dX10_stand_87 : decode cX10_stand 87 = .ok (.bipush 16, 2) := DX10_stand_0 (87, .bipush 16, 2) (List.mem_of_getElem? (i := 32) rfl)
theorem dX10_stand_89 : decode cX10_stand 89 = .ok (.idiv, 1) := DX10_stand_0 (89, .idiv, 1) (List.mem_of_getElem? (i := 33) rfl)
theorem dX10_stand_90 : decode cX10_stand 90 = .ok (.iaload, 1) := DX10_stand_0 (90, .iaload, 1) (List.mem_of_getElem? (i := 34) rfl)
theorem dX10_stand_91 : decode cX10_stand 91 = .ok (.ireturn, 1) := DX10_stand_0 (91, .ireturn, 1) (List.mem_of_getElem? (i := 35) rfl)
theorem dX10_stand_92 : decode cX10_stand 92 = .ok (.iconst (-1), 1) := DX10_stand_0 (92, .iconst (-1), 1) (List.mem_of_getElem? (i := 36) rfl)
theorem dX10_stand_93 : decode cX10_stand 93 = .ok (.ireturn, 1) := DX10_stand_0 (93, .ireturn, 1) (List.mem_of_getElem? (i := 37) rfl)
set_option maxRecDepth 20000 in
theorem ggX10_count_X2_tally : GoodIn wsX10_count wsX2_tally := goodIn_r _ [7, 8, 9, 10, 11, 6, 12, 13, 14, 15, 16, 17, 18, 19, 20, 21, 22, 23, 24, 25, 26, 27, 28, 29, 47, 48, 49, 50] rfl (by decide +kernel)
set_option maxRecDepth 20000 in
theorem gX10_count_X2_tally : GoodIn wsX10_count (wsV RX10 306 RX2 yX2_tally wsX2_tally) := goodIn_app (goodIn_of _ (by decide +kernel)) ggX10_count_X2_tally
set_option maxRecDepth 100000 in
theorem DX10_asOf_0 : ∀ x ∈ ([(0, .iload_n 1, 1), (1, .ifCond .lt 24, 3), (4, .iload_n 1, 1), (5, .sipush 256, 3), (8, .if_icmp .ge 17, 3), (11, .aload_n 0, 1), (12, .getfield 10, 3), (15, .getfield 223, 3), (18, .iload_n 2, 1), (19, .invokevirtual 235, 3), (22, .ifCond .ne 5, 3), (25, .iconst (-1), 1), (26, .ireturn, 1), (27, .aload_n 0, 1), (28, .getfield 33, 3), (31, .aload_n 0, 1), (32, .getfield 10, 3), (35, .getfield 223, 3), (38, .iload_n 1, 1), (39, .iload_n 2, 1), (40, .invokevirtual 302, 3), (43, .ireturn, 1)] : List (Nat × Instr × Nat)), decode cX10_asOf x.1 = .ok (x.2.1, x.2.2) := by decide +kernel
theorem dX10_asOf_0 : decode cX10_asOf 0 = .ok (.iload_n 1, 1) := DX10_asOf_0 (0, .iload_n 1, 1) (List.mem_of_getElem? (i := 0) rfl)
theorem dX10_asOf_1 : decode cX10_asOf 1 = .ok (.ifCond .lt 24, 3) := DX10_asOf_0 (1, .ifCond .lt 24, 3) (List.mem_of_getElem? (i := 1) rfl)
theorem dX10_asOf_4 : decode cX10_asOf 4 = .ok (.iload_n 1, 1) := DX10_asOf_0 (4, .iload_n 1, 1) (List.mem_of_getElem? (i := 2) rfl)
theorem dX10_asOf_5 : decode cX10_asOf 5 = .ok (.sipush 256, 3) := DX10_asOf_0 (5, .sipush 256, 3) (List.mem_of_getElem? (i := 3) rfl)
theorem dX10_asOf_8 : decode cX10_asOf 8 = .ok (.if_icmp .ge 17, 3) := DX10_asOf_0 (8, .if_icmp .ge 17, 3) (List.mem_of_getElem? (i := 4) rfl)
theorem dX10_asOf_11 : decode cX10_asOf 11 = .ok (.aload_n 0, 1) := DX10_asOf_0 (11, .aload_n 0, 1) (List.mem_of_getElem? (i := 5) rfl)
theorem dX10_asOf_12 : decode cX10_asOf 12 = .ok (.getfield 10, 3) := DX10_asOf_0 (12, .getfield 10, 3) (List.mem_of_getElem? (i := 6) rfl)
theorem dX10_asOf_15 : decode cX10_asOf 15 = .ok (.getfield 223, 3) := DX10_asOf_0 (15, .getfield 223, 3) (List.mem_of_getElem? (i := 7) rfl)
theorem dX10_asOf_18 : decode cX10_asOf 18 = .ok (.iload_n 2, 1) := DX10_asOf_0 (18, .iload_n 2, 1) (List.mem_of_getElem? (i := 8) rfl)
theorem dX10_asOf_19 : decode cX10_asOf 19 = .ok (.invokevirtual 235, 3) := DX10_asOf_0 (19, .invokevirtual 235, 3) (List.mem_of_getElem? (i := 9) rfl)
theorem dX10_asOf_22 : decode cX10_asOf 22 = .ok (.ifCond .ne 5, 3) := DX10_asOf_0 (22, .ifCond .ne 5, 3) (List.mem_of_getElem? (i := 10) rfl)
theorem dX10_asOf_25 : decode cX10_asOf 25 = .ok (.iconst (-1), 1) := DX10_asOf_0 (25, .iconst (-1), 1) (List.mem_of_getElem? (i := 11) rfl)
theorem dX10_asOf_26 : decode cX10_asOf 26 = .ok (.ireturn, 1) := DX10_asOf_0 (26, .ireturn, 1) (List.mem_of_getElem? (i := 12) rfl)
theorem dX10_asOf_27 : decode cX10_asOf 27 = .ok (.aload_n 0, 1) := DX10_asOf_0 (27, .aload_n 0, 1) (List.mem_of_getElem? (i := 13) rfl)
theorem dX10_asOf_28 : decode cX10_asOf 28 = .ok (.getfield 33, 3) := DX10_asOf_0 (28, .getfield 33, 3) (List.mem_of_getElem? (i := 14) rfl)
theorem dX10_asOf_31 : decode cX10_asOf 31 = .ok (.aload_n 0, 1) := DX10_asOf_0 (31, .aload_n 0, 1) (List.mem_of_getElem? (i := 15) rfl)
theorem dX10_asOf_32 : decode cX10_asOf 32 = .ok (.getfield 10, 3) := DX10_asOf_0 (32, .getfield 10, 3) (List.mem_of_getElem? (i := 16) rfl)
theorem dX10_asOf_35 : decode cX10_asOf 35 = .ok (.getfield 223, 3) := DX10_asOf_0 (35, .getfield 223, 3) (List.mem_of_getElem? (i := 17) rfl)
theorem dX10_asOf_38 : decode cX10_asOf 38 = .ok (.iload_n 1, 1) := DX10_asOf_0 (38, .iload_n 1, 1) (List.mem_of_getElem? (i := 18) rfl)
theorem dX10_asOf_39 : decode cX10_asOf 39 = .ok (.iload_n 2, 1) := DX10_asOf_0 (39, .iload_n 2, 1) (List.mem_of_getElem? (i := 19) rfl)
theorem dX10_asOf_40 : decode cX10_asOf 40 = .ok (.invokevirtual 302, 3) := DX10_asOf_0 (40, .invokevirtual 302, 3) (List.mem_of_getElem? (i := 20) rfl)
theorem dX10_asOf_43 : decode cX10_asOf 43 = .ok (.ireturn, 1) := DX10_asOf_0 (43, .ireturn, 1) (List.mem_of_getElem? (i := 21) rfl)
set_option maxRecDepth 20000 in
theorem ggX10_image_X9_init : GoodIn wsX10_image wsX9_init := goodIn_r _ [7, 8, 9, 10, 11, 12, 13, 14, 15, 16, 17, 18, 19, 20, 21, 22, 23, 24, 25, 26, 27, 28, 29, 30, 31, 32, 33, 34, 35, 36, 37, 38, 39, 40, 41, 42, 43, 44, 45, 46, 47, 48, 49, 50, 51, 52, 53, 54, 55, 56, 57, 58, 59, 60, 61, 62, 63, 64, 65, 66, 67, 68, 69, 70, 71, 72, 73, 74, 75, 76, 77, 78, 79, 80, 81, 82, 83, 84, 85, 86, 87, 88, 89, 90, 91, 92, 93, 94, 95, 96, 155, 156, 157, 158, 144, 145, 146, 147, 148, 149, 150, 151, 152, 153, 154, 159, 160, 161, 162, 163, 164, 165, 166, 167, 168, 169, 170, 171, 172, 173, 174, 175, 176, 177, 178, 179, 180, 181, 182, 183, 184, 185, 186, 187] rfl (by decide +kernel)
set_option maxRecDepth 20000 in
theorem gX10_image_X9_init_n9 : GoodIn wsX10_image (wsX9_init) := ggX10_image_X9_init
set_option maxRecDepth 20000 in
theorem ggX10_image_X9_copyFrom : GoodIn wsX10_image wsX9_copyFrom := goodIn_r _ [100, 14, 18, 22, 26, 30, 34, 35, 36, 37, 38, 39, 101, 102, 103, 13, 104, 45, 46, 44, 105, 106, 107, 108, 109, 110, 111, 112, 113, 114, 115, 17, 116, 52, 117, 53, 54, 55, 56, 57, 58, 59, 60, 61, 62, 63, 118, 119, 120, 21, 121, 71, 122, 72, 73, 123, 124, 125, 25, 126, 77, 127, 78, 79, 80, 81, 82, 83, 128, 129, 130, 29, 131, 87, 132, 88, 89, 90, 133, 134, 135, 33, 136, 94, 137, 95, 96, 144, 145, 146, 147, 148, 149, 150, 151, 152, 153, 154, 155, 156, 157, 158, 159, 160, 161, 162, 163, 164, 165, 166, 167, 168, 169, 170, 171, 172, 173, 174, 175, 176, 177, 178, 179, 180, 181, 182, 183, 184, 185, 186, 187] rfl (by decide +kernel)
set_option maxRecDepth 20000 in
theorem gX10_image_X9_copyFrom : GoodIn wsX10_image (wsV RX10 259 RX9 yX9_copyFrom wsX9_copyFrom) := goodIn_app (goodIn_of _ (by decide +kernel)) ggX10_image_X9_copyFrom
set_option maxRecDepth 100000 in
theorem DX10_count_0 : ∀ x ∈ ([(0, .iload_n 1, 1), (1, .iconst 1, 1), (2, .if_icmp .lt 9, 3), (5, .iload_n 1, 1), (6, .bipush 10, 2), (8, .if_icmp .le 7, 3), (11, .iconst (-1), 1), (12, .goto 14, 3), (15, .aload_n 0, 1), (16, .getfield 10, 3), (19, .getfield 223, 3), (22, .iload_n 1, 1), (23, .invokevirtual 306, 3), (26, .ireturn, 1)] : List (Nat × Instr × Nat)), decode cX10_count x.1 = .ok (x.2.1, x.2.2) := by decide +kernel
theorem dX10_count_0 : decode cX10_count 0 = .ok (.iload_n 1, 1) := DX10_count_0 (0, .iload_n 1, 1) (List.mem_of_getElem? (i := 0) rfl)
theorem dX10_count_1 : decode cX10_count 1 = .ok (.iconst 1, 1) := DX10_count_0 (1, .iconst 1, 1) (List.mem_of_getElem? (i := 1) rfl)
theorem dX10_count_2 : decode cX10_count 2 = .ok (.if_icmp .lt 9, 3) := DX10_count_0 (2, .if_icmp .lt 9, 3) (List.mem_of_getElem? (i := 2) rfl)
theorem dX10_count_5 : decode cX10_count 5 = .ok (.iload_n 1, 1) := DX10_count_0 (5, .iload_n 1, 1) (List.mem_of_getElem? (i := 3) rfl)
theorem dX10_count_6 : decode cX10_count 6 = .ok (.bipush 10, 2) := DX10_count_0 (6, .bipush 10, 2) (List.mem_of_getElem? (i := 4) rfl)
theorem dX10_count_8 : decode cX10_count 8 = .ok (.if_icmp .le 7, 3) := DX10_count_0 (8, .if_icmp .le 7, 3) (List.mem_of_getElem? (i := 5) rfl)
theorem dX10_count_11 : decode cX10_count 11 = .ok (.iconst (-1), 1) := DX10_count_0 (11, .iconst (-1), 1) (List.mem_of_getElem? (i := 6) rfl)
theorem dX10_count_12 : decode cX10_count 12 = .ok (.goto 14, 3) := DX10_count_0 (12, .goto 14, 3) (List.mem_of_getElem? (i := 7) rfl)
theorem dX10_count_15 : decode cX10_count 15 = .ok (.aload_n 0, 1) := DX10_count_0 (15, .aload_n 0, 1) (List.mem_of_getElem? (i := 8) rfl)
theorem dX10_count_16 : decode cX10_count 16 = .ok (.getfield 10, 3) := DX10_count_0 (16, .getfield 10, 3) (List.mem_of_getElem? (i := 9) rfl)
theorem dX10_count_19 : decode cX10_count 19 = .ok (.getfield 223, 3) := DX10_count_0 (19, .getfield 223, 3) (List.mem_of_getElem? (i := 10) rfl)
theorem dX10_count_22 : decode cX10_count 22 = .ok (.iload_n 1, 1) := DX10_count_0 (22, .iload_n 1, 1) (List.mem_of_getElem? (i := 11) rfl)
theorem dX10_count_23 : decode cX10_count 23 = .ok (.invokevirtual 306, 3) := DX10_count_0 (23, .invokevirtual 306, 3) (List.mem_of_getElem? (i := 12) rfl)
theorem dX10_count_26 : decode cX10_count 26 = .ok (.ireturn, 1) := DX10_count_0 (26, .ireturn, 1) (List.mem_of_getElem? (i := 13) rfl)
set_option maxRecDepth 20000 in
theorem ggX10_look_X3_uncleanCount : GoodIn wsX10_look wsX3_uncleanCount := goodIn_r _ [15, 16, 126, 127, 128, 129, 130, 131, 132, 133, 134, 135, 136, 137] rfl (by decide +kernel)
set_option maxRecDepth 20000 in
theorem gX10_look_X3_uncleanCount : GoodIn wsX10_look (wsV RX10 315 RX3 yX3_uncleanCount wsX3_uncleanCount) := goodIn_app (goodIn_of _ (by decide +kernel)) ggX10_look_X3_uncleanCount
set_option maxRecDepth 20000 in
theorem ggX10_look_X5_allThatAre : GoodIn wsX10_look wsX5_allThatAre := goodIn_r _ [21, 22, 138, 139, 140] rfl (by decide +kernel)
set_option maxRecDepth 20000 in
theorem gX10_look_X5_allThatAre : GoodIn wsX10_look (wsV RX10 319 RX5 yX5_allThatAre wsX5_allThatAre) := goodIn_app (goodIn_of _ (by decide +kernel)) ggX10_look_X5_allThatAre
set_option maxRecDepth 20000 in
theorem ggX10_look_X9_needed : GoodIn wsX10_look wsX9_needed := goodIn_r _ [27, 28, 29, 30, 31, 32, 33, 34, 35, 36, 37, 38, 39, 26, 40, 41, 42, 43, 44, 45, 46, 47, 48, 49, 50, 51, 52, 53, 54, 55, 56, 57, 58, 59, 111, 112, 113, 114, 115, 116, 117, 118, 119, 120, 121, 126, 127, 128, 129, 130, 131, 132, 133, 134, 135, 136, 137, 138, 139, 140, 122, 123, 124, 125] rfl (by decide +kernel)
set_option maxRecDepth 20000 in
theorem gX10_look_X9_needed : GoodIn wsX10_look (wsV RX10 325 RX9 yX9_needed wsX9_needed) := goodIn_app (goodIn_of _ (by decide +kernel)) ggX10_look_X9_needed
set_option maxRecDepth 20000 in
theorem ggX10_look_X10_lookFurther : GoodIn wsX10_look wsX10_lookFurther := goodIn_r _ [64, 1, 65, 66, 67, 68, 69, 7, 70, 71, 72, 73, 74, 3, 75, 76, 77, 78, 79, 80, 81, 82, 83, 84, 85, 86, 87, 88, 52, 89, 58, 90, 91, 92, 93, 59, 54, 55, 56, 57, 94, 95, 96, 97, 98, 99, 100, 101, 102, 103, 33, 104, 105, 106, 107, 108, 109, 110, 111, 112, 113, 114, 115, 116, 117, 118, 119, 120, 121, 141, 142, 143, 126, 127, 128, 129, 130, 131, 132, 133, 134, 135, 136, 137, 144, 145, 146, 147, 148, 149, 150, 151, 152, 153, 154, 122, 123, 124, 125] rfl (by decide +kernel)
set_option maxRecDepth 20000 in
theorem gX10_look_X10_lookFurther : GoodIn wsX10_look (wsV RX10 328 RX10 yX10_lookFurther wsX10_lookFurther) := goodIn_app (goodIn_of _ (by decide +kernel)) ggX10_look_X10_lookFurther
set_option maxRecDepth 100000 in
theorem DX10_image_0 : ∀ x ∈ ([(0, .iload_n 1, 1), (1, .ifCond .eq 34, 3), (4, .aload_n 0, 1), (5, .getfield 309, 3), (8, .ifnonnull 14, 3), (11, .aload_n 0, 1), (12, .new 7, 3), (15, .dup, 1), (16, .invokespecial 9, 3), (19, .putfield 309, 3), (22, .aload_n 0, 1), (23, .getfield 309, 3), (26, .aload_n 0, 1), (27, .getfield 10, 3), (30, .invokevirtual 259, 3), (33, .iconst 1, 1), (34, .ireturn, 1), (35, .aload_n 0, 1), (36, .getfield 309, 3), (39, .ifnonnull 5, 3), (42, .iconst 0, 1), (43, .ireturn, 1), (44, .aload_n 0, 1), (45, .getfield 10, 3), (48, .aload_n 0, 1), (49, .getfield 309, 3), (52, .invokevirtual 259, 3), (55, .iconst 1, 1), (56, .ireturn, 1)] : List (Nat × Instr × Nat)), decode cX10_image x.1 = .ok (x.2.1, x.2.2) := by decide +kernel
theorem dX10_image_0 : decode cX10_image 0 = .ok (.iload_n 1, 1) := DX10_image_0 (0, .iload_n 1, 1) (List.mem_of_getElem? (i := 0) rfl)
theorem dX10_image_1 : decode cX10_image 1 = .ok (.ifCond .eq 34, 3) := DX10_image_0 (1, .ifCond .eq 34, 3) (List.mem_of_getElem? (i := 1) rfl)
theorem dX10_image_4 : decode cX10_image 4 = .ok (.aload_n 0, 1) := DX10_image_0 (4, .aload_n 0, 1) (List.mem_of_getElem? (i := 2) rfl)
theorem dX10_image_5 : decode cX10_image 5 = .ok (.getfield 309, 3) := DX10_image_0 (5, .getfield 309, 3) (List.mem_of_getElem? (i := 3) rfl)
theorem dX10_image_8 : decode cX10_image 8 = .ok (.ifnonnull 14, 3) := DX10_image_0 (8, .ifnonnull 14, 3) (List.mem_of_getElem? (i := 4) rfl)
theorem dX10_image_11 : decode cX10_image 11 = .ok (.aload_n 0, 1) := DX10_image_0 (11, .aload_n 0, 1) (List.mem_of_getElem? (i := 5) rfl)
theorem dX10_image_12 : decode cX10_image 12 = .ok (.new 7, 3) := DX10_image_0 (12, .new 7, 3) (List.mem_of_getElem? (i := 6) rfl)
theorem dX10_image_15 : decode cX10_image 15 = .ok (.dup, 1) := DX10_image_0 (15, .dup, 1) (List.mem_of_getElem? (i := 7) rfl)
theorem dX10_image_16 : decode cX10_image 16 = .ok (.invokespecial 9, 3) := DX10_image_0 (16, .invokespecial 9, 3) (List.mem_of_getElem? (i := 8) rfl)
theorem dX10_image_19 : decode cX10_image 19 = .ok (.putfield 309, 3) := DX10_image_0 (19, .putfield 309, 3) (List.mem_of_getElem? (i := 9) rfl)
theorem dX10_image_22 : decode cX10_image 22 = .ok (.aload_n 0, 1) := DX10_image_0 (22, .aload_n 0, 1) (List.mem_of_getElem? (i := 10) rfl)
theorem dX10_image_23 : decode cX10_image 23 = .ok (.getfield 309, 3) := DX10_image_0 (23, .getfield 309, 3) (List.mem_of_getElem? (i := 11) rfl)
theorem dX10_image_26 : decode cX10_image 26 = .ok (.aload_n 0, 1) := DX10_image_0 (26, .aload_n 0, 1) (List.mem_of_getElem? (i := 12) rfl)
theorem dX10_image_27 : decode cX10_image 27 = .ok (.getfield 10, 3) := DX10_image_0 (27, .getfield 10, 3) (List.mem_of_getElem? (i := 13) rfl)
theorem dX10_image_30 : decode cX10_image 30 = .ok (.invokevirtual 259, 3) := DX10_image_0 (30, .invokevirtual 259, 3) (List.mem_of_getElem? (i := 14) rfl)
theorem dX10_image_33 : decode cX10_image 33 = .ok (.iconst 1, 1) := DX10_image_0 (33, .iconst 1, 1) (List.mem_of_getElem? (i := 15) rfl)
theorem dX10_image_34 : decode cX10_image 34 = .ok (.ireturn, 1) := DX10_image_0 (34, .ireturn, 1) (List.mem_of_getElem? (i := 16) rfl)
theorem dX10_image_35 : decode cX10_image 35 = .ok (.aload_n 0, 1) := DX10_image_0 (35, .aload_n 0, 1) (List.mem_of_getElem? (i := 17) rfl)
theorem dX10_image_36 : decode cX10_image 36 = .ok (.getfield 309, 3) := DX10_image_0 (36, .getfield 309, 3) (List.mem_of_getElem? (i := 18) rfl)
theorem dX10_image_39 : decode cX10_image 39 = .ok (.ifnonnull 5, 3) := DX10_image_0 (39, .ifnonnull 5, 3) (List.mem_of_getElem? (i := 19) rfl)
theorem dX10_image_42 : decode cX10_image 42 = .ok (.iconst 0, 1) := DX10_image_0 (42, .iconst 0, 1) (List.mem_of_getElem? (i := 20) rfl)
theorem dX10_image_43 : decode cX10_image 43 = .ok (.ireturn, 1) := DX10_image_0 (43, .ireturn, 1) (List.mem_of_getElem? (i := 21) rfl)
theorem dX10_image_44 : decode cX10_image 44 = .ok (.aload_n 0, 1) := DX10_image_0 (44, .aload_n 0, 1) (List.mem_of_getElem? (i := 22) rfl)
theorem dX10_image_45 : decode cX10_image 45 = .ok (.getfield 10, 3) := DX10_image_0 (45, .getfield 10, 3) (List.mem_of_getElem? (i := 23) rfl)
theorem dX10_image_48 : decode cX10_image 48 = .ok (.aload_n 0, 1) := DX10_image_0 (48, .aload_n 0, 1) (List.mem_of_getElem? (i := 24) rfl)
theorem dX10_image_49 : decode cX10_image 49 = .ok (.getfield 309, 3) := DX10_image_0 (49, .getfield 309, 3) (List.mem_of_getElem? (i := 25) rfl)
theorem dX10_image_52 : decode cX10_image 52 = .ok (.invokevirtual 259, 3) := DX10_image_0 (52, .invokevirtual 259, 3) (List.mem_of_getElem? (i := 26) rfl)
theorem dX10_image_55 : decode cX10_image 55 = .ok (.iconst 1, 1) := DX10_image_0 (55, .iconst 1, 1) (List.mem_of_getElem? (i := 27) rfl)
theorem dX10_image_56 : decode cX10_image 56 = .ok (.ireturn, 1) := DX10_image_0 (56, .ireturn, 1) (List.mem_of_getElem? (i := 28) rfl)
set_option maxRecDepth 20000 in
theorem ggX10_lookFurther_X0_allDeadlocked : GoodIn wsX10_lookFurther wsX0_allDeadlocked := goodIn_r _ [19, 20, 21, 22, 18, 23, 24, 88, 89, 90, 91, 92, 93, 94] rfl (by decide +kernel)
set_option maxRecDepth 20000 in
theorem gX10_lookFurther_X0_allDeadlocked : GoodIn wsX10_lookFurther (wsV RX10 340 RX0 yX0_allDeadlocked wsX0_allDeadlocked) := goodIn_app (goodIn_of _ (by decide +kernel)) ggX10_lookFurther_X0_allDeadlocked
set_option maxRecDepth 20000 in
theorem ggX10_lookFurther_X2_tally : GoodIn wsX10_lookFurther wsX2_tally := goodIn_r _ [29, 30, 31, 32, 33, 28, 34, 35, 36, 37, 38, 39, 40, 41, 42, 43, 44, 45, 46, 47, 48, 49, 50, 51, 95, 96, 97, 98] rfl (by decide +kernel)
set_option maxRecDepth 20000 in
theorem gX10_lookFurther_X2_tally : GoodIn wsX10_lookFurther (wsV RX10 306 RX2 yX2_tally wsX2_tally) := goodIn_app (goodIn_of _ (by decide +kernel)) ggX10_lookFurther_X2_tally
set_option maxRecDepth 100000 in
theorem DX10_look_0 : ∀ x ∈ ([(0, .iload_n 1, 1), (1, .tableswitch 163 0 9 #[55, 71, 82, 93, 101, 112, 123, 135, 147, 155], 55), (56, .aload_n 0, 1), (57, .getfield 10, 3), (60, .getfield 37, 3), (63, .ifCond .eq 7, 3), (66, .iconst 1, 1), (67, .goto 4, 3), (70, .iconst 0, 1), (71, .ireturn, 1), (72, .aload_n 0, 1), (73, .getfield 10, 3), (76, .getfield 223, 3), (79, .getfield 227, 3), (82, .ireturn, 1), (83, .aload_n 0, 1), (84, .getfield 10, 3), (87, .getfield 223, 3), (90, .getfield 253, 3), (93, .ireturn, 1), (94, .aload_n 0, 1), (95, .getfield 10, 3), (98, .getfield 312, 3), (101, .ireturn, 1), (102, .aload_n 0, 1), (103, .getfield 10, 3), (106, .getfield 41, 3), (109, .getfield 51, 3), (112, .ireturn, 1), (113, .aload_n 0, 1), (114, .getfield 10, 3), (117, .getfield 41, 3), (120, .invokevirtual 315, 3), (123, .ireturn, 1), (124, .aload_n 0, 1), (125, .getfield 10, 3), (128, .getfield 193, 3), (131, .iconst 1, 1), (132, .invokevirtual 319, 3), (135, .ireturn, 1)] : List (Nat × Instr × Nat)), decode cX10_look x.1 = .ok (x.2.1, x.2.2) := by decide +kernel
theorem dX10_look_0 : decode cX10_look 0 = .ok (.iload_n 1, 1) := DX10_look_0 (0, .iload_n 1, 1) (List.mem_of_getElem? (i := 0) rfl)
theorem dX10_look_1 : decode cX10_look 1 = .ok (.tableswitch 163 0 9 #[55, 71, 82, 93, 101, 112, 123, 135, 147, 155], 55) := DX10_look_0 (1, .tableswitch 163 0 9 #[55, 71, 82, 93, 101, 112, 123, 135, 147, 155], 55) (List.mem_of_getElem? (i := 1) rfl)
theorem dX10_look_56 : decode cX10_look 56 = .ok (.aload_n 0, 1) := DX10_look_0 (56, .aload_n 0, 1) (List.mem_of_getElem? (i := 2) rfl)
theorem dX10_look_57 : decode cX10_look 57 = .ok (.getfield 10, 3) := DX10_look_0 (57, .getfield 10, 3) (List.mem_of_getElem? (i := 3) rfl)
theorem dX10_look_60 : decode cX10_look 60 = .ok (.getfield 37, 3) := DX10_look_0 (60, .getfield 37, 3) (List.mem_of_getElem? (i := 4) rfl)
theorem dX10_look_63 : decode cX10_look 63 = .ok (.ifCond .eq 7, 3) := DX10_look_0 (63, .ifCond .eq 7, 3) (List.mem_of_getElem? (i := 5) rfl)
theorem dX10_look_66 : decode cX10_look 66 = .ok (.iconst 1, 1) := DX10_look_0 (66, .iconst 1, 1) (List.mem_of_getElem? (i := 6) rfl)
theorem dX10_look_67 : decode cX10_look 67 = .ok (.goto 4, 3) := DX10_look_0 (67, .goto 4, 3) (List.mem_of_getElem? (i := 7) rfl)
theorem dX10_look_70 : decode cX10_look 70 = .ok (.iconst 0, 1) := DX10_look_0 (70, .iconst 0, 1) (List.mem_of_getElem? (i := 8) rfl)
theorem dX10_look_71 : decode cX10_look 71 = .ok (.ireturn, 1) := DX10_look_0 (71, .ireturn, 1) (List.mem_of_getElem? (i := 9) rfl)
theorem dX10_look_72 : decode cX10_look 72 = .ok (.aload_n 0, 1) := DX10_look_0 (72, .aload_n 0, 1) (List.mem_of_getElem? (i := 10) rfl)
theorem dX10_look_73 : decode cX10_look 73 = .ok (.getfield 10, 3) := DX10_look_0 (73, .getfield 10, 3) (List.mem_of_getElem? (i := 11) rfl)
theorem dX10_look_76 : decode cX10_look 76 = .ok (.getfield 223, 3) := DX10_look_0 (76, .getfield 223, 3) (List.mem_of_getElem? (i := 12) rfl)
theorem dX10_look_79 : decode cX10_look 79 = .ok (.getfield 227, 3) := DX10_look_0 (79, .getfield 227, 3) (List.mem_of_getElem? (i := 13) rfl)
theorem dX10_look_82 : decode cX10_look 82 = .ok (.ireturn, 1) := DX10_look_0 (82, .ireturn, 1) (List.mem_of_getElem? (i := 14) rfl)
theorem dX10_look_83 : decode cX10_look 83 = .ok (.aload_n 0, 1) := DX10_look_0 (83, .aload_n 0, 1) (List.mem_of_getElem? (i := 15) rfl)
theorem dX10_look_84 : decode cX10_look 84 = .ok (.getfield 10, 3) := DX10_look_0 (84, .getfield 10, 3) (List.mem_of_getElem? (i := 16) rfl)
theorem dX10_look_87 : decode cX10_look 87 = .ok (.getfield 223, 3) := DX10_look_0 (87, .getfield 223, 3) (List.mem_of_getElem? (i := 17) rfl)
theorem dX10_look_90 : decode cX10_look 90 = .ok (.getfield 253, 3) := DX10_look_0 (90, .getfield 253, 3) (List.mem_of_getElem? (i := 18) rfl)
theorem dX10_look_93 : decode cX10_look 93 = .ok (.ireturn, 1) := DX10_look_0 (93, .ireturn, 1) (List.mem_of_getElem? (i := 19) rfl)
theorem dX10_look_94 : decode cX10_look 94 = .ok (.aload_n 0, 1) := DX10_look_0 (94, .aload_n 0, 1) (List.mem_of_getElem? (i := 20) rfl)
theorem dX10_look_95 : decode cX10_look 95 = .ok (.getfield 10, 3) := DX10_look_0 (95, .getfield 10, 3) (List.mem_of_getElem? (i := 21) rfl)
theorem dX10_look_98 : decode cX10_look 98 = .ok (.getfield 312, 3) := DX10_look_0 (98, .getfield 312, 3) (List.mem_of_getElem? (i := 22) rfl)
theorem dX10_look_101 : decode cX10_look 101 = .ok (.ireturn, 1) := DX10_look_0 (101, .ireturn, 1) (List.mem_of_getElem? (i := 23) rfl)
theorem dX10_look_102 : decode cX10_look 102 = .ok (.aload_n 0, 1) := DX10_look_0 (102, .aload_n 0, 1) (List.mem_of_getElem? (i := 24) rfl)
theorem dX10_look_103 : decode cX10_look 103 = .ok (.getfield 10, 3) := DX10_look_0 (103, .getfield 10, 3) (List.mem_of_getElem? (i := 25) rfl)
theorem dX10_look_106 : decode cX10_look 106 = .ok (.getfield 41, 3) := DX10_look_0 (106, .getfield 41, 3) (List.mem_of_getElem? (i := 26) rfl)
theorem dX10_look_109 : decode cX10_look 109 = .ok (.getfield 51, 3) := DX10_look_0 (109, .getfield 51, 3) (List.mem_of_getElem? (i := 27) rfl)
theorem dX10_look_112 : decode cX10_look 112 = .ok (.ireturn, 1) := DX10_look_0 (112, .ireturn, 1) (List.mem_of_getElem? (i := 28) rfl)
theorem dX10_look_113 : decode cX10_look 113 = .ok (.aload_n 0, 1) := DX10_look_0 (113, .aload_n 0, 1) (List.mem_of_getElem? (i := 29) rfl)
theorem dX10_look_114 : decode cX10_look 114 = .ok (.getfield 10, 3) := DX10_look_0 (114, .getfield 10, 3) (List.mem_of_getElem? (i := 30) rfl)
theorem dX10_look_117 : decode cX10_look 117 = .ok (.getfield 41, 3) := DX10_look_0 (117, .getfield 41, 3) (List.mem_of_getElem? (i := 31) rfl)
theorem dX10_look_120 : decode cX10_look 120 = .ok (.invokevirtual 315, 3) := DX10_look_0 (120, .invokevirtual 315, 3) (List.mem_of_getElem? (i := 32) rfl)
theorem dX10_look_123 : decode cX10_look 123 = .ok (.ireturn, 1) := DX10_look_0 (123, .ireturn, 1) (List.mem_of_getElem? (i := 33) rfl)
theorem dX10_look_124 : decode cX10_look 124 = .ok (.aload_n 0, 1) := DX10_look_0 (124, .aload_n 0, 1) (List.mem_of_getElem? (i := 34) rfl)
theorem dX10_look_125 : decode cX10_look 125 = .ok (.getfield 10, 3) := DX10_look_0 (125, .getfield 10, 3) (List.mem_of_getElem? (i := 35) rfl)
theorem dX10_look_128 : decode cX10_look 128 = .ok (.getfield 193, 3) := DX10_look_0 (128, .getfield 193, 3) (List.mem_of_getElem? (i := 36) rfl)
theorem dX10_look_131 : decode cX10_look 131 = .ok (.iconst 1, 1) := DX10_look_0 (131, .iconst 1, 1) (List.mem_of_getElem? (i := 37) rfl)
theorem dX10_look_132 : decode cX10_look 132 = .ok (.invokevirtual 319, 3) := DX10_look_0 (132, .invokevirtual 319, 3) (List.mem_of_getElem? (i := 38) rfl)
theorem dX10_look_135 : decode cX10_look 135 = .ok (.ireturn, 1) := DX10_look_0 (135, .ireturn, 1) (List.mem_of_getElem? (i := 39) rfl)
set_option maxRecDepth 100000 in
theorem DX10_look_40 : ∀ x ∈ ([(136, .aload_n 0, 1), (137, .getfield 10, 3), (140, .getfield 193, 3), (143, .iconst 2, 1), (144, .invokevirtual 319, 3), (147, .ireturn, 1), (148, .aload_n 0, 1), (149, .getfield 10, 3), (152, .getfield 322, 3), (155, .ireturn, 1), (156, .aload_n 0, 1), (157, .getfield 10, 3), (160, .invokevirtual 325, 3), (163, .ireturn, 1), (164, .aload_n 0, 1), (165, .iload_n 1, 1), (166, .invokevirtual 328, 3), (169, .ireturn, 1)] : List (Nat × Instr × Nat)), decode cX10_look x.1 = .ok (x.2.1, x.2.2) := by decide +kernel
theorem dX10_look_136 : decode cX10_look 136 = .ok (.aload_n 0, 1) := DX10_look_40 (136, .aload_n 0, 1) (List.mem_of_getElem? (i := 0) rfl)
theorem dX10_look_137 : decode cX10_look 137 = .ok (.getfield 10, 3) := DX10_look_40 (137, .getfield 10, 3) (List.mem_of_getElem? (i := 1) rfl)
theorem dX10_look_140 : decode cX10_look 140 = .ok (.getfield 193, 3) := DX10_look_40 (140, .getfield 193, 3) (List.mem_of_getElem? (i := 2) rfl)
theorem dX10_look_143 : decode cX10_look 143 = .ok (.iconst 2, 1) := DX10_look_40 (143, .iconst 2, 1) (List.mem_of_getElem? (i := 3) rfl)
theorem dX10_look_144 : decode cX10_look 144 = .ok (.invokevirtual 319, 3) := DX10_look_40 (144, .invokevirtual 319, 3) (List.mem_of_getElem? (i := 4) rfl)
theorem dX10_look_147 : decode cX10_look 147 = .ok (.ireturn, 1) := DX10_look_40 (147, .ireturn, 1) (List.mem_of_getElem? (i := 5) rfl)
theorem dX10_look_148 : decode cX10_look 148 = .ok (.aload_n 0, 1) := DX10_look_40 (148, .aload_n 0, 1) (List.mem_of_getElem? (i := 6) rfl)
theorem dX10_look_149 : decode cX10_look 149 = .ok (.getfield 10, 3) := DX10_look_40 (149, .getfield 10, 3) (List.mem_of_getElem? (i := 7) rfl)
theorem dX10_look_152 : decode cX10_look 152 = .ok (.getfield 322, 3) := DX10_look_40 (152, .getfield 322, 3) (List.mem_of_getElem? (i := 8) rfl)
theorem dX10_look_155 : decode cX10_look 155 = .ok (.ireturn, 1) := DX10_look_40 (155, .ireturn, 1) (List.mem_of_getElem? (i := 9) rfl)
theorem dX10_look_156 : decode cX10_look 156 = .ok (.aload_n 0, 1) := DX10_look_40 (156, .aload_n 0, 1) (List.mem_of_getElem? (i := 10) rfl)
theorem dX10_look_157 : decode cX10_look 157 = .ok (.getfield 10, 3) := DX10_look_40 (157, .getfield 10, 3) (List.mem_of_getElem? (i := 11) rfl)
theorem dX10_look_160 : decode cX10_look 160 = .ok (.invokevirtual 325, 3) := DX10_look_40 (160, .invokevirtual 325, 3) (List.mem_of_getElem? (i := 12) rfl)
theorem dX10_look_163 : decode cX10_look 163 = .ok (.ireturn, 1) := DX10_look_40 (163, .ireturn, 1) (List.mem_of_getElem? (i := 13) rfl)
theorem dX10_look_164 : decode cX10_look 164 = .ok (.aload_n 0, 1) := DX10_look_40 (164, .aload_n 0, 1) (List.mem_of_getElem? (i := 14) rfl)
theorem dX10_look_165 : decode cX10_look 165 = .ok (.iload_n 1, 1) := DX10_look_40 (165, .iload_n 1, 1) (List.mem_of_getElem? (i := 15) rfl)
theorem dX10_look_166 : decode cX10_look 166 = .ok (.invokevirtual 328, 3) := DX10_look_40 (166, .invokevirtual 328, 3) (List.mem_of_getElem? (i := 16) rfl)
theorem dX10_look_169 : decode cX10_look 169 = .ok (.ireturn, 1) := DX10_look_40 (169, .ireturn, 1) (List.mem_of_getElem? (i := 17) rfl)
set_option maxRecDepth 100000 in
theorem DX10_lookFurther_0 : ∀ x ∈ ([(0, .iload_n 1, 1), (1, .tableswitch 145 10 18 #[51, 62, 73, 81, 89, 100, 111, 122, 133], 51), (52, .aload_n 0, 1), (53, .getfield 10, 3), (56, .getfield 124, 3), (59, .getfield 137, 3), (62, .ireturn, 1), (63, .aload_n 0, 1), (64, .getfield 10, 3), (67, .getfield 124, 3), (70, .getfield 144, 3), (73, .ireturn, 1), (74, .aload_n 0, 1), (75, .getfield 10, 3), (78, .getfield 331, 3), (81, .ireturn, 1), (82, .aload_n 0, 1), (83, .getfield 10, 3), (86, .getfield 262, 3), (89, .ireturn, 1), (90, .aload_n 0, 1), (91, .getfield 10, 3), (94, .getfield 41, 3), (97, .getfield 334, 3), (100, .ireturn, 1), (101, .aload_n 0, 1), (102, .getfield 10, 3), (105, .getfield 281, 3), (108, .getfield 291, 3), (111, .ireturn, 1), (112, .aload_n 0, 1), (113, .getfield 10, 3), (116, .getfield 281, 3), (119, .getfield 337, 3), (122, .ireturn, 1), (123, .aload_n 0, 1), (124, .getfield 10, 3), (127, .getfield 160, 3), (130, .invokevirtual 340, 3), (133, .ireturn, 1)] : List (Nat × Instr × Nat)), decode cX10_lookFurther x.1 = .ok (x.2.1, x.2.2) := by decide +kernel
theorem dX10_lookFurther_0 : decode cX10_lookFurther 0 = .ok (.iload_n 1, 1) := DX10_lookFurther_0 (0, .iload_n 1, 1) (List.mem_of_getElem? (i := 0) rfl)
theorem dX10_lookFurther_1 : decode cX10_lookFurther 1 = .ok (.tableswitch 145 10 18 #[51, 62, 73, 81, 89, 100, 111, 122, 133], 51) := DX10_lookFurther_0 (1, .tableswitch 145 10 18 #[51, 62, 73, 81, 89, 100, 111, 122, 133], 51) (List.mem_of_getElem? (i := 1) rfl)
theorem dX10_lookFurther_52 : decode cX10_lookFurther 52 = .ok (.aload_n 0, 1) := DX10_lookFurther_0 (52, .aload_n 0, 1) (List.mem_of_getElem? (i := 2) rfl)
theorem dX10_lookFurther_53 : decode cX10_lookFurther 53 = .ok (.getfield 10, 3) := DX10_lookFurther_0 (53, .getfield 10, 3) (List.mem_of_getElem? (i := 3) rfl)
theorem dX10_lookFurther_56 : decode cX10_lookFurther 56 = .ok (.getfield 124, 3) := DX10_lookFurther_0 (56, .getfield 124, 3) (List.mem_of_getElem? (i := 4) rfl)
theorem dX10_lookFurther_59 : decode cX10_lookFurther 59 = .ok (.getfield 137, 3) := DX10_lookFurther_0 (59, .getfield 137, 3) (List.mem_of_getElem? (i := 5) rfl)
theorem dX10_lookFurther_62 : decode cX10_lookFurther 62 = .ok (.ireturn, 1) := DX10_lookFurther_0 (62, .ireturn, 1) (List.mem_of_getElem? (i := 6) rfl)
theorem dX10_lookFurther_63 : decode cX10_lookFurther 63 = .ok (.aload_n 0, 1) := DX10_lookFurther_0 (63, .aload_n 0, 1) (List.mem_of_getElem? (i := 7) rfl)
theorem dX10_lookFurther_64 : decode cX10_lookFurther 64 = .ok (.getfield 10, 3) := DX10_lookFurther_0 (64, .getfield 10, 3) (List.mem_of_getElem? (i := 8) rfl)
theorem dX10_lookFurther_67 : decode cX10_lookFurther 67 = .ok (.getfield 124, 3) := DX10_lookFurther_0 (67, .getfield 124, 3) (List.mem_of_getElem? (i := 9) rfl)
theorem dX10_lookFurther_70 : decode cX10_lookFurther 70 = .ok (.getfield 144, 3) := DX10_lookFurther_0 (70, .getfield 144, 3) (List.mem_of_getElem? (i := 10) rfl)
theorem dX10_lookFurther_73 : decode cX10_lookFurther 73 = .ok (.ireturn, 1) := DX10_lookFurther_0 (73, .ireturn, 1) (List.mem_of_getElem? (i := 11) rfl)
theorem dX10_lookFurther_74 : decode cX10_lookFurther 74 = .ok (.aload_n 0, 1) := DX10_lookFurther_0 (74, .aload_n 0, 1) (List.mem_of_getElem? (i := 12) rfl)
theorem dX10_lookFurther_75 : decode cX10_lookFurther 75 = .ok (.getfield 10, 3) := DX10_lookFurther_0 (75, .getfield 10, 3) (List.mem_of_getElem? (i := 13) rfl)
theorem dX10_lookFurther_78 : decode cX10_lookFurther 78 = .ok (.getfield 331, 3) := DX10_lookFurther_0 (78, .getfield 331, 3) (List.mem_of_getElem? (i := 14) rfl)
theorem dX10_lookFurther_81 : decode cX10_lookFurther 81 = .ok (.ireturn, 1) := DX10_lookFurther_0 (81, .ireturn, 1) (List.mem_of_getElem? (i := 15) rfl)
theorem dX10_lookFurther_82 : decode cX10_lookFurther 82 = .ok (.aload_n 0, 1) := DX10_lookFurther_0 (82, .aload_n 0, 1) (List.mem_of_getElem? (i := 16) rfl)
theorem dX10_lookFurther_83 : decode cX10_lookFurther 83 = .ok (.getfield 10, 3) := DX10_lookFurther_0 (83, .getfield 10, 3) (List.mem_of_getElem? (i := 17) rfl)
theorem dX10_lookFurther_86 : decode cX10_lookFurther 86 = .ok (.getfield 262, 3) := DX10_lookFurther_0 (86, .getfield 262, 3) (List.mem_of_getElem? (i := 18) rfl)
theorem dX10_lookFurther_89 : decode cX10_lookFurther 89 = .ok (.ireturn, 1) := DX10_lookFurther_0 (89, .ireturn, 1) (List.mem_of_getElem? (i := 19) rfl)
theorem dX10_lookFurther_90 : decode cX10_lookFurther 90 = .ok (.aload_n 0, 1) := DX10_lookFurther_0 (90, .aload_n 0, 1) (List.mem_of_getElem? (i := 20) rfl)
theorem dX10_lookFurther_91 : decode cX10_lookFurther 91 = .ok (.getfield 10, 3) := DX10_lookFurther_0 (91, .getfield 10, 3) (List.mem_of_getElem? (i := 21) rfl)
theorem dX10_lookFurther_94 : decode cX10_lookFurther 94 = .ok (.getfield 41, 3) := DX10_lookFurther_0 (94, .getfield 41, 3) (List.mem_of_getElem? (i := 22) rfl)
theorem dX10_lookFurther_97 : decode cX10_lookFurther 97 = .ok (.getfield 334, 3) := DX10_lookFurther_0 (97, .getfield 334, 3) (List.mem_of_getElem? (i := 23) rfl)
theorem dX10_lookFurther_100 : decode cX10_lookFurther 100 = .ok (.ireturn, 1) := DX10_lookFurther_0 (100, .ireturn, 1) (List.mem_of_getElem? (i := 24) rfl)
theorem dX10_lookFurther_101 : decode cX10_lookFurther 101 = .ok (.aload_n 0, 1) := DX10_lookFurther_0 (101, .aload_n 0, 1) (List.mem_of_getElem? (i := 25) rfl)
theorem dX10_lookFurther_102 : decode cX10_lookFurther 102 = .ok (.getfield 10, 3) := DX10_lookFurther_0 (102, .getfield 10, 3) (List.mem_of_getElem? (i := 26) rfl)
theorem dX10_lookFurther_105 : decode cX10_lookFurther 105 = .ok (.getfield 281, 3) := DX10_lookFurther_0 (105, .getfield 281, 3) (List.mem_of_getElem? (i := 27) rfl)
theorem dX10_lookFurther_108 : decode cX10_lookFurther 108 = .ok (.getfield 291, 3) := DX10_lookFurther_0 (108, .getfield 291, 3) (List.mem_of_getElem? (i := 28) rfl)
theorem dX10_lookFurther_111 : decode cX10_lookFurther 111 = .ok (.ireturn, 1) := DX10_lookFurther_0 (111, .ireturn, 1) (List.mem_of_getElem? (i := 29) rfl)
theorem dX10_lookFurther_112 : decode cX10_lookFurther 112 = .ok (.aload_n 0, 1) := DX10_lookFurther_0 (112, .aload_n 0, 1) (List.mem_of_getElem? (i := 30) rfl)
theorem dX10_lookFurther_113 : decode cX10_lookFurther 113 = .ok (.getfield 10, 3) := DX10_lookFurther_0 (113, .getfield 10, 3) (List.mem_of_getElem? (i := 31) rfl)
theorem dX10_lookFurther_116 : decode cX10_lookFurther 116 = .ok (.getfield 281, 3) := DX10_lookFurther_0 (116, .getfield 281, 3) (List.mem_of_getElem? (i := 32) rfl)
theorem dX10_lookFurther_119 : decode cX10_lookFurther 119 = .ok (.getfield 337, 3) := DX10_lookFurther_0 (119, .getfield 337, 3) (List.mem_of_getElem? (i := 33) rfl)
theorem dX10_lookFurther_122 : decode cX10_lookFurther 122 = .ok (.ireturn, 1) := DX10_lookFurther_0 (122, .ireturn, 1) (List.mem_of_getElem? (i := 34) rfl)
theorem dX10_lookFurther_123 : decode cX10_lookFurther 123 = .ok (.aload_n 0, 1) := DX10_lookFurther_0 (123, .aload_n 0, 1) (List.mem_of_getElem? (i := 35) rfl)
theorem dX10_lookFurther_124 : decode cX10_lookFurther 124 = .ok (.getfield 10, 3) := DX10_lookFurther_0 (124, .getfield 10, 3) (List.mem_of_getElem? (i := 36) rfl)
theorem dX10_lookFurther_127 : decode cX10_lookFurther 127 = .ok (.getfield 160, 3) := DX10_lookFurther_0 (127, .getfield 160, 3) (List.mem_of_getElem? (i := 37) rfl)
theorem dX10_lookFurther_130 : decode cX10_lookFurther 130 = .ok (.invokevirtual 340, 3) := DX10_lookFurther_0 (130, .invokevirtual 340, 3) (List.mem_of_getElem? (i := 38) rfl)
theorem dX10_lookFurther_133 : decode cX10_lookFurther 133 = .ok (.ireturn, 1) := DX10_lookFurther_0 (133, .ireturn, 1) (List.mem_of_getElem? (i := 39) rfl)
set_option maxRecDepth 100000 in
theorem DX10_lookFurther_40 : ∀ x ∈ ([(134, .aload_n 0, 1), (135, .getfield 10, 3), (138, .getfield 223, 3), (141, .iconst 0, 1), (142, .invokevirtual 306, 3), (145, .ireturn, 1), (146, .ldc_w 343, 3), (149, .ireturn, 1)] : List (Nat × Instr × Nat)), decode cX10_lookFurther x.1 = .ok (x.2.1, x.2.2) := by decide +kernel
theorem dX10_lookFurther_134 : decode cX10_lookFurther 134 = .ok (.aload_n 0, 1) := DX10_lookFurther_40 (134, .aload_n 0, 1) (List.mem_of_getElem? (i := 0) rfl)
theorem dX10_lookFurther_135 : decode cX10_lookFurther 135 = .ok (.getfield 10, 3) := DX10_lookFurther_40 (135, .getfield 10, 3) (List.mem_of_getElem? (i := 1) rfl)
theorem dX10_lookFurther_138 : decode cX10_lookFurther 138 = .ok (.getfield 223, 3) := DX10_lookFurther_40 (138, .getfield 223, 3) (List.mem_of_getElem? (i := 2) rfl)
theorem dX10_lookFurther_141 : decode cX10_lookFurther 141 = .ok (.iconst 0, 1) := DX10_lookFurther_40 (141, .iconst 0, 1) (List.mem_of_getElem? (i := 3) rfl)
theorem dX10_lookFurther_142 : decode cX10_lookFurther 142 = .ok (.invokevirtual 306, 3) := DX10_lookFurther_40 (142, .invokevirtual 306, 3) (List.mem_of_getElem? (i := 4) rfl)
theorem dX10_lookFurther_145 : decode cX10_lookFurther 145 = .ok (.ireturn, 1) := DX10_lookFurther_40 (145, .ireturn, 1) (List.mem_of_getElem? (i := 5) rfl)
theorem dX10_lookFurther_146 : decode cX10_lookFurther 146 = .ok (.ldc_w 343, 3) := DX10_lookFurther_40 (146, .ldc_w 343, 3) (List.mem_of_getElem? (i := 6) rfl)
theorem dX10_lookFurther_149 : decode cX10_lookFurther 149 = .ok (.ireturn, 1) := DX10_lookFurther_40 (149, .ireturn, 1) (List.mem_of_getElem? (i := 7) rfl)
set_option maxRecDepth 100000 in
theorem DX10_isParty_0 : ∀ x ∈ ([(0, .iload_n 0, 1), (1, .iconst 1, 1), (2, .if_icmp .lt 13, 3), (5, .iload_n 0, 1), (6, .bipush 9, 2), (8, .if_icmp .gt 7, 3), (11, .iconst 1, 1), (12, .goto 4, 3), (15, .iconst 0, 1), (16, .ireturn, 1)] : List (Nat × Instr × Nat)), decode cX10_isParty x.1 = .ok (x.2.1, x.2.2) := by decide +kernel
theorem dX10_isParty_0 : decode cX10_isParty 0 = .ok (.iload_n 0, 1) := DX10_isParty_0 (0, .iload_n 0, 1) (List.mem_of_getElem? (i := 0) rfl)
theorem dX10_isParty_1 : decode cX10_isParty 1 = .ok (.iconst 1, 1) := DX10_isParty_0 (1, .iconst 1, 1) (List.mem_of_getElem? (i := 1) rfl)
theorem dX10_isParty_2 : decode cX10_isParty 2 = .ok (.if_icmp .lt 13, 3) := DX10_isParty_0 (2, .if_icmp .lt 13, 3) (List.mem_of_getElem? (i := 2) rfl)
theorem dX10_isParty_5 : decode cX10_isParty 5 = .ok (.iload_n 0, 1) := DX10_isParty_0 (5, .iload_n 0, 1) (List.mem_of_getElem? (i := 3) rfl)
theorem dX10_isParty_6 : decode cX10_isParty 6 = .ok (.bipush 9, 2) := DX10_isParty_0 (6, .bipush 9, 2) (List.mem_of_getElem? (i := 4) rfl)
theorem dX10_isParty_8 : decode cX10_isParty 8 = .ok (.if_icmp .gt 7, 3) := DX10_isParty_0 (8, .if_icmp .gt 7, 3) (List.mem_of_getElem? (i := 5) rfl)
theorem dX10_isParty_11 : decode cX10_isParty 11 = .ok (.iconst 1, 1) := DX10_isParty_0 (11, .iconst 1, 1) (List.mem_of_getElem? (i := 6) rfl)
theorem dX10_isParty_12 : decode cX10_isParty 12 = .ok (.goto 4, 3) := DX10_isParty_0 (12, .goto 4, 3) (List.mem_of_getElem? (i := 7) rfl)
theorem dX10_isParty_15 : decode cX10_isParty 15 = .ok (.iconst 0, 1) := DX10_isParty_0 (15, .iconst 0, 1) (List.mem_of_getElem? (i := 8) rfl)
theorem dX10_isParty_16 : decode cX10_isParty 16 = .ok (.ireturn, 1) := DX10_isParty_0 (16, .ireturn, 1) (List.mem_of_getElem? (i := 9) rfl)
set_option maxRecDepth 100000 in
theorem DX10_isPage_0 : ∀ x ∈ ([(0, .iload_n 0, 1), (1, .ifCond .lt 13, 3), (4, .iload_n 0, 1), (5, .bipush 16, 2), (7, .if_icmp .ge 7, 3), (10, .iconst 1, 1), (11, .goto 4, 3), (14, .iconst 0, 1), (15, .ireturn, 1)] : List (Nat × Instr × Nat)), decode cX10_isPage x.1 = .ok (x.2.1, x.2.2) := by decide +kernel
theorem dX10_isPage_0 : decode cX10_isPage 0 = .ok (.iload_n 0, 1) := DX10_isPage_0 (0, .iload_n 0, 1) (List.mem_of_getElem? (i := 0) rfl)
theorem dX10_isPage_1 : decode cX10_isPage 1 = .ok (.ifCond .lt 13, 3) := DX10_isPage_0 (1, .ifCond .lt 13, 3) (List.mem_of_getElem? (i := 1) rfl)
theorem dX10_isPage_4 : decode cX10_isPage 4 = .ok (.iload_n 0, 1) := DX10_isPage_0 (4, .iload_n 0, 1) (List.mem_of_getElem? (i := 2) rfl)
theorem dX10_isPage_5 : decode cX10_isPage 5 = .ok (.bipush 16, 2) := DX10_isPage_0 (5, .bipush 16, 2) (List.mem_of_getElem? (i := 3) rfl)
theorem dX10_isPage_7 : decode cX10_isPage 7 = .ok (.if_icmp .ge 7, 3) := DX10_isPage_0 (7, .if_icmp .ge 7, 3) (List.mem_of_getElem? (i := 4) rfl)
theorem dX10_isPage_10 : decode cX10_isPage 10 = .ok (.iconst 1, 1) := DX10_isPage_0 (10, .iconst 1, 1) (List.mem_of_getElem? (i := 5) rfl)
theorem dX10_isPage_11 : decode cX10_isPage 11 = .ok (.goto 4, 3) := DX10_isPage_0 (11, .goto 4, 3) (List.mem_of_getElem? (i := 6) rfl)
theorem dX10_isPage_14 : decode cX10_isPage 14 = .ok (.iconst 0, 1) := DX10_isPage_0 (14, .iconst 0, 1) (List.mem_of_getElem? (i := 7) rfl)
theorem dX10_isPage_15 : decode cX10_isPage 15 = .ok (.ireturn, 1) := DX10_isPage_0 (15, .ireturn, 1) (List.mem_of_getElem? (i := 8) rfl)
