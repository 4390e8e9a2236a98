/-! ROWS: the bytecode of the methods as the abstract machine runs it, and their contracts (written by wip/p63/emit.py). -/
def mL_went : zm_M := (yL_went, cL_went, 3, (some .long), (9, 1, 6, 184), 2, [(0, 5, 6, 101)], (1, 6))
set_option maxRecDepth 100000 in
def rL_went : List zm_R := [(0, .aload_n 0, 0, [], 0, 0, (0, 0), false, []),
  (1, .iload_n 1, 0, [], 0, 0, (0, 0), false, []),
  (2, .invokevirtual 97, 6, [0, 0, 2, 2, 2, 5, 0, 4, 2], 0, 0, (0, 0), false, []),
  (5, .lreturn, 5, [], 0, 0, (0, 0), false, []),
  (6, .astore_n 2, 0, [], 0, 0, (0, 0), false, []),
  (7, .ldc2_w 103, 9, [1], 0, (-9), (1, 6), false, []),
  (10, .lreturn, 5, [], 0, 0, (1, 6), false, [])]
def eL_went : List zm_M := [mX5_go]
noncomputable def vL_went : List (zm_M × zm_S) := [(mX5_go, sX5_go)]
noncomputable def sL_went : zm_S := zsem vL_went rL_went 3
set_option maxRecDepth 100000 in
theorem aL_went : zall RL mL_went eL_went rL_went = true := by decide +kernel
set_option maxRecDepth 100000 in
theorem wL_went : ∀ w ∈ zwds RL mL_went eL_went rL_went, w ∈ gT := zwd_of [954, 955, 956, 38, 957, 953, 1007] (by decide +kernel) (by decide +kernel) (z7_no (by decide +kernel))
set_option maxRecDepth 100000 in
theorem xL_went : ∀ w ∈ zwxs RL mL_went eL_went rL_went, zspc w = true ∧ w ∈ lw_tbl := by decide +kernel
theorem tL_went {sc : Nat × (Nat → Int32)} {l : Launch} (hlt : l.stackTraces = false) : MetA sc l mL_went (sL_went) := zmet (M := mL_went) (own := RL) (envM := eL_went) hlt rfl (by decide +kernel) (by decide +kernel) rfl (fun j q hq => by
  match j, hq with
  | 0, hq => cases hq; exact tX5_go hlt
  | n + 1, hq => cases hq) aL_went wL_went xL_went rfl
def mL_completed : zm_M := (yL_completed, cL_completed, 2, (some .long), (7, 1, 6, 157), 1, [(0, 5, 6, 101)], (1, 6))
set_option maxRecDepth 100000 in
def rL_completed : List zm_R := [(0, .aload_n 0, 0, [], 0, 0, (0, 0), false, []),
  (1, .invokevirtual 105, 6, [0, 0, 1, 1, 2, 5, 0, 4, 1], 0, 0, (0, 0), false, []),
  (4, .i2l, 0, [], 0, 0, (0, 0), false, []),
  (5, .lreturn, 5, [], 0, 0, (0, 0), false, []),
  (6, .astore_n 1, 0, [], 0, 0, (0, 0), false, []),
  (7, .ldc2_w 103, 9, [1], 0, (-9), (1, 6), false, []),
  (10, .lreturn, 5, [], 0, 0, (1, 6), false, [])]
def eL_completed : List zm_M := [mX5_complete]
noncomputable def vL_completed : List (zm_M × zm_S) := [(mX5_complete, sX5_complete)]
noncomputable def sL_completed : zm_S := zsem vL_completed rL_completed 2
set_option maxRecDepth 100000 in
theorem aL_completed : zall RL mL_completed eL_completed rL_completed = true := by decide +kernel
set_option maxRecDepth 100000 in
theorem wL_completed : ∀ w ∈ zwds RL mL_completed eL_completed rL_completed, w ∈ gT := zwd_of [409, 410, 411, 38, 412, 953, 1007] (by decide +kernel) (by decide +kernel) (z7_no (by decide +kernel))
set_option maxRecDepth 100000 in
theorem xL_completed : ∀ w ∈ zwxs RL mL_completed eL_completed rL_completed, zspc w = true ∧ w ∈ lw_tbl := by decide +kernel
theorem tL_completed {sc : Nat × (Nat → Int32)} {l : Launch} (hlt : l.stackTraces = false) : MetA sc l mL_completed (sL_completed) := zmet (M := mL_completed) (own := RL) (envM := eL_completed) hlt rfl (by decide +kernel) (by decide +kernel) rfl (fun j q hq => by
  match j, hq with
  | 0, hq => cases hq; exact tX5_complete hlt
  | n + 1, hq => cases hq) aL_completed wL_completed xL_completed rfl
def mL_doored : zm_M := (yL_doored, cL_doored, 5, (some .int), (9, 1, 6, 187), 4, [(0, 7, 8, 112), (0, 7, 13, 101)], (1, 6))
set_option maxRecDepth 100000 in
def rL_doored : List zm_R := [(0, .aload_n 0, 0, [], 0, 0, (0, 0), false, []),
  (1, .iload_n 1, 0, [], 0, 0, (0, 0), false, []),
  (2, .iload_n 2, 0, [], 0, 0, (0, 0), false, []),
  (3, .iload_n 3, 0, [], 0, 0, (0, 0), false, []),
  (4, .invokevirtual 108, 6, [0, 0, 4, 1, 2, 5, 1, 6, 4, 0, 9, 4], 0, 0, (0, 0), false, []),
  (7, .ireturn, 5, [0], 0, 0, (0, 0), false, []),
  (8, .astore 4, 0, [], 0, 0, (0, 0), false, []),
  (10, .bipush (-9), 0, [], (-9), 0, (1, 6), false, []),
  (12, .ireturn, 5, [0], 0, 0, (1, 6), false, []),
  (13, .astore 4, 0, [], 0, 0, (0, 0), false, []),
  (15, .bipush (-9), 0, [], (-9), 0, (1, 6), false, []),
  (17, .ireturn, 5, [0], 0, 0, (1, 6), false, [])]
def eL_doored : List zm_M := [mX5_addDoor]
noncomputable def vL_doored : List (zm_M × zm_S) := [(mX5_addDoor, sX5_addDoor)]
noncomputable def sL_doored : zm_S := zsem vL_doored rL_doored 5
set_option maxRecDepth 100000 in
theorem aL_doored : zall RL mL_doored eL_doored rL_doored = true := by decide +kernel
set_option maxRecDepth 100000 in
theorem wL_doored : ∀ w ∈ zwds RL mL_doored eL_doored rL_doored, w ∈ gT := zwd_of [1074, 1075, 1076, 38, 1077, 1073, 953] (by decide +kernel) (by decide +kernel) (z7_no (by decide +kernel))
set_option maxRecDepth 100000 in
theorem xL_doored : ∀ w ∈ zwxs RL mL_doored eL_doored rL_doored, zspc w = true ∧ w ∈ lw_tbl := by decide +kernel
theorem tL_doored {sc : Nat × (Nat → Int32)} {l : Launch} (hlt : l.stackTraces = false) : MetA sc l mL_doored (sL_doored) := zmet (M := mL_doored) (own := RL) (envM := eL_doored) hlt rfl (by decide +kernel) (by decide +kernel) rfl (fun j q hq => by
  match j, hq with
  | 0, hq => cases hq; exact tX5_addDoor hlt
  | n + 1, hq => cases hq) aL_doored wL_doored xL_doored rfl
def mL_act : zm_M := (yL_act, cL_act, 7, (some .long), (10, 1, 6, 211), 3, [], (1, 6))
set_option maxRecDepth 100000 in
def rL_act : List zm_R := [(0, .aload_n 1, 0, [], 0, 0, (0, 0), false, []),
  (1, .iload_n 2, 0, [], 0, 0, (0, 0), false, []),
  (2, .iconst 1, 0, [], 1, 0, (0, 0), false, []),
  (3, .iadd, 0, [], 0, 0, (0, 0), false, []),
  (4, .ldc 114, 9, [0], 100000, 0, (0, 0), false, []),
  (6, .invokestatic 40, 6, [1, 0, 3, 1, 0, 0], 0, 0, (0, 0), false, []),
  (9, .istore_n 3, 0, [], 0, 0, (0, 0), false, []),
  (10, .aload_n 1, 0, [], 0, 0, (0, 0), false, []),
  (11, .iload_n 2, 0, [], 0, 0, (0, 0), false, []),
  (12, .iconst 2, 0, [], 2, 0, (0, 0), false, []),
  (13, .iadd, 0, [], 0, 0, (0, 0), false, []),
  (14, .ldc 114, 9, [0], 100000, 0, (0, 0), false, []),
  (16, .invokestatic 40, 6, [1, 0, 3, 1, 0, 0], 0, 0, (0, 0), false, []),
  (19, .istore 4, 0, [], 0, 0, (0, 0), false, []),
  (21, .iload_n 3, 0, [], 0, 0, (0, 0), false, []),
  (22, .aload_n 0, 0, [], 0, 0, (0, 0), false, []),
  (23, .iconst 0, 0, [], 0, 0, (0, 0), false, []),
  (24, .invokevirtual 93, 6, [0, 1, 2, 1, 1, 5], 0, 0, (0, 0), false, []),
  (27, .irem, 11, [], 0, 0, (0, 0), false, []),
  (28, .istore 5, 0, [], 0, 0, (0, 0), false, []),
  (30, .aload_n 0, 0, [], 0, 0, (0, 0), false, []),
  (31, .iconst 1, 0, [], 1, 0, (0, 0), false, []),
  (32, .invokevirtual 93, 6, [0, 1, 2, 1, 1, 5], 0, 0, (0, 0), false, []),
  (35, .ifCond .ne 7, 1, [26], 0, 0, (0, 0), false, []),
  (38, .iconst (-1), 0, [], (-1), 0, (0, 0), false, []),
  (39, .goto 10, 1, [31], 0, 0, (0, 0), false, []),
  (42, .iload_n 3, 0, [], 0, 0, (0, 0), false, []),
  (43, .aload_n 0, 0, [], 0, 0, (0, 0), false, []),
  (44, .iconst 1, 0, [], 1, 0, (0, 0), false, []),
  (45, .invokevirtual 93, 6, [0, 1, 2, 1, 1, 5], 0, 0, (0, 0), false, []),
  (48, .irem, 11, [], 0, 0, (0, 0), false, []),
  (49, .istore 6, 0, [], 0, 0, (0, 0), false, []),
  (51, .aload_n 1, 0, [], 0, 0, (0, 0), false, []),
  (52, .iload_n 2, 0, [], 0, 0, (0, 0), false, []),
  (53, .bipush 22, 0, [], 22, 0, (0, 0), false, []),
  (55, .invokestatic 40, 6, [1, 0, 3, 1, 0, 0], 0, 0, (0, 0), false, []),
  (58, .tableswitch 376 0 19 #[94, 94, 94, 94, 94, 101, 133, 154, 159, 187, 187, 217, 230, 230, 291, 291, 291, 319, 347, 355], 1, [202, 37, 37, 37, 37, 37, 41, 61, 73, 76, 92, 92, 110, 118, 118, 153, 153, 153, 170, 184, 189], 0, 0, (0, 0), true, [1, 2]),
  (152, .aload_n 0, 0, [], 0, 0, (0, 0), true, [1, 2, 3, 4, 6]),
  (153, .iload 5, 0, [], 0, 0, (0, 0), false, []),
  (155, .invokestatic 115, 6, [5, 12, 2, 2, 0, 0], 0, 0, (0, 0), false, []),
  (158, .lreturn, 5, [], 0, 0, (1, 6), false, []),
  (159, .aload_n 0, 0, [], 0, 0, (0, 0), true, [1, 2, 4, 5, 6]),
  (160, .iconst 4, 0, [], 4, 0, (0, 0), false, []),
  (161, .invokevirtual 93, 6, [0, 1, 2, 1, 1, 5], 0, 0, (0, 0), false, []),
  (164, .iconst 2, 0, [], 2, 0, (0, 0), false, []),
  (165, .if_icmp .ge 9, 1, [48], 0, 0, (0, 0), false, []),
  (168, .ldc2_w 103, 9, [1], 0, (-9), (0, 0), false, []),
  (171, .goto 19, 1, [60], 0, 0, (0, 0), false, []),
  (174, .aload_n 0, 0, [], 0, 0, (0, 0), false, []),
  (175, .iconst 1, 0, [], 1, 0, (0, 0), false, []),
  (176, .iload_n 3, 0, [], 0, 0, (0, 0), false, []),
  (177, .aload_n 0, 0, [], 0, 0, (0, 0), false, []),
  (178, .iconst 4, 0, [], 4, 0, (0, 0), false, []),
  (179, .invokevirtual 93, 6, [0, 1, 2, 1, 1, 5], 0, 0, (0, 0), false, []),
  (182, .iconst 1, 0, [], 1, 0, (0, 0), false, []),
  (183, .isub, 0, [], 0, 0, (0, 0), false, []),
  (184, .irem, 11, [], 0, 0, (0, 0), false, []),
  (185, .iadd, 0, [], 0, 0, (0, 0), false, []),
  (186, .invokevirtual 119, 6, [0, 14, 2, 1, 1, 5], 0, 0, (0, 0), false, []),
  (189, .i2l, 0, [], 0, 0, (0, 0), false, []),
  (190, .lreturn, 5, [], 0, 0, (0, 0), false, []),
  (191, .iload_n 3, 0, [], 0, 0, (0, 0), true, [1, 2, 4, 6]),
  (192, .iconst 3, 0, [], 3, 0, (0, 0), false, []),
  (193, .irem, 11, [], 0, 0, (0, 0), false, []),
  (194, .ifCond .ne 11, 1, [69], 0, 0, (0, 0), false, []),
  (197, .aload_n 0, 0, [], 0, 0, (0, 0), false, []),
  (198, .invokevirtual 122, 6, [0, 13, 1, 1, 0, 5], 0, 0, (0, 0), false, []),
  (201, .i2l, 0, [], 0, 0, (0, 0), false, []),
  (202, .goto 9, 1, [72], 0, 0, (0, 0), false, []),
  (205, .aload_n 0, 0, [], 0, 0, (0, 0), false, []),
  (206, .iload 5, 0, [], 0, 0, (0, 0), false, []),
  (208, .invokestatic 115, 6, [5, 12, 2, 2, 0, 0], 0, 0, (0, 0), false, []),
  (211, .lreturn, 5, [], 0, 0, (1, 6), false, []),
  (212, .aload_n 0, 0, [], 0, 0, (0, 0), true, [1, 2, 3, 4, 5, 6]),
  (213, .invokestatic 125, 6, [5, 11, 1, 2, 0, 0], 0, 0, (0, 0), false, []),
  (216, .lreturn, 5, [], 0, 0, (1, 6), false, []),
  (217, .aload_n 0, 0, [], 0, 0, (0, 0), true, [1, 2, 4, 5, 6]),
  (218, .invokevirtual 129, 6, [0, 9, 1, 2, 0, 5], 0, 0, (0, 0), false, []),
  (221, .lconst 0, 0, [], 0, 0, (0, 0), false, []),
  (222, .lcmp, 0, [], 0, 0, (0, 0), false, []),
  (223, .ifCond .ne 9, 1, [83], 0, 0, (0, 0), false, []),
  (226, .ldc2_w 103, 9, [1], 0, (-9), (0, 0), false, []),
  (229, .goto 15, 1, [91], 0, 0, (0, 0), false, []),
  (232, .aload_n 0, 0, [], 0, 0, (0, 0), false, []),
  (233, .iload_n 3, 0, [], 0, 0, (0, 0), false, []),
  (234, .i2l, 0, [], 0, 0, (0, 0), false, []),
  (235, .aload_n 0, 0, [], 0, 0, (0, 0), false, []),
  (236, .invokevirtual 129, 6, [0, 9, 1, 2, 0, 5], 0, 0, (0, 0), false, []),
  (239, .lrem, 11, [], 0, 0, (0, 0), false, []),
  (240, .invokevirtual 133, 6, [0, 10, 2, 1, 1, 5], 0, 0, (0, 0), false, []),
  (243, .i2l, 0, [], 0, 0, (0, 0), false, []),
  (244, .lreturn, 5, [], 0, 0, (0, 0), false, []),
  (245, .aload_n 0, 0, [], 0, 0, (0, 0), true, [1, 2, 6]),
  (246, .iload 5, 0, [], 0, 0, (0, 0), false, []),
  (248, .iload 4, 0, [], 0, 0, (0, 0), false, []),
  (250, .iconst 4, 0, [], 4, 0, (0, 0), false, []),
  (251, .irem, 11, [], 0, 0, (0, 0), false, []),
  (252, .iload_n 3, 0, [], 0, 0, (0, 0), false, []),
  (253, .iconst 3, 0, [], 3, 0, (0, 0), false, []),
  (254, .irem, 11, [], 0, 0, (0, 0), false, []),
  (255, .ifCond .le 7, 1, [103], 0, 0, (0, 0), false, []),
  (258, .iconst 1, 0, [], 1, 0, (0, 0), false, []),
  (259, .goto 4, 1, [104], 0, 0, (0, 0), false, []),
  (262, .iconst 0, 0, [], 0, 0, (0, 0), false, []),
  (263, .invokevirtual 137, 6, [0, 8, 4, 1, 1, 5], 0, 0, (0, 0), false, []),
  (266, .ifCond .eq 7, 1, [108], 0, 0, (0, 0), false, []),
  (269, .lconst 1, 0, [], 0, 1, (0, 0), false, []),
  (270, .goto 4, 1, [109], 0, 0, (0, 0), false, []),
  (273, .lconst 0, 0, [], 0, 0, (0, 0), false, []),
  (274, .lreturn, 5, [], 0, 0, (0, 0), false, []),
  (275, .aload_n 0, 0, [], 0, 0, (0, 0), true, [1, 2, 3, 6]),
  (276, .iload 5, 0, [], 0, 0, (0, 0), false, []),
  (278, .iload 4, 0, [], 0, 0, (0, 0), false, []),
  (280, .bipush 30, 0, [], 30, 0, (0, 0), false, []),
  (282, .irem, 11, [], 0, 0, (0, 0), false, []),
  (283, .invokevirtual 141, 6, [0, 7, 3, 1, 1, 5], 0, 0, (0, 0), false, []),
  (286, .i2l, 0, [], 0, 0, (0, 0), false, []),
  (287, .lreturn, 5, [], 0, 0, (0, 0), false, []),
  (288, .iload 6, 0, [], 0, 0, (0, 0), true, [1, 2, 3, 5]),
  (290, .ifCond .ge 9, 1, [122], 0, 0, (0, 0), false, []),
  (293, .ldc2_w 103, 9, [1], 0, (-9), (0, 0), false, []),
  (296, .goto 52, 1, [152], 0, 0, (0, 0), false, []),
  (299, .iload 4, 0, [], 0, 0, (0, 0), false, []),
  (301, .iconst 3, 0, [], 3, 0, (0, 0), false, []),
  (302, .irem, 11, [], 0, 0, (0, 0), false, []),
  (303, .ifCond .ne 15, 1, [133], 0, 0, (0, 0), false, []),
  (306, .aload_n 0, 0, [], 0, 0, (0, 0), false, []),
  (307, .iload 6, 0, [], 0, 0, (0, 0), false, []),
  (309, .iconst 0, 0, [], 0, 0, (0, 0), false, []),
  (310, .iconst 0, 0, [], 0, 0, (0, 0), false, []),
  (311, .invokevirtual 144, 6, [0, 6, 4, 1, 1, 5], 0, 0, (0, 0), false, []),
  (314, .i2l, 0, [], 0, 0, (0, 0), false, []),
  (315, .goto 33, 1, [152], 0, 0, (0, 0), false, []),
  (318, .aload_n 0, 0, [], 0, 0, (0, 0), false, []),
  (319, .iload 6, 0, [], 0, 0, (0, 0), false, []),
  (321, .iload 4, 0, [], 0, 0, (0, 0), false, []),
  (323, .iconst 3, 0, [], 3, 0, (0, 0), false, []),
  (324, .irem, 11, [], 0, 0, (0, 0), false, []),
  (325, .iload 4, 0, [], 0, 0, (0, 0), false, []),
  (327, .iconst 3, 0, [], 3, 0, (0, 0), false, []),
  (328, .idiv, 11, [], 0, 0, (0, 0), false, []),
  (329, .iload 4, 0, [], 0, 0, (0, 0), false, []),
  (331, .iconst 3, 0, [], 3, 0, (0, 0), false, []),
  (332, .irem, 11, [], 0, 0, (0, 0), false, []),
  (333, .iconst 1, 0, [], 1, 0, (0, 0), false, []),
  (334, .if_icmp .ne 7, 1, [148], 0, 0, (0, 0), false, []),
  (337, .iconst 4, 0, [], 4, 0, (0, 0), false, []),
  (338, .goto 5, 1, [149], 0, 0, (0, 0), false, []),
  (341, .bipush 30, 0, [], 30, 0, (0, 0), false, []),
  (343, .irem, 11, [], 0, 0, (0, 0), false, []),
  (344, .invokevirtual 144, 6, [0, 6, 4, 1, 1, 5], 0, 0, (0, 0), false, []),
  (347, .i2l, 0, [], 0, 0, (0, 0), false, []),
  (348, .lreturn, 5, [], 0, 0, (0, 0), false, []),
  (349, .aload_n 0, 0, [], 0, 0, (0, 0), true, [1, 2, 3, 6]),
  (350, .iload 5, 0, [], 0, 0, (0, 0), false, []),
  (352, .iload 4, 0, [], 0, 0, (0, 0), false, []),
  (354, .aload_n 0, 0, [], 0, 0, (0, 0), false, []),
  (355, .iconst 0, 0, [], 0, 0, (0, 0), false, []),
  (356, .invokevirtual 93, 6, [0, 1, 2, 1, 1, 5], 0, 0, (0, 0), false, []),
  (359, .irem, 11, [], 0, 0, (0, 0), false, []),
  (360, .iload 4, 0, [], 0, 0, (0, 0), false, []),
  (362, .iconst 4, 0, [], 4, 0, (0, 0), false, []),
  (363, .irem, 11, [], 0, 0, (0, 0), false, []),
  (364, .ifCond .ne 7, 1, [166], 0, 0, (0, 0), false, []),
  (367, .iconst 1, 0, [], 1, 0, (0, 0), false, []),
  (368, .goto 4, 1, [167], 0, 0, (0, 0), false, []),
  (371, .iconst 0, 0, [], 0, 0, (0, 0), false, []),
  (372, .invokestatic 148, 6, [5, 2, 4, 1, 0, 0], 0, 0, (0, 0), false, []),
  (375, .i2l, 0, [], 0, 0, (1, 6), false, []),
  (376, .lreturn, 5, [], 0, 0, (1, 6), false, []),
  (377, .iload 6, 0, [], 0, 0, (0, 0), true, [1, 2, 3, 4, 5]),
  (379, .ifCond .lt 12, 1, [177], 0, 0, (0, 0), false, []),
  (382, .aload_n 0, 0, [], 0, 0, (0, 0), false, []),
  (383, .iconst 1, 0, [], 1, 0, (0, 0), false, []),
  (384, .invokevirtual 93, 6, [0, 1, 2, 1, 1, 5], 0, 0, (0, 0), false, []),
  (387, .iconst 4, 0, [], 4, 0, (0, 0), false, []),
  (388, .if_icmp .ge 9, 1, [179], 0, 0, (0, 0), false, []),
  (391, .ldc2_w 103, 9, [1], 0, (-9), (0, 0), false, []),
  (394, .goto 10, 1, [183], 0, 0, (0, 0), false, []),
  (397, .aload_n 0, 0, [], 0, 0, (0, 0), false, []),
  (398, .iload 6, 0, [], 0, 0, (0, 0), false, []),
  (400, .invokevirtual 152, 6, [0, 5, 2, 1, 1, 5], 0, 0, (0, 0), false, []),
  (403, .i2l, 0, [], 0, 0, (0, 0), false, []),
  (404, .lreturn, 5, [], 0, 0, (0, 0), false, []),
  (405, .aload_n 0, 0, [], 0, 0, (0, 0), true, [1, 2, 3, 4, 6]),
  (406, .iload 5, 0, [], 0, 0, (0, 0), false, []),
  (408, .invokevirtual 155, 6, [0, 4, 2, 1, 1, 5], 0, 0, (0, 0), false, []),
  (411, .i2l, 0, [], 0, 0, (0, 0), false, []),
  (412, .lreturn, 5, [], 0, 0, (0, 0), false, []),
  (413, .aload_n 0, 0, [], 0, 0, (0, 0), true, [1, 2, 3, 6]),
  (414, .iload 4, 0, [], 0, 0, (0, 0), false, []),
  (416, .iconst 3, 0, [], 3, 0, (0, 0), false, []),
  (417, .irem, 11, [], 0, 0, (0, 0), false, []),
  (418, .ifCond .le 7, 1, [196], 0, 0, (0, 0), false, []),
  (421, .iconst (-1), 0, [], (-1), 0, (0, 0), false, []),
  (422, .goto 5, 1, [197], 0, 0, (0, 0), false, []),
  (425, .iload 5, 0, [], 0, 0, (0, 0), false, []),
  (427, .invokevirtual 158, 6, [0, 3, 2, 1, 1, 5], 0, 0, (0, 0), false, []),
  (430, .iconst 1, 0, [], 1, 0, (0, 0), false, []),
  (431, .iadd, 0, [], 0, 0, (0, 0), false, []),
  (432, .i2l, 0, [], 0, 0, (0, 0), false, []),
  (433, .lreturn, 5, [], 0, 0, (0, 0), false, []),
  (434, .aload_n 0, 0, [], 0, 0, (0, 0), true, [1, 2, 3, 4, 6]),
  (435, .iload 5, 0, [], 0, 0, (0, 0), false, []),
  (437, .iload 5, 0, [], 0, 0, (0, 0), false, []),
  (439, .iconst 1, 0, [], 1, 0, (0, 0), false, []),
  (440, .iadd, 0, [], 0, 0, (0, 0), false, []),
  (441, .aload_n 0, 0, [], 0, 0, (0, 0), false, []),
  (442, .iconst 0, 0, [], 0, 0, (0, 0), false, []),
  (443, .invokevirtual 93, 6, [0, 1, 2, 1, 1, 5], 0, 0, (0, 0), false, []),
  (446, .irem, 11, [], 0, 0, (0, 0), false, []),
  (447, .iconst 0, 0, [], 0, 0, (0, 0), false, []),
  (448, .invokestatic 148, 6, [5, 2, 4, 1, 0, 0], 0, 0, (0, 0), false, []),
  (451, .i2l, 0, [], 0, 0, (1, 6), false, []),
  (452, .lreturn, 5, [], 0, 0, (1, 6), false, [])]
def eL_act : List zm_M := [mL_draw, mX5_property, mL_doored, mX5_setEnd, mX5_setStart, mX5_removeDoor, mX5_setLock, mX5_setCoins, mX5_setKey, mX5_tours, mX5_walk, mL_completed, mL_went, mX5_again, mX5_back]
noncomputable def vL_act (sc : Nat × (Nat → Int32)) : List (zm_M × zm_S) := [(mL_draw, sL_draw sc), (mX5_property, sX5_property), (mL_doored, sL_doored), (mX5_setEnd, sX5_setEnd), (mX5_setStart, sX5_setStart), (mX5_removeDoor, sX5_removeDoor), (mX5_setLock, sX5_setLock), (mX5_setCoins, sX5_setCoins), (mX5_setKey, sX5_setKey), (mX5_tours, sX5_tours), (mX5_walk, sX5_walk), (mL_completed, sL_completed), (mL_went, sL_went), (mX5_again, sX5_again), (mX5_back, sX5_back)]
noncomputable def sL_act (sc : Nat × (Nat → Int32)) : zm_S := zsem (vL_act sc) rL_act 7
set_option maxRecDepth 100000 in
theorem aL_act : zall RL mL_act eL_act rL_act = true := by decide +kernel
set_option maxRecDepth 100000 in
theorem wL_act : ∀ w ∈ zwds RL mL_act eL_act rL_act, w ∈ gT := zwd_of [949, 460, 461, 37, 462, 949, 460, 461, 37, 462, 248, 249, 250, 38, 251, 248, 249, 250, 38, 251, 248, 249, 250, 38, 251, 460, 461, 37, 462, 950, 951, 37, 952, 248, 249, 250, 38, 251, 1007, 248, 249, 250, 38, 251, 1008, 1009, 1010, 38, 1011, 1013, 1014, 1015, 38, 1016, 950, 951, 37, 952, 1017, 1018, 37, 1019, 1020, 1021, 1022, 38, 1023, 1007, 1020, 1021, 1022, 38, 1023, 1024, 1025, 1026, 38, 1027, 1038, 1039, 1040, 38, 1041, 1052, 1053, 1054, 38, 1055, 1007, 1057, 1058, 1059, 38, 1060, 1057, 1058, 1059, 38, 1060, 248, 249, 250, 38, 251, 1070, 1071, 37, 1072, 248, 249, 250, 38, 251, 1007, 1085, 1086, 1087, 38, 1088, 1093, 1094, 1095, 38, 1096, 1098, 1099, 1100, 38, 1101, 248, 249, 250, 38, 251, 1070, 1071, 37, 1072] (by decide +kernel) (by decide +kernel) (z7_no (by decide +kernel))
set_option maxRecDepth 100000 in
theorem xL_act : ∀ w ∈ zwxs RL mL_act eL_act rL_act, zspc w = true ∧ w ∈ lw_tbl := by decide +kernel
theorem tL_act {sc : Nat × (Nat → Int32)} {l : Launch} (hlt : l.stackTraces = false) : MetA sc l mL_act (sL_act sc) := zmet (M := mL_act) (own := RL) (envM := eL_act) hlt rfl (by decide +kernel) (by decide +kernel) rfl (fun j q hq => by
  match j, hq with
  | 0, hq => cases hq; exact tL_draw hlt
  | 1, hq => cases hq; exact tX5_property hlt
  | 2, hq => cases hq; exact tL_doored hlt
  | 3, hq => cases hq; exact tX5_setEnd hlt
  | 4, hq => cases hq; exact tX5_setStart hlt
  | 5, hq => cases hq; exact tX5_removeDoor hlt
  | 6, hq => cases hq; exact tX5_setLock hlt
  | 7, hq => cases hq; exact tX5_setCoins hlt
  | 8, hq => cases hq; exact tX5_setKey hlt
  | 9, hq => cases hq; exact tX5_tours hlt
  | 10, hq => cases hq; exact tX5_walk hlt
  | 11, hq => cases hq; exact tL_completed hlt
  | 12, hq => cases hq; exact tL_went hlt
  | 13, hq => cases hq; exact tX5_again hlt
  | 14, hq => cases hq; exact tX5_back hlt
  | n + 15, hq => cases hq) aL_act wL_act xL_act rfl
def mL_has : zm_M := (yL_has, cL_has, 2, (some .boolean), (0, 0, 0, 0), 2, [], (0, 0))
set_option maxRecDepth 100000 in
def rL_has : List zm_R := [(0, .iload_n 0, 0, [], 0, 0, (0, 0), false, []),
  (1, .iload_n 1, 0, [], 0, 0, (0, 0), false, []),
  (2, .ishr, 0, [], 0, 0, (0, 0), false, []),
  (3, .iconst 1, 0, [], 1, 0, (0, 0), false, []),
  (4, .iand, 0, [], 0, 0, (0, 0), false, []),
  (5, .iconst 1, 0, [], 1, 0, (0, 0), false, []),
  (6, .if_icmp .ne 7, 1, [9], 0, 0, (0, 0), false, []),
  (9, .iconst 1, 0, [], 1, 0, (0, 0), false, []),
  (10, .goto 4, 1, [10], 0, 0, (0, 0), false, []),
  (13, .iconst 0, 0, [], 0, 0, (0, 0), false, []),
  (14, .ireturn, 5, [1], 0, 0, (0, 0), false, [])]
def eL_has : List zm_M := []
noncomputable def vL_has : List (zm_M × zm_S) := []
noncomputable def sL_has : zm_S := zsem vL_has rL_has 2
set_option maxRecDepth 100000 in
theorem aL_has : zall RL mL_has eL_has rL_has = true := by decide +kernel
set_option maxRecDepth 100000 in
theorem wL_has : ∀ w ∈ zwds RL mL_has eL_has rL_has, w ∈ gT := zwd_of [] (by decide +kernel) (by decide +kernel) (z7_no (by decide +kernel))
set_option maxRecDepth 100000 in
theorem xL_has : ∀ w ∈ zwxs RL mL_has eL_has rL_has, zspc w = true ∧ w ∈ lw_tbl := by decide +kernel
theorem tL_has {sc : Nat × (Nat → Int32)} {l : Launch} (hlt : l.stackTraces = false) : MetA sc l mL_has (sL_has) := zmet (M := mL_has) (own := RL) (envM := eL_has) hlt rfl (by decide +kernel) (by decide +kernel) rfl (fun j q hq => by cases hq) aL_has wL_has xL_has rfl
def mL_keys : zm_M := (yL_keys, cL_keys, 4, (some .int), (8, 0, 0, 163), 2, [], (1, 6))
set_option maxRecDepth 100000 in
def rL_keys : List zm_R := [(0, .iconst 0, 0, [], 0, 0, (0, 0), false, []),
  (1, .istore_n 2, 0, [], 0, 0, (0, 0), false, []),
  (2, .iconst 0, 0, [], 0, 0, (0, 0), false, []),
  (3, .istore_n 3, 0, [], 0, 0, (0, 0), false, []),
  (4, .iload_n 3, 0, [], 0, 0, (0, 0), true, []),
  (5, .aload_n 0, 0, [], 0, 0, (0, 0), false, []),
  (6, .iconst 0, 0, [], 0, 0, (0, 0), false, []),
  (7, .invokevirtual 93, 6, [0, 0, 2, 1, 1, 5], 0, 0, (0, 0), false, []),
  (10, .if_icmp .ge 30, 1, [24], 0, 0, (0, 0), false, []),
  (13, .iload_n 2, 0, [], 0, 0, (0, 0), false, []),
  (14, .iload_n 1, 0, [], 0, 0, (0, 0), false, []),
  (15, .iload_n 3, 0, [], 0, 0, (0, 0), false, []),
  (16, .invokestatic 178, 6, [1, 1, 2, 1, 0, 0], 0, 0, (0, 0), false, []),
  (19, .ifCond .eq 12, 1, [19], 0, 0, (0, 0), false, []),
  (22, .aload_n 0, 0, [], 0, 0, (0, 0), false, []),
  (23, .iload_n 3, 0, [], 0, 0, (0, 0), false, []),
  (24, .iconst 0, 0, [], 0, 0, (0, 0), false, []),
  (25, .invokevirtual 167, 6, [0, 2, 3, 1, 1, 5], 0, 0, (0, 0), false, []),
  (28, .goto 4, 1, [20], 0, 0, (0, 0), false, []),
  (31, .iconst 0, 0, [], 0, 0, (0, 0), false, []),
  (32, .ior, 0, [], 0, 0, (0, 0), false, []),
  (33, .istore_n 2, 0, [], 0, 0, (0, 0), false, []),
  (34, .iinc 3 1, 0, [], 1, 0, (0, 0), false, []),
  (37, .goto (-33), 1, [4], 0, 0, (0, 0), false, []),
  (40, .iload_n 2, 0, [], 0, 0, (0, 0), false, []),
  (41, .ireturn, 5, [0], 0, 0, (0, 0), false, [])]
def eL_keys : List zm_M := [mX5_property, mL_has, mX5_room]
noncomputable def vL_keys : List (zm_M × zm_S) := [(mX5_property, sX5_property), (mL_has, sL_has), (mX5_room, sX5_room)]
noncomputable def sL_keys : zm_S := zsem vL_keys rL_keys 4
set_option maxRecDepth 100000 in
theorem aL_keys : zall RL mL_keys eL_keys rL_keys = true := by decide +kernel
set_option maxRecDepth 100000 in
theorem wL_keys : ∀ w ∈ zwds RL mL_keys eL_keys rL_keys, w ∈ gT := zwd_of [248, 249, 250, 38, 251, 1125, 1126, 37, 1127, 1128, 1129, 1130, 38, 1131] (by decide +kernel) (by decide +kernel) (z7_no (by decide +kernel))
set_option maxRecDepth 100000 in
theorem xL_keys : ∀ w ∈ zwxs RL mL_keys eL_keys rL_keys, zspc w = true ∧ w ∈ lw_tbl := by decide +kernel
theorem tL_keys {sc : Nat × (Nat → Int32)} {l : Launch} (hlt : l.stackTraces = false) : MetA sc l mL_keys (sL_keys) := zmet (M := mL_keys) (own := RL) (envM := eL_keys) hlt rfl (by decide +kernel) (by decide +kernel) rfl (fun j q hq => by
  match j, hq with
  | 0, hq => cases hq; exact tX5_property hlt
  | 1, hq => cases hq; exact tL_has hlt
  | 2, hq => cases hq; exact tX5_room hlt
  | n + 3, hq => cases hq) aL_keys wL_keys xL_keys rfl
def mL_coins : zm_M := (yL_coins, cL_coins, 4, (some .int), (8, 0, 0, 163), 2, [], (1, 6))
set_option maxRecDepth 100000 in
def rL_coins : List zm_R := [(0, .iconst 0, 0, [], 0, 0, (0, 0), false, []),
  (1, .istore_n 2, 0, [], 0, 0, (0, 0), false, []),
  (2, .iconst 0, 0, [], 0, 0, (0, 0), false, []),
  (3, .istore_n 3, 0, [], 0, 0, (0, 0), false, []),
  (4, .iload_n 3, 0, [], 0, 0, (0, 0), true, []),
  (5, .aload_n 0, 0, [], 0, 0, (0, 0), false, []),
  (6, .iconst 0, 0, [], 0, 0, (0, 0), false, []),
  (7, .invokevirtual 93, 6, [0, 0, 2, 1, 1, 5], 0, 0, (0, 0), false, []),
  (10, .if_icmp .ge 30, 1, [24], 0, 0, (0, 0), false, []),
  (13, .iload_n 2, 0, [], 0, 0, (0, 0), false, []),
  (14, .iload_n 1, 0, [], 0, 0, (0, 0), false, []),
  (15, .iload_n 3, 0, [], 0, 0, (0, 0), false, []),
  (16, .invokestatic 178, 6, [1, 1, 2, 1, 0, 0], 0, 0, (0, 0), false, []),
  (19, .ifCond .eq 12, 1, [19], 0, 0, (0, 0), false, []),
  (22, .aload_n 0, 0, [], 0, 0, (0, 0), false, []),
  (23, .iload_n 3, 0, [], 0, 0, (0, 0), false, []),
  (24, .iconst 1, 0, [], 1, 0, (0, 0), false, []),
  (25, .invokevirtual 167, 6, [0, 2, 3, 1, 1, 5], 0, 0, (0, 0), false, []),
  (28, .goto 4, 1, [20], 0, 0, (0, 0), false, []),
  (31, .iconst 0, 0, [], 0, 0, (0, 0), false, []),
  (32, .iadd, 0, [], 0, 0, (0, 0), false, []),
  (33, .istore_n 2, 0, [], 0, 0, (0, 0), false, []),
  (34, .iinc 3 1, 0, [], 1, 0, (0, 0), false, []),
  (37, .goto (-33), 1, [4], 0, 0, (0, 0), false, []),
  (40, .iload_n 2, 0, [], 0, 0, (0, 0), false, []),
  (41, .ireturn, 5, [0], 0, 0, (0, 0), false, [])]
def eL_coins : List zm_M := [mX5_property, mL_has, mX5_room]
noncomputable def vL_coins : List (zm_M × zm_S) := [(mX5_property, sX5_property), (mL_has, sL_has), (mX5_room, sX5_room)]
noncomputable def sL_coins : zm_S := zsem vL_coins rL_coins 4
set_option maxRecDepth 100000 in
theorem aL_coins : zall RL mL_coins eL_coins rL_coins = true := by decide +kernel
set_option maxRecDepth 100000 in
theorem wL_coins : ∀ w ∈ zwds RL mL_coins eL_coins rL_coins, w ∈ gT := zwd_of [248, 249, 250, 38, 251, 1125, 1126, 37, 1127, 1128, 1129, 1130, 38, 1131] (by decide +kernel) (by decide +kernel) (z7_no (by decide +kernel))
set_option maxRecDepth 100000 in
theorem xL_coins : ∀ w ∈ zwxs RL mL_coins eL_coins rL_coins, zspc w = true ∧ w ∈ lw_tbl := by decide +kernel
theorem tL_coins {sc : Nat × (Nat → Int32)} {l : Launch} (hlt : l.stackTraces = false) : MetA sc l mL_coins (sL_coins) := zmet (M := mL_coins) (own := RL) (envM := eL_coins) hlt rfl (by decide +kernel) (by decide +kernel) rfl (fun j q hq => by
  match j, hq with
  | 0, hq => cases hq; exact tX5_property hlt
  | 1, hq => cases hq; exact tL_has hlt
  | 2, hq => cases hq; exact tX5_room hlt
  | n + 3, hq => cases hq) aL_coins wL_coins xL_coins rfl
def mL_isOpen : zm_M := (yL_isOpen, cL_isOpen, 4, (some .boolean), (9, 0, 0, 186), 3, [], (1, 6))
set_option maxRecDepth 100000 in
def rL_isOpen : List zm_R := [(0, .aload_n 0, 0, [], 0, 0, (0, 0), false, []),
  (1, .iload_n 1, 0, [], 0, 0, (0, 0), false, []),
  (2, .iconst 2, 0, [], 2, 0, (0, 0), false, []),
  (3, .invokevirtual 170, 6, [0, 0, 3, 1, 1, 5], 0, 0, (0, 0), false, []),
  (6, .istore_n 3, 0, [], 0, 0, (0, 0), false, []),
  (7, .iload_n 3, 0, [], 0, 0, (0, 0), false, []),
  (8, .ifCond .eq 44, 1, [30], 0, 0, (0, 0), false, []),
  (11, .iload_n 3, 0, [], 0, 0, (0, 0), false, []),
  (12, .iconst 1, 0, [], 1, 0, (0, 0), false, []),
  (13, .if_icmp .ne 20, 1, [19], 0, 0, (0, 0), false, []),
  (16, .aload_n 0, 0, [], 0, 0, (0, 0), false, []),
  (17, .iload_n 2, 0, [], 0, 0, (0, 0), false, []),
  (18, .invokestatic 182, 6, [1, 2, 2, 1, 1, 0], 0, 0, (0, 0), false, []),
  (21, .aload_n 0, 0, [], 0, 0, (0, 0), false, []),
  (22, .iload_n 1, 0, [], 0, 0, (0, 0), false, []),
  (23, .iconst 3, 0, [], 3, 0, (0, 0), false, []),
  (24, .invokevirtual 170, 6, [0, 0, 3, 1, 1, 5], 0, 0, (0, 0), false, []),
  (27, .invokestatic 178, 6, [1, 3, 2, 1, 0, 0], 0, 0, (0, 0), false, []),
  (30, .ifCond .ne 22, 1, [30], 0, 0, (0, 0), false, []),
  (33, .iload_n 3, 0, [], 0, 0, (0, 0), false, []),
  (34, .iconst 2, 0, [], 2, 0, (0, 0), false, []),
  (35, .if_icmp .ne 21, 1, [32], 0, 0, (0, 0), false, []),
  (38, .aload_n 0, 0, [], 0, 0, (0, 0), false, []),
  (39, .iload_n 2, 0, [], 0, 0, (0, 0), false, []),
  (40, .invokestatic 186, 6, [1, 1, 2, 1, 1, 0], 0, 0, (0, 0), false, []),
  (43, .aload_n 0, 0, [], 0, 0, (0, 0), false, []),
  (44, .iload_n 1, 0, [], 0, 0, (0, 0), false, []),
  (45, .iconst 3, 0, [], 3, 0, (0, 0), false, []),
  (46, .invokevirtual 170, 6, [0, 0, 3, 1, 1, 5], 0, 0, (0, 0), false, []),
  (49, .if_icmp .lt 7, 1, [32], 0, 0, (0, 0), false, []),
  (52, .iconst 1, 0, [], 1, 0, (0, 0), false, []),
  (53, .goto 4, 1, [33], 0, 0, (0, 0), false, []),
  (56, .iconst 0, 0, [], 0, 0, (0, 0), false, []),
  (57, .ireturn, 5, [1], 0, 0, (0, 0), false, [])]
def eL_isOpen : List zm_M := [mX5_door, mL_coins, mL_keys, mL_has]
noncomputable def vL_isOpen : List (zm_M × zm_S) := [(mX5_door, sX5_door), (mL_coins, sL_coins), (mL_keys, sL_keys), (mL_has, sL_has)]
noncomputable def sL_isOpen : zm_S := zsem vL_isOpen rL_isOpen 4
set_option maxRecDepth 100000 in
theorem aL_isOpen : zall RL mL_isOpen eL_isOpen rL_isOpen = true := by decide +kernel
set_option maxRecDepth 100000 in
theorem wL_isOpen : ∀ w ∈ zwds RL mL_isOpen eL_isOpen rL_isOpen, w ∈ gT := zwd_of [1135, 1136, 1137, 38, 1138, 1142, 1143, 37, 1144, 1135, 1136, 1137, 38, 1138, 1125, 1126, 37, 1127, 1145, 1146, 37, 1147, 1135, 1136, 1137, 38, 1138] (by decide +kernel) (by decide +kernel) (z7_no (by decide +kernel))
set_option maxRecDepth 100000 in
theorem xL_isOpen : ∀ w ∈ zwxs RL mL_isOpen eL_isOpen rL_isOpen, zspc w = true ∧ w ∈ lw_tbl := by decide +kernel
theorem tL_isOpen {sc : Nat × (Nat → Int32)} {l : Launch} (hlt : l.stackTraces = false) : MetA sc l mL_isOpen (sL_isOpen) := zmet (M := mL_isOpen) (own := RL) (envM := eL_isOpen) hlt rfl (by decide +kernel) (by decide +kernel) rfl (fun j q hq => by
  match j, hq with
  | 0, hq => cases hq; exact tX5_door hlt
  | 1, hq => cases hq; exact tL_coins hlt
  | 2, hq => cases hq; exact tL_keys hlt
  | 3, hq => cases hq; exact tL_has hlt
  | n + 4, hq => cases hq) aL_isOpen wL_isOpen xL_isOpen rfl
def mL_leads : zm_M := (yL_leads, cL_leads, 7, (some .boolean), (10, 0, 0, 209), 4, [], (1, 6))
set_option maxRecDepth 100000 in
def rL_leads : List zm_R := [(0, .iconst 0, 0, [], 0, 0, (0, 0), false, []),
  (1, .istore 4, 0, [], 0, 0, (0, 0), false, []),
  (3, .iconst 0, 0, [], 0, 0, (0, 0), false, []),
  (4, .istore 5, 0, [], 0, 0, (0, 0), false, []),
  (6, .iload 5, 0, [], 0, 0, (0, 0), true, [6]),
  (8, .aload_n 0, 0, [], 0, 0, (0, 0), false, []),
  (9, .iconst 1, 0, [], 1, 0, (0, 0), false, []),
  (10, .invokevirtual 93, 6, [0, 0, 2, 1, 1, 5], 0, 0, (0, 0), false, []),
  (13, .if_icmp .ge 95, 1, [57], 0, 0, (0, 0), false, []),
  (16, .aload_n 0, 0, [], 0, 0, (0, 0), false, []),
  (17, .iload 5, 0, [], 0, 0, (0, 0), false, []),
  (19, .iconst 0, 0, [], 0, 0, (0, 0), false, []),
  (20, .invokevirtual 170, 6, [0, 1, 3, 1, 1, 5], 0, 0, (0, 0), false, []),
  (23, .iload_n 1, 0, [], 0, 0, (0, 0), false, []),
  (24, .if_icmp .ne 14, 1, [21], 0, 0, (0, 0), false, []),
  (27, .aload_n 0, 0, [], 0, 0, (0, 0), false, []),
  (28, .iload 5, 0, [], 0, 0, (0, 0), false, []),
  (30, .iconst 1, 0, [], 1, 0, (0, 0), false, []),
  (31, .invokevirtual 170, 6, [0, 1, 3, 1, 1, 5], 0, 0, (0, 0), false, []),
  (34, .iload_n 2, 0, [], 0, 0, (0, 0), false, []),
  (35, .if_icmp .eq 35, 1, [38], 0, 0, (0, 0), false, []),
  (38, .aload_n 0, 0, [], 0, 0, (0, 0), true, [6]),
  (39, .iload 5, 0, [], 0, 0, (0, 0), false, []),
  (41, .iconst 4, 0, [], 4, 0, (0, 0), false, []),
  (42, .invokevirtual 170, 6, [0, 1, 3, 1, 1, 5], 0, 0, (0, 0), false, []),
  (45, .ifCond .ne 29, 1, [40], 0, 0, (0, 0), false, []),
  (48, .aload_n 0, 0, [], 0, 0, (0, 0), false, []),
  (49, .iload 5, 0, [], 0, 0, (0, 0), false, []),
  (51, .iconst 1, 0, [], 1, 0, (0, 0), false, []),
  (52, .invokevirtual 170, 6, [0, 1, 3, 1, 1, 5], 0, 0, (0, 0), false, []),
  (55, .iload_n 1, 0, [], 0, 0, (0, 0), false, []),
  (56, .if_icmp .ne 18, 1, [40], 0, 0, (0, 0), false, []),
  (59, .aload_n 0, 0, [], 0, 0, (0, 0), false, []),
  (60, .iload 5, 0, [], 0, 0, (0, 0), false, []),
  (62, .iconst 0, 0, [], 0, 0, (0, 0), false, []),
  (63, .invokevirtual 170, 6, [0, 1, 3, 1, 1, 5], 0, 0, (0, 0), false, []),
  (66, .iload_n 2, 0, [], 0, 0, (0, 0), false, []),
  (67, .if_icmp .ne 7, 1, [40], 0, 0, (0, 0), false, []),
  (70, .iconst 1, 0, [], 1, 0, (0, 0), false, []),
  (71, .goto 4, 1, [41], 0, 0, (0, 0), false, []),
  (74, .iconst 0, 0, [], 0, 0, (0, 0), false, []),
  (75, .istore 6, 0, [], 0, 0, (0, 0), false, []),
  (77, .iload 4, 0, [], 0, 0, (0, 0), false, []),
  (79, .iload 6, 0, [], 0, 0, (0, 0), false, []),
  (81, .ifCond .eq 17, 1, [52], 0, 0, (0, 0), false, []),
  (84, .aload_n 0, 0, [], 0, 0, (0, 0), false, []),
  (85, .iload 5, 0, [], 0, 0, (0, 0), false, []),
  (87, .iload_n 3, 0, [], 0, 0, (0, 0), false, []),
  (88, .invokestatic 189, 6, [1, 2, 3, 1, 1, 0], 0, 0, (0, 0), false, []),
  (91, .ifCond .eq 7, 1, [52], 0, 0, (0, 0), false, []),
  (94, .iconst 1, 0, [], 1, 0, (0, 0), false, []),
  (95, .goto 4, 1, [53], 0, 0, (0, 0), false, []),
  (98, .iconst 0, 0, [], 0, 0, (0, 0), false, []),
  (99, .ior, 0, [], 0, 0, (0, 0), false, []),
  (100, .istore 4, 0, [], 0, 0, (0, 0), false, []),
  (102, .iinc 5 1, 0, [], 1, 0, (0, 0), false, []),
  (105, .goto (-99), 1, [4], 0, 0, (0, 0), false, []),
  (108, .iload 4, 0, [], 0, 0, (0, 0), false, []),
  (110, .ireturn, 5, [1], 0, 0, (0, 0), false, [])]
def eL_leads : List zm_M := [mX5_property, mX5_door, mL_isOpen]
noncomputable def vL_leads : List (zm_M × zm_S) := [(mX5_property, sX5_property), (mX5_door, sX5_door), (mL_isOpen, sL_isOpen)]
noncomputable def sL_leads : zm_S := zsem vL_leads rL_leads 7
set_option maxRecDepth 100000 in
theorem aL_leads : zall RL mL_leads eL_leads rL_leads = true := by decide +kernel
set_option maxRecDepth 100000 in
theorem wL_leads : ∀ w ∈ zwds RL mL_leads eL_leads rL_leads, w ∈ gT := zwd_of [248, 249, 250, 38, 251, 1135, 1136, 1137, 38, 1138, 1135, 1136, 1137, 38, 1138, 1135, 1136, 1137, 38, 1138, 1135, 1136, 1137, 38, 1138, 1135, 1136, 1137, 38, 1138, 1139, 1140, 37, 1141] (by decide +kernel) (by decide +kernel) (z7_no (by decide +kernel))
set_option maxRecDepth 100000 in
theorem xL_leads : ∀ w ∈ zwxs RL mL_leads eL_leads rL_leads, zspc w = true ∧ w ∈ lw_tbl := by decide +kernel
theorem tL_leads {sc : Nat × (Nat → Int32)} {l : Launch} (hlt : l.stackTraces = false) : MetA sc l mL_leads (sL_leads) := zmet (M := mL_leads) (own := RL) (envM := eL_leads) hlt rfl (by decide +kernel) (by decide +kernel) rfl (fun j q hq => by
  match j, hq with
  | 0, hq => cases hq; exact tX5_property hlt
  | 1, hq => cases hq; exact tX5_door hlt
  | 2, hq => cases hq; exact tL_isOpen hlt
  | n + 3, hq => cases hq) aL_leads wL_leads xL_leads rfl
def mL_count (d : Nat) : zm_M := (yL_count, cL_count, 6, (some .long), (11 + d, 0, 0, 235 + d * 25), 3, [], (1, 6))
set_option maxRecDepth 100000 in
def rL_count : List zm_R := [(0, .iload_n 1, 0, [], 0, 0, (0, 0), false, []),
  (1, .iconst 1, 0, [], 1, 0, (0, 0), false, []),
  (2, .aload_n 0, 0, [], 0, 0, (0, 0), false, []),
  (3, .iconst 0, 0, [], 0, 0, (0, 0), false, []),
  (4, .invokevirtual 93, 6, [0, 0, 2, 1, 1, 5], 0, 0, (0, 0), false, []),
  (7, .ishl, 0, [], 0, 0, (0, 0), false, []),
  (8, .iconst 1, 0, [], 1, 0, (0, 0), false, []),
  (9, .isub, 0, [], 0, 0, (0, 0), false, []),
  (10, .if_icmp .ne 26, 1, [22], 0, 0, (0, 0), false, []),
  (13, .aload_n 0, 0, [], 0, 0, (0, 0), false, []),
  (14, .iconst 3, 0, [], 3, 0, (0, 0), false, []),
  (15, .invokevirtual 93, 6, [0, 0, 2, 1, 1, 5], 0, 0, (0, 0), false, []),
  (18, .ifCond .lt 12, 1, [18], 0, 0, (0, 0), false, []),
  (21, .aload_n 0, 0, [], 0, 0, (0, 0), false, []),
  (22, .iconst 3, 0, [], 3, 0, (0, 0), false, []),
  (23, .invokevirtual 93, 6, [0, 0, 2, 1, 1, 5], 0, 0, (0, 0), false, []),
  (26, .iload_n 2, 0, [], 0, 0, (0, 0), false, []),
  (27, .if_icmp .ne 7, 1, [20], 0, 0, (0, 0), false, []),
  (30, .lconst 1, 0, [], 0, 1, (0, 0), false, []),
  (31, .goto 4, 1, [21], 0, 0, (0, 0), false, []),
  (34, .lconst 0, 0, [], 0, 0, (0, 0), false, []),
  (35, .lreturn, 5, [], 0, 0, (0, 0), false, []),
  (36, .lconst 0, 0, [], 0, 0, (0, 0), false, []),
  (37, .lstore_n 3, 0, [], 0, 0, (0, 0), false, []),
  (38, .iconst 0, 0, [], 0, 0, (0, 0), false, []),
  (39, .istore 5, 0, [], 0, 0, (0, 0), false, []),
  (41, .iload 5, 0, [], 0, 0, (0, 0), true, [4]),
  (43, .aload_n 0, 0, [], 0, 0, (0, 0), false, []),
  (44, .iconst 0, 0, [], 0, 0, (0, 0), false, []),
  (45, .invokevirtual 93, 6, [0, 0, 2, 1, 1, 5], 0, 0, (0, 0), false, []),
  (48, .if_icmp .ge 44, 1, [54], 0, 0, (0, 0), false, []),
  (51, .iload_n 1, 0, [], 0, 0, (0, 0), false, []),
  (52, .iload 5, 0, [], 0, 0, (0, 0), false, []),
  (54, .invokestatic 178, 6, [1, 1, 2, 1, 0, 0], 0, 0, (0, 0), false, []),
  (57, .ifCond .ne 29, 1, [52], 0, 0, (0, 0), false, []),
  (60, .aload_n 0, 0, [], 0, 0, (0, 0), false, []),
  (61, .iload_n 2, 0, [], 0, 0, (0, 0), false, []),
  (62, .iload 5, 0, [], 0, 0, (0, 0), false, []),
  (64, .iload_n 1, 0, [], 0, 0, (0, 0), false, []),
  (65, .invokestatic 193, 6, [1, 2, 4, 1, 1, 0], 0, 0, (0, 0), false, []),
  (68, .ifCond .eq 18, 1, [52], 0, 0, (0, 0), false, []),
  (71, .lload_n 3, 0, [], 0, 0, (0, 0), false, []),
  (72, .aload_n 0, 0, [], 0, 0, (0, 0), false, []),
  (73, .iload_n 1, 0, [], 0, 0, (0, 0), false, []),
  (74, .iconst 1, 0, [], 1, 0, (0, 0), false, []),
  (75, .iload 5, 0, [], 0, 0, (0, 0), false, []),
  (77, .ishl, 0, [], 0, 0, (0, 0), false, []),
  (78, .ior, 0, [], 0, 0, (0, 0), false, []),
  (79, .iload 5, 0, [], 0, 0, (0, 0), false, []),
  (81, .invokestatic 197, 6, [1, 3, 3, 2, 1, 0], 0, 0, (0, 0), false, []),
  (84, .ladd, 0, [], 0, 0, (0, 0), false, []),
  (85, .lstore_n 3, 0, [], 0, 0, (0, 0), false, []),
  (86, .iinc 5 1, 0, [], 1, 0, (0, 0), false, []),
  (89, .goto (-48), 1, [26], 0, 0, (0, 0), false, []),
  (92, .lload_n 3, 0, [], 0, 0, (0, 0), false, []),
  (93, .lreturn, 5, [], 0, 0, (0, 0), false, [])]
def eL_count (mc : zm_M) : List zm_M := [mX5_property, mL_has, mL_leads, mc]
noncomputable def vL_count (mc : zm_M) (Sc : zm_S) : List (zm_M × zm_S) := [(mX5_property, sX5_property), (mL_has, sL_has), (mL_leads, sL_leads), (mc, Sc)]
noncomputable def sL_count : Nat → zm_S
  | 0 => fun _ _ => none
  | d + 1 => zsem (vL_count (mL_count d) (sL_count d)) rL_count 6
noncomputable def sL_c6 : zm_S := (Classical.choice (⟨⟨sL_count 6, rfl⟩⟩ : Nonempty {f : zm_S // f = sL_count 6})).1
theorem sL_c6_eq : sL_c6 = sL_count 6 := (Classical.choice (⟨⟨sL_count 6, rfl⟩⟩ : Nonempty {f : zm_S // f = sL_count 6})).2
set_option maxRecDepth 100000 in
theorem aL_count_1 : zall RL (mL_count 1) (eL_count (mL_count 0)) rL_count = true := by decide +kernel
set_option maxRecDepth 100000 in
theorem wL_count_1 : ∀ w ∈ zwds RL (mL_count 1) (eL_count (mL_count 0)) rL_count, w ∈ gT := zwd_of [248, 249, 250, 38, 251, 248, 249, 250, 38, 251, 248, 249, 250, 38, 251, 248, 249, 250, 38, 251, 1125, 1126, 37, 1127, 1132, 1133, 37, 1134, 1148, 1149, 37, 1150] (by decide +kernel) (by decide +kernel) (z7_no (by decide +kernel))
set_option maxRecDepth 100000 in
theorem xL_count_1 : ∀ w ∈ zwxs RL (mL_count 1) (eL_count (mL_count 0)) rL_count, zspc w = true ∧ w ∈ lw_tbl := by decide +kernel
set_option maxRecDepth 100000 in
theorem aL_count_2 : zall RL (mL_count 2) (eL_count (mL_count 1)) rL_count = true := by decide +kernel
set_option maxRecDepth 100000 in
theorem wL_count_2 : ∀ w ∈ zwds RL (mL_count 2) (eL_count (mL_count 1)) rL_count, w ∈ gT := zwd_of [248, 249, 250, 38, 251, 248, 249, 250, 38, 251, 248, 249, 250, 38, 251, 248, 249, 250, 38, 251, 1125, 1126, 37, 1127, 1132, 1133, 37, 1134, 1148, 1149, 37, 1150] (by decide +kernel) (by decide +kernel) (z7_no (by decide +kernel))
set_option maxRecDepth 100000 in
theorem xL_count_2 : ∀ w ∈ zwxs RL (mL_count 2) (eL_count (mL_count 1)) rL_count, zspc w = true ∧ w ∈ lw_tbl := by decide +kernel
set_option maxRecDepth 100000 in
theorem aL_count_3 : zall RL (mL_count 3) (eL_count (mL_count 2)) rL_count = true := by decide +kernel
set_option maxRecDepth 100000 in
theorem wL_count_3 : ∀ w ∈ zwds RL (mL_count 3) (eL_count (mL_count 2)) rL_count, w ∈ gT := zwd_of [248, 249, 250, 38, 251, 248, 249, 250, 38, 251, 248, 249, 250, 38, 251, 248, 249, 250, 38, 251, 1125, 1126, 37, 1127, 1132, 1133, 37, 1134, 1148, 1149, 37, 1150] (by decide +kernel) (by decide +kernel) (z7_no (by decide +kernel))
set_option maxRecDepth 100000 in
theorem xL_count_3 : ∀ w ∈ zwxs RL (mL_count 3) (eL_count (mL_count 2)) rL_count, zspc w = true ∧ w ∈ lw_tbl := by decide +kernel
set_option maxRecDepth 100000 in
theorem aL_count_4 : zall RL (mL_count 4) (eL_count (mL_count 3)) rL_count = true := by decide +kernel
set_option maxRecDepth 100000 in
theorem wL_count_4 : ∀ w ∈ zwds RL (mL_count 4) (eL_count (mL_count 3)) rL_count, w ∈ gT := zwd_of [248, 249, 250, 38, 251, 248, 249, 250, 38, 251, 248, 249, 250, 38, 251, 248, 249, 250, 38, 251, 1125, 1126, 37, 1127, 1132, 1133, 37, 1134, 1148, 1149, 37, 1150] (by decide +kernel) (by decide +kernel) (z7_no (by decide +kernel))
set_option maxRecDepth 100000 in
theorem xL_count_4 : ∀ w ∈ zwxs RL (mL_count 4) (eL_count (mL_count 3)) rL_count, zspc w = true ∧ w ∈ lw_tbl := by decide +kernel
set_option maxRecDepth 100000 in
theorem aL_count_5 : zall RL (mL_count 5) (eL_count (mL_count 4)) rL_count = true := by decide +kernel
set_option maxRecDepth 100000 in
theorem wL_count_5 : ∀ w ∈ zwds RL (mL_count 5) (eL_count (mL_count 4)) rL_count, w ∈ gT := zwd_of [248, 249, 250, 38, 251, 248, 249, 250, 38, 251, 248, 249, 250, 38, 251, 248, 249, 250, 38, 251, 1125, 1126, 37, 1127, 1132, 1133, 37, 1134, 1148, 1149, 37, 1150] (by decide +kernel) (by decide +kernel) (z7_no (by decide +kernel))
set_option maxRecDepth 100000 in
theorem xL_count_5 : ∀ w ∈ zwxs RL (mL_count 5) (eL_count (mL_count 4)) rL_count, zspc w = true ∧ w ∈ lw_tbl := by decide +kernel
set_option maxRecDepth 100000 in
theorem aL_count_6 : zall RL (mL_count 6) (eL_count (mL_count 5)) rL_count = true := by decide +kernel
set_option maxRecDepth 100000 in
theorem wL_count_6 : ∀ w ∈ zwds RL (mL_count 6) (eL_count (mL_count 5)) rL_count, w ∈ gT := zwd_of [248, 249, 250, 38, 251, 248, 249, 250, 38, 251, 248, 249, 250, 38, 251, 248, 249, 250, 38, 251, 1125, 1126, 37, 1127, 1132, 1133, 37, 1134, 1148, 1149, 37, 1150] (by decide +kernel) (by decide +kernel) (z7_no (by decide +kernel))
set_option maxRecDepth 100000 in
theorem xL_count_6 : ∀ w ∈ zwxs RL (mL_count 6) (eL_count (mL_count 5)) rL_count, zspc w = true ∧ w ∈ lw_tbl := by decide +kernel
theorem tL_count_0 {sc : Nat × (Nat → Int32)} {l : Launch} (hlt : l.stackTraces = false) : MetA sc l (mL_count 0) (sL_count 0) := fun _ _ _ _ _ _ _ _ => ⟨fun _ _ h => (by have h2 : (none : Option zm_O) = some _ := h; cases h2), fun _ _ h => (by have h2 : (none : Option zm_O) = some _ := h; cases h2)⟩
theorem tL_count_1 {sc : Nat × (Nat → Int32)} {l : Launch} (hlt : l.stackTraces = false) : MetA sc l (mL_count 1) (sL_count 1) := zmet (M := mL_count 1) (own := RL) (envM := eL_count (mL_count 0)) hlt rfl (by decide +kernel) (by decide +kernel) rfl (fun j q hq => by
  match j, hq with
  | 0, hq => cases hq; exact tX5_property hlt
  | 1, hq => cases hq; exact tL_has hlt
  | 2, hq => cases hq; exact tL_leads hlt
  | 3, hq => cases hq; exact tL_count_0 hlt
  | n + 4, hq => cases hq) aL_count_1 wL_count_1 xL_count_1 rfl
theorem tL_count_2 {sc : Nat × (Nat → Int32)} {l : Launch} (hlt : l.stackTraces = false) : MetA sc l (mL_count 2) (sL_count 2) := zmet (M := mL_count 2) (own := RL) (envM := eL_count (mL_count 1)) hlt rfl (by decide +kernel) (by decide +kernel) rfl (fun j q hq => by
  match j, hq with
  | 0, hq => cases hq; exact tX5_property hlt
  | 1, hq => cases hq; exact tL_has hlt
  | 2, hq => cases hq; exact tL_leads hlt
  | 3, hq => cases hq; exact tL_count_1 hlt
  | n + 4, hq => cases hq) aL_count_2 wL_count_2 xL_count_2 rfl
theorem tL_count_3 {sc : Nat × (Nat → Int32)} {l : Launch} (hlt : l.stackTraces = false) : MetA sc l (mL_count 3) (sL_count 3) := zmet (M := mL_count 3) (own := RL) (envM := eL_count (mL_count 2)) hlt rfl (by decide +kernel) (by decide +kernel) rfl (fun j q hq => by
  match j, hq with
  | 0, hq => cases hq; exact tX5_property hlt
  | 1, hq => cases hq; exact tL_has hlt
  | 2, hq => cases hq; exact tL_leads hlt
  | 3, hq => cases hq; exact tL_count_2 hlt
  | n + 4, hq => cases hq) aL_count_3 wL_count_3 xL_count_3 rfl
theorem tL_count_4 {sc : Nat × (Nat → Int32)} {l : Launch} (hlt : l.stackTraces = false) : MetA sc l (mL_count 4) (sL_count 4) := zmet (M := mL_count 4) (own := RL) (envM := eL_count (mL_count 3)) hlt rfl (by decide +kernel) (by decide +kernel) rfl (fun j q hq => by
  match j, hq with
  | 0, hq => cases hq; exact tX5_property hlt
  | 1, hq => cases hq; exact tL_has hlt
  | 2, hq => cases hq; exact tL_leads hlt
  | 3, hq => cases hq; exact tL_count_3 hlt
  | n + 4, hq => cases hq) aL_count_4 wL_count_4 xL_count_4 rfl
theorem tL_count_5 {sc : Nat × (Nat → Int32)} {l : Launch} (hlt : l.stackTraces = false) : MetA sc l (mL_count 5) (sL_count 5) := zmet (M := mL_count 5) (own := RL) (envM := eL_count (mL_count 4)) hlt rfl (by decide +kernel) (by decide +kernel) rfl (fun j q hq => by
  match j, hq with
  | 0, hq => cases hq; exact tX5_property hlt
  | 1, hq => cases hq; exact tL_has hlt
  | 2, hq => cases hq; exact tL_leads hlt
  | 3, hq => cases hq; exact tL_count_4 hlt
  | n + 4, hq => cases hq) aL_count_5 wL_count_5 xL_count_5 rfl
theorem tL_count_6 {sc : Nat × (Nat → Int32)} {l : Launch} (hlt : l.stackTraces = false) : MetA sc l (mL_count 6) (sL_count 6) := zmet (M := mL_count 6) (own := RL) (envM := eL_count (mL_count 5)) hlt rfl (by decide +kernel) (by decide +kernel) rfl (fun j q hq => by
  match j, hq with
  | 0, hq => cases hq; exact tX5_property hlt
  | 1, hq => cases hq; exact tL_has hlt
  | 2, hq => cases hq; exact tL_leads hlt
  | 3, hq => cases hq; exact tL_count_5 hlt
  | n + 4, hq => cases hq) aL_count_6 wL_count_6 xL_count_6 rfl
theorem tL_count {sc : Nat × (Nat → Int32)} {l : Launch} (hlt : l.stackTraces = false) : MetA sc l (mL_count 6) sL_c6 ∧ True := ⟨by rw [sL_c6_eq]; exact tL_count_6 hlt, trivial⟩
