/-! ROWS: the bytecode of the methods as the abstract machine runs it, and their contracts (written by wip/p63/emit.py). -/
def mL_draw : zm_M := (yL_draw, cL_draw, 3, (some .int), (0, 0, 0, 0), 3, [], (0, 0))
set_option maxRecDepth 100000 in
def rL_draw : List zm_R := [(0, .iload_n 1, 0, [], 0, 0, (0, 0), false, []),
  (1, .aload_n 0, 0, [], 0, 0, (0, 0), false, []),
  (2, .arraylength, 3, [9], 0, 0, (0, 0), false, []),
  (3, .if_icmp .ge 9, 1, [8], 0, 0, (0, 0), false, []),
  (6, .aload_n 0, 0, [], 0, 0, (0, 0), false, []),
  (7, .iload_n 1, 0, [], 0, 0, (0, 0), false, []),
  (8, .iaload, 3, [9], 0, 0, (0, 0), false, []),
  (9, .goto 4, 1, [9], 0, 0, (0, 0), false, []),
  (12, .iconst 0, 0, [], 0, 0, (0, 0), false, []),
  (13, .ldc 7, 9, [0], 2147483647, 0, (0, 0), false, []),
  (15, .iand, 0, [], 0, 0, (0, 0), false, []),
  (16, .iload_n 2, 0, [], 0, 0, (0, 0), false, []),
  (17, .irem, 11, [], 0, 0, (0, 0), false, []),
  (18, .ireturn, 5, [0], 0, 0, (0, 0), false, [])]
def eL_draw : List zm_M := []
noncomputable def vL_draw : List (zm_M × zm_S) := []
noncomputable def sL_draw (sc : Nat × (Nat → Int32)) : zm_S := zsem2 sc vL_draw rL_draw 3
set_option maxRecDepth 100000 in
theorem aL_draw : zall RL mL_draw eL_draw rL_draw = true := by decide +kernel
set_option maxRecDepth 100000 in
theorem wL_draw : ∀ w ∈ zwds RL mL_draw eL_draw rL_draw, w ∈ gT := zwd_of [463] (by decide +kernel) (by decide +kernel) (z7_no (by decide +kernel))
set_option maxRecDepth 100000 in
theorem xL_draw : ∀ w ∈ zwxs RL mL_draw eL_draw rL_draw, zspc w = true ∧ w ∈ lw_tbl := by decide +kernel
theorem tL_draw {sc : Nat × (Nat → Int32)} {l : Launch} (hlt : l.stackTraces = false) : MetA sc l mL_draw (sL_draw sc) := zmet2 (M := mL_draw) (own := RL) (envM := eL_draw) hlt rfl (by decide +kernel) (fun _ => rfl) rfl (fun j q hq => by cases hq) aL_draw wL_draw xL_draw rfl
def mL_four : zm_M := (yL_four, cL_four, 4, (some .int), (5, 0, 0, 123), 2, [], (0, 0))
set_option maxRecDepth 100000 in
def rL_four : List zm_R := [(0, .iconst 0, 0, [], 0, 0, (0, 0), false, []),
  (1, .istore_n 2, 0, [], 0, 0, (0, 0), false, []),
  (2, .iconst 0, 0, [], 0, 0, (0, 0), false, []),
  (3, .istore_n 3, 0, [], 0, 0, (0, 0), false, []),
  (4, .iload_n 3, 0, [], 0, 0, (0, 0), true, []),
  (5, .iconst 4, 0, [], 4, 0, (0, 0), false, []),
  (6, .if_icmp .ge 36, 1, [27], 0, 0, (0, 0), false, []),
  (9, .iload_n 2, 0, [], 0, 0, (0, 0), false, []),
  (10, .bipush 8, 0, [], 8, 0, (0, 0), false, []),
  (12, .ishl, 0, [], 0, 0, (0, 0), false, []),
  (13, .iload_n 1, 0, [], 0, 0, (0, 0), false, []),
  (14, .iload_n 3, 0, [], 0, 0, (0, 0), false, []),
  (15, .iadd, 0, [], 0, 0, (0, 0), false, []),
  (16, .aload_n 0, 0, [], 0, 0, (0, 0), false, []),
  (17, .invokevirtual 8, 6, [6, 0, 1, 1, 0, 7], 0, 0, (0, 0), false, []),
  (20, .if_icmp .ge 13, 1, [22], 0, 0, (0, 0), false, []),
  (23, .aload_n 0, 0, [], 0, 0, (0, 0), false, []),
  (24, .iload_n 1, 0, [], 0, 0, (0, 0), false, []),
  (25, .iload_n 3, 0, [], 0, 0, (0, 0), false, []),
  (26, .iadd, 0, [], 0, 0, (0, 0), false, []),
  (27, .invokevirtual 14, 6, [6, 1, 2, 1, 0, 7], 0, 0, (0, 0), false, []),
  (30, .goto 4, 1, [23], 0, 0, (0, 0), false, []),
  (33, .iconst 0, 0, [], 0, 0, (0, 0), false, []),
  (34, .ior, 0, [], 0, 0, (0, 0), false, []),
  (35, .istore_n 2, 0, [], 0, 0, (0, 0), false, []),
  (36, .iinc 3 1, 0, [], 1, 0, (0, 0), false, []),
  (39, .goto (-35), 1, [4], 0, 0, (0, 0), false, []),
  (42, .iload_n 2, 0, [], 0, 0, (0, 0), false, []),
  (43, .ireturn, 5, [0], 0, 0, (0, 0), false, [])]
def eL_four : List zm_M := [mJ0_length_8abf5, mJ0_charAt_5068e]
noncomputable def vL_four : List (zm_M × zm_S) := [(mJ0_length_8abf5, sJ0_length_8abf5), (mJ0_charAt_5068e, sJ0_charAt_5068e)]
noncomputable def sL_four : zm_S := zsem vL_four rL_four 4
set_option maxRecDepth 100000 in
theorem aL_four : zall RL mL_four eL_four rL_four = true := by decide +kernel
set_option maxRecDepth 100000 in
theorem wL_four : ∀ w ∈ zwds RL mL_four eL_four rL_four, w ∈ gT := zwd_of [744, 572, 573, 45, 574, 748, 749, 750, 45, 751] (by decide +kernel) (by decide +kernel) (z7_no (by decide +kernel))
set_option maxRecDepth 100000 in
theorem xL_four : ∀ w ∈ zwxs RL mL_four eL_four rL_four, zspc w = true ∧ w ∈ lw_tbl := by decide +kernel
theorem tL_four {sc : Nat × (Nat → Int32)} {l : Launch} (hlt : l.stackTraces = false) : MetA sc l mL_four (sL_four) := zmet (M := mL_four) (own := RL) (envM := eL_four) hlt rfl (by decide +kernel) (by decide +kernel) rfl (fun j q hq => by
  match j, hq with
  | 0, hq => cases hq; exact tJ0_length_8abf5 hlt
  | 1, hq => cases hq; exact tJ0_charAt_5068e hlt
  | n + 2, hq => cases hq) aL_four wL_four xL_four rfl
def mL_feed : zm_M := (yL_feed, cL_feed, 4, none, (7, 0, 0, 146), 2, [], (1, 6))
set_option maxRecDepth 100000 in
def rL_feed : List zm_R := [(0, .iconst 0, 0, [], 0, 0, (0, 0), false, []),
  (1, .istore_n 2, 0, [], 0, 0, (0, 0), false, []),
  (2, .iconst 0, 0, [], 0, 0, (0, 0), false, []),
  (3, .istore_n 3, 0, [], 0, 0, (0, 0), false, []),
  (4, .iload_n 3, 0, [], 0, 0, (0, 0), true, []),
  (5, .aload_n 1, 0, [], 0, 0, (0, 0), false, []),
  (6, .invokevirtual 8, 6, [6, 0, 1, 1, 0, 7], 0, 0, (0, 0), false, []),
  (9, .if_icmp .lt 7, 1, [10], 0, 0, (0, 0), false, []),
  (12, .iload_n 3, 0, [], 0, 0, (0, 0), false, []),
  (13, .ifCond .ne 50, 1, [38], 0, 0, (0, 0), false, []),
  (16, .aload_n 0, 0, [], 0, 0, (0, 0), false, []),
  (17, .aload_n 1, 0, [], 0, 0, (0, 0), false, []),
  (18, .iload_n 3, 0, [], 0, 0, (0, 0), false, []),
  (19, .invokestatic 18, 6, [1, 1, 2, 1, 0, 0], 0, 0, (0, 0), false, []),
  (22, .aload_n 1, 0, [], 0, 0, (0, 0), false, []),
  (23, .iload_n 3, 0, [], 0, 0, (0, 0), false, []),
  (24, .iconst 4, 0, [], 4, 0, (0, 0), false, []),
  (25, .iadd, 0, [], 0, 0, (0, 0), false, []),
  (26, .invokestatic 18, 6, [1, 1, 2, 1, 0, 0], 0, 0, (0, 0), false, []),
  (29, .aload_n 1, 0, [], 0, 0, (0, 0), false, []),
  (30, .iload_n 3, 0, [], 0, 0, (0, 0), false, []),
  (31, .bipush 8, 0, [], 8, 0, (0, 0), false, []),
  (33, .iadd, 0, [], 0, 0, (0, 0), false, []),
  (34, .invokestatic 18, 6, [1, 1, 2, 1, 0, 0], 0, 0, (0, 0), false, []),
  (37, .aload_n 1, 0, [], 0, 0, (0, 0), false, []),
  (38, .iload_n 3, 0, [], 0, 0, (0, 0), false, []),
  (39, .bipush 12, 0, [], 12, 0, (0, 0), false, []),
  (41, .iadd, 0, [], 0, 0, (0, 0), false, []),
  (42, .invokestatic 18, 6, [1, 1, 2, 1, 0, 0], 0, 0, (0, 0), false, []),
  (45, .aload_n 1, 0, [], 0, 0, (0, 0), false, []),
  (46, .iload_n 3, 0, [], 0, 0, (0, 0), false, []),
  (47, .bipush 16, 0, [], 16, 0, (0, 0), false, []),
  (49, .iadd, 0, [], 0, 0, (0, 0), false, []),
  (50, .invokestatic 18, 6, [1, 1, 2, 1, 0, 0], 0, 0, (0, 0), false, []),
  (53, .invokevirtual 24, 6, [0, 2, 6, 1, 1, 5], 0, 0, (0, 0), false, []),
  (56, .istore_n 2, 0, [], 0, 0, (0, 0), false, []),
  (57, .iinc 3 20, 0, [], 20, 0, (0, 0), false, []),
  (60, .goto (-56), 1, [4], 0, 0, (0, 0), false, []),
  (63, .aload_n 0, 0, [], 0, 0, (0, 0), false, []),
  (64, .iload_n 2, 0, [], 0, 0, (0, 0), false, []),
  (65, .aload_n 1, 0, [], 0, 0, (0, 0), false, []),
  (66, .invokevirtual 8, 6, [6, 0, 1, 1, 0, 7], 0, 0, (0, 0), false, []),
  (69, .invokestatic 30, 13, [1], 0, 0, (0, 0), false, []),
  (72, .invokevirtual 36, 6, [0, 3, 2, 0, 1, 5], 0, 0, (0, 0), false, []),
  (75, .return_, 5, [], 0, 0, (0, 0), false, [])]
def eL_feed : List zm_M := [mJ0_length_8abf5, mL_four, mX5_append, mX5_truncate]
noncomputable def vL_feed : List (zm_M × zm_S) := [(mJ0_length_8abf5, sJ0_length_8abf5), (mL_four, sL_four), (mX5_append, sX5_append), (mX5_truncate, sX5_truncate)]
noncomputable def sL_feed : zm_S := zsem vL_feed rL_feed 4
set_option maxRecDepth 100000 in
theorem aL_feed : zall RL mL_feed eL_feed rL_feed = true := by decide +kernel
set_option maxRecDepth 100000 in
theorem wL_feed : ∀ w ∈ zwds RL mL_feed eL_feed rL_feed, w ∈ gT := zwd_of [744, 572, 573, 45, 574, 745, 746, 37, 747, 745, 746, 37, 747, 745, 746, 37, 747, 745, 746, 37, 747, 745, 746, 37, 747, 763, 764, 765, 38, 766, 744, 572, 573, 45, 574, 776, 537, 48, 538, 777, 778, 779, 38, 780] (by decide +kernel) (by decide +kernel) (z7_no (by decide +kernel))
set_option maxRecDepth 100000 in
theorem xL_feed : ∀ w ∈ zwxs RL mL_feed eL_feed rL_feed, zspc w = true ∧ w ∈ lw_tbl := by decide +kernel
theorem tL_feed {sc : Nat × (Nat → Int32)} {l : Launch} (hlt : l.stackTraces = false) : MetA sc l mL_feed (sL_feed) := zmet (M := mL_feed) (own := RL) (envM := eL_feed) hlt rfl (by decide +kernel) (by decide +kernel) rfl (fun j q hq => by
  match j, hq with
  | 0, hq => cases hq; exact tJ0_length_8abf5 hlt
  | 1, hq => cases hq; exact tL_four hlt
  | 2, hq => cases hq; exact tX5_append hlt
  | 3, hq => cases hq; exact tX5_truncate hlt
  | n + 4, hq => cases hq) aL_feed wL_feed xL_feed rfl
def mL_name : zm_M := (yL_name, cL_name, 1, (some .char), (0, 0, 0, 0), 1, [], (0, 0))
set_option maxRecDepth 100000 in
def rL_name : List zm_R := [(0, .bipush 97, 0, [], 97, 0, (0, 0), false, []),
  (2, .iload_n 0, 0, [], 0, 0, (0, 0), false, []),
  (3, .iadd, 0, [], 0, 0, (0, 0), false, []),
  (4, .i2c, 0, [], 0, 0, (0, 0), false, []),
  (5, .ireturn, 5, [3], 0, 0, (0, 0), false, [])]
def eL_name : List zm_M := []
noncomputable def vL_name : List (zm_M × zm_S) := []
noncomputable def sL_name : zm_S := zsem vL_name rL_name 1
set_option maxRecDepth 100000 in
theorem aL_name : zall RL mL_name eL_name rL_name = true := by decide +kernel
set_option maxRecDepth 100000 in
theorem wL_name : ∀ w ∈ zwds RL mL_name eL_name rL_name, w ∈ gT := zwd_of [] (by decide +kernel) (by decide +kernel) (z7_no (by decide +kernel))
set_option maxRecDepth 100000 in
theorem xL_name : ∀ w ∈ zwxs RL mL_name eL_name rL_name, zspc w = true ∧ w ∈ lw_tbl := by decide +kernel
theorem tL_name {sc : Nat × (Nat → Int32)} {l : Launch} (hlt : l.stackTraces = false) : MetA sc l mL_name (sL_name) := zmet (M := mL_name) (own := RL) (envM := eL_name) hlt rfl (by decide +kernel) (by decide +kernel) rfl (fun j q hq => by cases hq) aL_name wL_name xL_name rfl
def mL_load0 : zm_M := (yL_load, cL_load, 10, (some .boolean), (8, 12, 10260, 169), 2, [], (12, 10260))
def mL_load : zm_M := zmUp mL_load0 (17 * 10 + zmC mL_load0) (17 * 10240 + zmS mL_load0)
set_option maxRecDepth 100000 in
def rL_load : List zm_R := [(0, .iconst 1, 0, [], 1, 0, (0, 0), false, []),
  (1, .aload_n 1, 0, [], 0, 0, (0, 0), false, []),
  (2, .iconst 0, 0, [], 0, 0, (0, 0), false, []),
  (3, .bipush 6, 0, [], 6, 0, (0, 0), false, []),
  (5, .invokestatic 40, 6, [1, 0, 3, 1, 0, 0], 0, 0, (0, 0), false, []),
  (8, .iadd, 0, [], 0, 0, (0, 0), false, []),
  (9, .istore_n 2, 0, [], 0, 0, (0, 0), false, []),
  (10, .new 44, 4, [6, 4], 0, 0, (0, 0), false, []),
  (13, .dup, 0, [], 0, 0, (1, 4), false, []),
  (14, .invokespecial 46, 6, [2, 1, 1, 0, 0, 6], 0, 0, (1, 4), false, []),
  (17, .astore_n 3, 0, [], 0, 0, (2, 20), false, []),
  (18, .iconst 0, 0, [], 0, 0, (2, 20), false, []),
  (19, .istore 4, 0, [], 0, 0, (2, 20), false, []),
  (21, .iload 4, 0, [], 0, 0, (2, 20), true, [5, 6, 7, 8, 9]),
  (23, .iload_n 2, 0, [], 0, 0, (2, 20), false, []),
  (24, .if_icmp .ge 97, 1, [65], 0, 0, (2, 20), false, []),
  (27, .aload_n 3, 0, [], 0, 0, (2, 20), false, []),
  (28, .ldc 47, 9, [7, 0], 0, 0, (2, 20), false, []),
  (30, .invokevirtual 49, 6, [0, 7, 2, 3, 0, 6], 0, 0, (2, 20), false, []),
  (33, .iload 4, 0, [], 0, 0, (3, 1044), false, []),
  (35, .invokestatic 52, 6, [1, 8, 1, 1, 0, 0], 0, 0, (3, 1044), false, []),
  (38, .invokevirtual 55, 6, [0, 9, 2, 3, 0, 6], 0, 0, (3, 1044), false, []),
  (41, .pop, 0, [], 0, 0, (4, 2068), false, []),
  (42, .aload_n 1, 0, [], 0, 0, (4, 2068), false, []),
  (43, .iconst 1, 0, [], 1, 0, (4, 2068), false, []),
  (44, .iload 4, 0, [], 0, 0, (4, 2068), false, []),
  (46, .iadd, 0, [], 0, 0, (4, 2068), false, []),
  (47, .iconst 2, 0, [], 2, 0, (4, 2068), false, []),
  (48, .invokestatic 40, 6, [1, 0, 3, 1, 0, 0], 0, 0, (4, 2068), false, []),
  (51, .ifCond .ne 23, 1, [41], 0, 0, (4, 2068), false, []),
  (54, .aload_n 3, 0, [], 0, 0, (4, 2068), false, []),
  (55, .ldc 58, 9, [7, 1], 0, 0, (4, 2068), false, []),
  (57, .invokevirtual 49, 6, [0, 7, 2, 3, 0, 6], 0, 0, (4, 2068), false, []),
  (60, .aload_n 1, 0, [], 0, 0, (5, 3092), false, []),
  (61, .bipush 7, 0, [], 7, 0, (5, 3092), false, []),
  (63, .iload 4, 0, [], 0, 0, (5, 3092), false, []),
  (65, .iadd, 0, [], 0, 0, (5, 3092), false, []),
  (66, .iconst 4, 0, [], 4, 0, (5, 3092), false, []),
  (67, .invokestatic 40, 6, [1, 0, 3, 1, 0, 0], 0, 0, (5, 3092), false, []),
  (70, .invokevirtual 60, 6, [0, 10, 2, 3, 0, 6], 0, 0, (5, 3092), false, []),
  (73, .pop, 0, [], 0, 0, (6, 4116), false, []),
  (74, .aload_n 1, 0, [], 0, 0, (6, 4116), true, [5, 6, 7, 8, 9]),
  (75, .bipush 13, 0, [], 13, 0, (6, 4116), false, []),
  (77, .iload 4, 0, [], 0, 0, (6, 4116), false, []),
  (79, .iadd, 0, [], 0, 0, (6, 4116), false, []),
  (80, .iconst 2, 0, [], 2, 0, (6, 4116), false, []),
  (81, .invokestatic 40, 6, [1, 0, 3, 1, 0, 0], 0, 0, (6, 4116), false, []),
  (84, .ifCond .ne 24, 1, [59], 0, 0, (6, 4116), false, []),
  (87, .aload_n 3, 0, [], 0, 0, (6, 4116), false, []),
  (88, .ldc 63, 9, [7, 2], 0, 0, (6, 4116), false, []),
  (90, .invokevirtual 49, 6, [0, 7, 2, 3, 0, 6], 0, 0, (6, 4116), false, []),
  (93, .aload_n 1, 0, [], 0, 0, (7, 5140), false, []),
  (94, .bipush 19, 0, [], 19, 0, (7, 5140), false, []),
  (96, .iload 4, 0, [], 0, 0, (7, 5140), false, []),
  (98, .iadd, 0, [], 0, 0, (7, 5140), false, []),
  (99, .bipush 20, 0, [], 20, 0, (7, 5140), false, []),
  (101, .invokestatic 40, 6, [1, 0, 3, 1, 0, 0], 0, 0, (7, 5140), false, []),
  (104, .invokevirtual 60, 6, [0, 10, 2, 3, 0, 6], 0, 0, (7, 5140), false, []),
  (107, .pop, 0, [], 0, 0, (8, 6164), false, []),
  (108, .aload_n 3, 0, [], 0, 0, (8, 6164), false, []),
  (109, .ldc 65, 9, [7, 3], 0, 0, (8, 6164), false, []),
  (111, .invokevirtual 49, 6, [0, 7, 2, 3, 0, 6], 0, 0, (8, 6164), false, []),
  (114, .pop, 0, [], 0, 0, (9, 7188), false, []),
  (115, .iinc 4 1, 0, [], 1, 0, (9, 7188), false, []),
  (118, .goto (-97), 1, [259], 0, 0, (9, 7188), false, []),
  (121, .iconst 0, 0, [], 0, 0, (2, 20), false, []),
  (122, .istore 4, 0, [], 0, 0, (2, 20), false, []),
  (124, .iload_n 2, 0, [], 0, 0, (2, 20), false, []),
  (125, .iconst 1, 0, [], 1, 0, (2, 20), false, []),
  (126, .if_icmp .ne 7, 1, [72], 0, 0, (2, 20), false, []),
  (129, .iconst 0, 0, [], 0, 0, (2, 20), false, []),
  (130, .goto 11, 1, [76], 0, 0, (2, 20), false, []),
  (133, .aload_n 1, 0, [], 0, 0, (2, 20), false, []),
  (134, .bipush 25, 0, [], 25, 0, (2, 20), false, []),
  (136, .bipush 12, 0, [], 12, 0, (2, 20), false, []),
  (138, .invokestatic 40, 6, [1, 0, 3, 1, 0, 0], 0, 0, (2, 20), false, []),
  (141, .istore 5, 0, [], 0, 0, (2, 20), false, []),
  (143, .iconst 0, 0, [], 0, 0, (2, 20), false, []),
  (144, .istore 6, 0, [], 0, 0, (2, 20), false, []),
  (146, .iload 6, 0, [], 0, 0, (2, 20), true, [7, 8, 9]),
  (148, .iload 5, 0, [], 0, 0, (2, 20), false, []),
  (150, .if_icmp .ge 166, 1, [165], 0, 0, (2, 20), false, []),
  (153, .aload_n 1, 0, [], 0, 0, (2, 20), false, []),
  (154, .bipush 26, 0, [], 26, 0, (2, 20), false, []),
  (156, .iload 6, 0, [], 0, 0, (2, 20), false, []),
  (158, .iadd, 0, [], 0, 0, (2, 20), false, []),
  (159, .iload_n 2, 0, [], 0, 0, (2, 20), false, []),
  (160, .invokestatic 40, 6, [1, 0, 3, 1, 0, 0], 0, 0, (2, 20), false, []),
  (163, .istore 7, 0, [], 0, 0, (2, 20), false, []),
  (165, .aload_n 1, 0, [], 0, 0, (2, 20), false, []),
  (166, .bipush 38, 0, [], 38, 0, (2, 20), false, []),
  (168, .iload 6, 0, [], 0, 0, (2, 20), false, []),
  (170, .iadd, 0, [], 0, 0, (2, 20), false, []),
  (171, .iload_n 2, 0, [], 0, 0, (2, 20), false, []),
  (172, .invokestatic 40, 6, [1, 0, 3, 1, 0, 0], 0, 0, (2, 20), false, []),
  (175, .istore 8, 0, [], 0, 0, (2, 20), false, []),
  (177, .iload 7, 0, [], 0, 0, (2, 20), false, []),
  (179, .iload 8, 0, [], 0, 0, (2, 20), false, []),
  (181, .if_icmp .ne 6, 1, [100], 0, 0, (2, 20), false, []),
  (184, .goto 126, 1, [163], 0, 0, (2, 20), false, []),
  (187, .aload_n 3, 0, [], 0, 0, (2, 20), true, [9]),
  (188, .ldc 67, 9, [7, 4], 0, 0, (2, 20), false, []),
  (190, .invokevirtual 49, 6, [0, 7, 2, 3, 0, 6], 0, 0, (2, 20), false, []),
  (193, .iload 7, 0, [], 0, 0, (3, 1044), false, []),
  (195, .invokestatic 52, 6, [1, 8, 1, 1, 0, 0], 0, 0, (3, 1044), false, []),
  (198, .invokevirtual 55, 6, [0, 9, 2, 3, 0, 6], 0, 0, (3, 1044), false, []),
  (201, .ldc 69, 9, [7, 5], 0, 0, (4, 2068), false, []),
  (203, .invokevirtual 49, 6, [0, 7, 2, 3, 0, 6], 0, 0, (4, 2068), false, []),
  (206, .iload 8, 0, [], 0, 0, (5, 3092), false, []),
  (208, .invokestatic 52, 6, [1, 8, 1, 1, 0, 0], 0, 0, (5, 3092), false, []),
  (211, .invokevirtual 55, 6, [0, 9, 2, 3, 0, 6], 0, 0, (5, 3092), false, []),
  (214, .pop, 0, [], 0, 0, (6, 4116), false, []),
  (215, .aload_n 1, 0, [], 0, 0, (6, 4116), false, []),
  (216, .bipush 50, 0, [], 50, 0, (6, 4116), false, []),
  (218, .iload 6, 0, [], 0, 0, (6, 4116), false, []),
  (220, .iadd, 0, [], 0, 0, (6, 4116), false, []),
  (221, .iconst 5, 0, [], 5, 0, (6, 4116), false, []),
  (222, .invokestatic 40, 6, [1, 0, 3, 1, 0, 0], 0, 0, (6, 4116), false, []),
  (225, .istore 9, 0, [], 0, 0, (6, 4116), false, []),
  (227, .iload 9, 0, [], 0, 0, (6, 4116), true, [7, 8]),
  (229, .iconst 1, 0, [], 1, 0, (6, 4116), false, []),
  (230, .if_icmp .ne 23, 1, [133], 0, 0, (6, 4116), false, []),
  (233, .aload_n 3, 0, [], 0, 0, (6, 4116), false, []),
  (234, .ldc 58, 9, [7, 1], 0, 0, (6, 4116), false, []),
  (236, .invokevirtual 49, 6, [0, 7, 2, 3, 0, 6], 0, 0, (6, 4116), false, []),
  (239, .aload_n 1, 0, [], 0, 0, (7, 5140), false, []),
  (240, .bipush 62, 0, [], 62, 0, (7, 5140), false, []),
  (242, .iload 6, 0, [], 0, 0, (7, 5140), false, []),
  (244, .iadd, 0, [], 0, 0, (7, 5140), false, []),
  (245, .iconst 4, 0, [], 4, 0, (7, 5140), false, []),
  (246, .invokestatic 40, 6, [1, 0, 3, 1, 0, 0], 0, 0, (7, 5140), false, []),
  (249, .invokevirtual 60, 6, [0, 10, 2, 3, 0, 6], 0, 0, (7, 5140), false, []),
  (252, .pop, 0, [], 0, 0, (8, 6164), false, []),
  (253, .iload 9, 0, [], 0, 0, (8, 6164), false, []),
  (255, .iconst 2, 0, [], 2, 0, (8, 6164), false, []),
  (256, .if_icmp .ne 24, 1, [147], 0, 0, (8, 6164), false, []),
  (259, .aload_n 3, 0, [], 0, 0, (8, 6164), false, []),
  (260, .ldc 71, 9, [7, 6], 0, 0, (8, 6164), false, []),
  (262, .invokevirtual 49, 6, [0, 7, 2, 3, 0, 6], 0, 0, (8, 6164), false, []),
  (265, .aload_n 1, 0, [], 0, 0, (9, 7188), false, []),
  (266, .bipush 62, 0, [], 62, 0, (9, 7188), false, []),
  (268, .iload 6, 0, [], 0, 0, (9, 7188), false, []),
  (270, .iadd, 0, [], 0, 0, (9, 7188), false, []),
  (271, .bipush 30, 0, [], 30, 0, (9, 7188), false, []),
  (273, .invokestatic 40, 6, [1, 0, 3, 1, 0, 0], 0, 0, (9, 7188), false, []),
  (276, .invokevirtual 60, 6, [0, 10, 2, 3, 0, 6], 0, 0, (9, 7188), false, []),
  (279, .pop, 0, [], 0, 0, (10, 8212), false, []),
  (280, .aload_n 1, 0, [], 0, 0, (10, 8212), true, [7, 8, 9]),
  (281, .bipush 74, 0, [], 74, 0, (10, 8212), false, []),
  (283, .iload 6, 0, [], 0, 0, (10, 8212), false, []),
  (285, .iadd, 0, [], 0, 0, (10, 8212), false, []),
  (286, .iconst 4, 0, [], 4, 0, (10, 8212), false, []),
  (287, .invokestatic 40, 6, [1, 0, 3, 1, 0, 0], 0, 0, (10, 8212), false, []),
  (290, .ifCond .ne 10, 1, [158], 0, 0, (10, 8212), false, []),
  (293, .aload_n 3, 0, [], 0, 0, (10, 8212), false, []),
  (294, .ldc 73, 9, [7, 7], 0, 0, (10, 8212), false, []),
  (296, .invokevirtual 49, 6, [0, 7, 2, 3, 0, 6], 0, 0, (10, 8212), false, []),
  (299, .pop, 0, [], 0, 0, (11, 9236), false, []),
  (300, .aload_n 3, 0, [], 0, 0, (11, 9236), false, []),
  (301, .ldc 65, 9, [7, 3], 0, 0, (11, 9236), false, []),
  (303, .invokevirtual 49, 6, [0, 7, 2, 3, 0, 6], 0, 0, (11, 9236), false, []),
  (306, .pop, 0, [], 0, 0, (12, 10260), false, []),
  (307, .iinc 4 1, 0, [], 1, 0, (12, 10260), false, []),
  (310, .iinc 6 1, 0, [], 1, 0, (12, 10260), false, []),
  (313, .goto (-167), 1, [260], 0, 0, (12, 10260), false, []),
  (316, .aload_n 1, 0, [], 0, 0, (2, 20), true, [5, 6, 7, 8, 9]),
  (317, .bipush 86, 0, [], 86, 0, (2, 20), false, []),
  (319, .iconst 3, 0, [], 3, 0, (2, 20), false, []),
  (320, .invokestatic 40, 6, [1, 0, 3, 1, 0, 0], 0, 0, (2, 20), false, []),
  (323, .ifCond .ne 28, 1, [182], 0, 0, (2, 20), false, []),
  (326, .aload_n 3, 0, [], 0, 0, (2, 20), false, []),
  (327, .ldc 75, 9, [7, 8], 0, 0, (2, 20), false, []),
  (329, .invokevirtual 49, 6, [0, 7, 2, 3, 0, 6], 0, 0, (2, 20), false, []),
  (332, .aload_n 1, 0, [], 0, 0, (3, 1044), false, []),
  (333, .bipush 87, 0, [], 87, 0, (3, 1044), false, []),
  (335, .iload_n 2, 0, [], 0, 0, (3, 1044), false, []),
  (336, .invokestatic 40, 6, [1, 0, 3, 1, 0, 0], 0, 0, (3, 1044), false, []),
  (339, .invokestatic 52, 6, [1, 8, 1, 1, 0, 0], 0, 0, (3, 1044), false, []),
  (342, .invokevirtual 55, 6, [0, 9, 2, 3, 0, 6], 0, 0, (3, 1044), false, []),
  (345, .ldc 65, 9, [7, 3], 0, 0, (4, 2068), false, []),
  (347, .invokevirtual 49, 6, [0, 7, 2, 3, 0, 6], 0, 0, (4, 2068), false, []),
  (350, .pop, 0, [], 0, 0, (5, 3092), false, []),
  (351, .aload_n 1, 0, [], 0, 0, (5, 3092), true, [5, 6, 7, 8, 9]),
  (352, .bipush 88, 0, [], 88, 0, (5, 3092), false, []),
  (354, .iconst 4, 0, [], 4, 0, (5, 3092), false, []),
  (355, .invokestatic 40, 6, [1, 0, 3, 1, 0, 0], 0, 0, (5, 3092), false, []),
  (358, .ifCond .ne 28, 1, [199], 0, 0, (5, 3092), false, []),
  (361, .aload_n 3, 0, [], 0, 0, (5, 3092), false, []),
  (362, .ldc 77, 9, [7, 9], 0, 0, (5, 3092), false, []),
  (364, .invokevirtual 49, 6, [0, 7, 2, 3, 0, 6], 0, 0, (5, 3092), false, []),
  (367, .aload_n 1, 0, [], 0, 0, (6, 4116), false, []),
  (368, .bipush 89, 0, [], 89, 0, (6, 4116), false, []),
  (370, .iload_n 2, 0, [], 0, 0, (6, 4116), false, []),
  (371, .invokestatic 40, 6, [1, 0, 3, 1, 0, 0], 0, 0, (6, 4116), false, []),
  (374, .invokestatic 52, 6, [1, 8, 1, 1, 0, 0], 0, 0, (6, 4116), false, []),
  (377, .invokevirtual 55, 6, [0, 9, 2, 3, 0, 6], 0, 0, (6, 4116), false, []),
  (380, .ldc 65, 9, [7, 3], 0, 0, (7, 5140), false, []),
  (382, .invokevirtual 49, 6, [0, 7, 2, 3, 0, 6], 0, 0, (7, 5140), false, []),
  (385, .pop, 0, [], 0, 0, (8, 6164), false, []),
  (386, .aload_n 0, 0, [], 0, 0, (8, 6164), true, [5, 6, 7, 8, 9]),
  (387, .aload_n 3, 0, [], 0, 0, (8, 6164), false, []),
  (388, .invokevirtual 79, 6, [0, 2, 1, 3, 0, 6], 0, 0, (8, 6164), false, []),
  (391, .invokestatic 83, 6, [1, 3, 2, 0, 1, 0], 0, 0, (10, 7192), false, []),
  (394, .aload_n 0, 0, [], 0, 0, (10, 7192), false, []),
  (395, .invokevirtual 87, 6, [0, 4, 1, 1, 0, 5], 0, 0, (10, 7192), false, []),
  (398, .iload_n 2, 0, [], 0, 0, (11, 7201), false, []),
  (399, .if_icmp .ne 100, 1, [257], 0, 0, (11, 7201), false, []),
  (402, .aload_n 0, 0, [], 0, 0, (11, 7201), false, []),
  (403, .invokevirtual 90, 6, [0, 5, 1, 1, 0, 5], 0, 0, (11, 7201), false, []),
  (406, .ifCond .ne 93, 1, [257], 0, 0, (11, 7201), false, []),
  (409, .aload_n 0, 0, [], 0, 0, (11, 7201), false, []),
  (410, .iconst 0, 0, [], 0, 0, (11, 7201), false, []),
  (411, .invokevirtual 93, 6, [0, 6, 2, 1, 1, 5], 0, 0, (11, 7201), false, []),
  (414, .iload_n 2, 0, [], 0, 0, (11, 7201), false, []),
  (415, .if_icmp .ne 84, 1, [257], 0, 0, (11, 7201), false, []),
  (418, .aload_n 0, 0, [], 0, 0, (11, 7201), false, []),
  (419, .iconst 1, 0, [], 1, 0, (11, 7201), false, []),
  (420, .invokevirtual 93, 6, [0, 6, 2, 1, 1, 5], 0, 0, (11, 7201), false, []),
  (423, .iload 4, 0, [], 0, 0, (11, 7201), false, []),
  (425, .if_icmp .ne 74, 1, [257], 0, 0, (11, 7201), false, []),
  (428, .aload_n 0, 0, [], 0, 0, (11, 7201), false, []),
  (429, .iconst 2, 0, [], 2, 0, (11, 7201), false, []),
  (430, .invokevirtual 93, 6, [0, 6, 2, 1, 1, 5], 0, 0, (11, 7201), false, []),
  (433, .aload_n 1, 0, [], 0, 0, (11, 7201), false, []),
  (434, .bipush 86, 0, [], 86, 0, (11, 7201), false, []),
  (436, .iconst 3, 0, [], 3, 0, (11, 7201), false, []),
  (437, .invokestatic 40, 6, [1, 0, 3, 1, 0, 0], 0, 0, (11, 7201), false, []),
  (440, .ifCond .ne 13, 1, [233], 0, 0, (11, 7201), false, []),
  (443, .aload_n 1, 0, [], 0, 0, (11, 7201), false, []),
  (444, .bipush 87, 0, [], 87, 0, (11, 7201), false, []),
  (446, .iload_n 2, 0, [], 0, 0, (11, 7201), false, []),
  (447, .invokestatic 40, 6, [1, 0, 3, 1, 0, 0], 0, 0, (11, 7201), false, []),
  (450, .goto 4, 1, [234], 0, 0, (11, 7201), false, []),
  (453, .iconst 0, 0, [], 0, 0, (11, 7201), false, []),
  (454, .if_icmp .ne 45, 1, [257], 0, 0, (11, 7201), true, [3, 4, 5, 6, 7, 8, 9]),
  (457, .aload_n 0, 0, [], 0, 0, (11, 7201), false, []),
  (458, .iconst 3, 0, [], 3, 0, (11, 7201), false, []),
  (459, .invokevirtual 93, 6, [0, 6, 2, 1, 1, 5], 0, 0, (11, 7201), false, []),
  (462, .aload_n 1, 0, [], 0, 0, (11, 7201), false, []),
  (463, .bipush 88, 0, [], 88, 0, (11, 7201), false, []),
  (465, .iconst 4, 0, [], 4, 0, (11, 7201), false, []),
  (466, .invokestatic 40, 6, [1, 0, 3, 1, 0, 0], 0, 0, (11, 7201), false, []),
  (469, .ifCond .ne 13, 1, [248], 0, 0, (11, 7201), false, []),
  (472, .aload_n 1, 0, [], 0, 0, (11, 7201), false, []),
  (473, .bipush 89, 0, [], 89, 0, (11, 7201), false, []),
  (475, .iload_n 2, 0, [], 0, 0, (11, 7201), false, []),
  (476, .invokestatic 40, 6, [1, 0, 3, 1, 0, 0], 0, 0, (11, 7201), false, []),
  (479, .goto 4, 1, [249], 0, 0, (11, 7201), false, []),
  (482, .iconst (-1), 0, [], (-1), 0, (11, 7201), false, []),
  (483, .if_icmp .ne 16, 1, [257], 0, 0, (11, 7201), false, []),
  (486, .aload_n 0, 0, [], 0, 0, (11, 7201), false, []),
  (487, .iconst 4, 0, [], 4, 0, (11, 7201), false, []),
  (488, .invokevirtual 93, 6, [0, 6, 2, 1, 1, 5], 0, 0, (11, 7201), false, []),
  (491, .iconst 1, 0, [], 1, 0, (11, 7201), false, []),
  (492, .if_icmp .ne 7, 1, [257], 0, 0, (11, 7201), false, []),
  (495, .iconst 1, 0, [], 1, 0, (11, 7201), false, []),
  (496, .goto 4, 1, [258], 0, 0, (11, 7201), false, []),
  (499, .iconst 0, 0, [], 0, 0, (11, 7201), false, []),
  (500, .ireturn, 5, [1], 0, 0, (11, 7201), false, []),
  (21, .iload 4, 12, [], 0, 0, (12, 10260), true, [5, 6, 7, 8, 9]),
  (146, .iload 6, 12, [], 0, 0, (12, 10260), true, [7, 8, 9])]
def eL_load : List zm_M := [mL_draw, mJ4_init_da8c8, mJ4_toString_0e30d, mL_feed, mX5_load, mX5_errorCode, mX5_property, mJ4_append_15ec4, mL_name, mJ4_append_cf468, mJ4_append_bf812]
noncomputable def vL_load (sc : Nat × (Nat → Int32)) : List (zm_M × zm_S) := [(mL_draw, sL_draw sc), (mJ4_init_da8c8, sJ4_init_da8c8), (mJ4_toString_0e30d, sJ4_toString_0e30d), (mL_feed, sL_feed), (mX5_load, sX5_load), (mX5_errorCode, sX5_errorCode), (mX5_property, sX5_property), (mJ4_append_15ec4, sJ4_append_15ec4), (mL_name, sL_name), (mJ4_append_cf468, sJ4_append_cf468), (mJ4_append_bf812, sJ4_append_bf812)]
def jL_load (i : Nat) : Option Nat := if i = 259 then some 13 else if i = 260 then some 79 else  none
noncomputable def sL_load (sc : Nat × (Nat → Int32)) : zm_S := zsemJ (vL_load sc) rL_load jL_load 17 10
set_option maxRecDepth 100000 in
theorem aL_load : zall RL mL_load0 eL_load rL_load = true := by decide +kernel
set_option maxRecDepth 100000 in
theorem wL_load : ∀ w ∈ zwds RL mL_load0 eL_load rL_load, w ∈ gT := zwd_of [460, 461, 37, 462, 464, 465, 44, 466, 467, 44, 468, 496, 497, 498, 44, 499, 614, 615, 37, 616, 617, 618, 619, 44, 620, 460, 461, 37, 462, 496, 497, 498, 44, 499, 460, 461, 37, 462, 640, 641, 642, 44, 643, 460, 461, 37, 462, 496, 497, 498, 44, 499, 460, 461, 37, 462, 640, 641, 642, 44, 643, 496, 497, 498, 44, 499, 460, 461, 37, 462, 460, 461, 37, 462, 460, 461, 37, 462, 496, 497, 498, 44, 499, 614, 615, 37, 616, 617, 618, 619, 44, 620, 496, 497, 498, 44, 499, 614, 615, 37, 616, 617, 618, 619, 44, 620, 460, 461, 37, 462, 496, 497, 498, 44, 499, 460, 461, 37, 462, 640, 641, 642, 44, 643, 496, 497, 498, 44, 499, 460, 461, 37, 462, 640, 641, 642, 44, 643, 460, 461, 37, 462, 496, 497, 498, 44, 499, 496, 497, 498, 44, 499, 460, 461, 37, 462, 496, 497, 498, 44, 499, 460, 461, 37, 462, 614, 615, 37, 616, 617, 618, 619, 44, 620, 496, 497, 498, 44, 499, 460, 461, 37, 462, 496, 497, 498, 44, 499, 460, 461, 37, 462, 614, 615, 37, 616, 617, 618, 619, 44, 620, 496, 497, 498, 44, 499, 673, 674, 675, 44, 676, 741, 742, 37, 743, 782, 783, 784, 38, 785, 942, 943, 944, 38, 945, 248, 249, 250, 38, 251, 248, 249, 250, 38, 251, 248, 249, 250, 38, 251, 460, 461, 37, 462, 460, 461, 37, 462, 248, 249, 250, 38, 251, 460, 461, 37, 462, 460, 461, 37, 462, 248, 249, 250, 38, 251] (by decide +kernel) (by decide +kernel) (z7_no (by decide +kernel))
set_option maxRecDepth 100000 in
theorem xL_load : ∀ w ∈ zwxs RL mL_load0 eL_load rL_load, zspc w = true ∧ w ∈ lw_tbl := by decide +kernel
set_option maxRecDepth 100000 in
theorem jL_load_ok : ∀ (i hd : Nat) (r : zm_R), rL_load[i]? = some r → jL_load i = some hd → ∃ rh, rL_load[hd]? = some rh ∧ rP rh = rP r ∧ (rN rh).1 + 10 = (rN r).1 ∧ (rN rh).2 + 10240 = (rN r).2 := by
  intro i hd r hr hj
  unfold jL_load at hj
  split at hj
  · rename_i q; subst q; cases hj; cases hr; exact ⟨_, rfl, rfl, rfl, rfl⟩
  split at hj
  · rename_i q; subst q; cases hj; cases hr; exact ⟨_, rfl, rfl, rfl, rfl⟩
  cases hj
theorem tL_load {sc : Nat × (Nat → Int32)} {l : Launch} (hlt : l.stackTraces = false) : MetA sc l mL_load (sL_load sc) := zmetJ (M := mL_load0) (own := RL) (envM := eL_load) hlt rfl (by decide +kernel) (by decide +kernel) rfl rfl (fun j q hq => by
  match j, hq with
  | 0, hq => cases hq; exact tL_draw hlt
  | 1, hq => cases hq; exact tJ4_init_da8c8 hlt
  | 2, hq => cases hq; exact tJ4_toString_0e30d hlt
  | 3, hq => cases hq; exact tL_feed hlt
  | 4, hq => cases hq; exact tX5_load hlt
  | 5, hq => cases hq; exact tX5_errorCode hlt
  | 6, hq => cases hq; exact tX5_property hlt
  | 7, hq => cases hq; exact tJ4_append_15ec4 hlt
  | 8, hq => cases hq; exact tL_name hlt
  | 9, hq => cases hq; exact tJ4_append_cf468 hlt
  | 10, hq => cases hq; exact tJ4_append_bf812 hlt
  | n + 11, hq => cases hq) (zall_at aL_load) (fun i r hr w hw => wL_load w (List.mem_flatMap.mpr ⟨r, List.mem_of_getElem? hr, hw⟩)) (fun i r hr w hw => xL_load w (List.mem_flatMap.mpr ⟨r, List.mem_of_getElem? hr, hw⟩)) rfl jL_load_ok
