/-! ROWS: the bytecode of the methods as the abstract machine runs it, and their contracts (written by wip/p63/emit.py). -/
def mX3_init : zm_M := (yX3_init, cX3_init, 3, none, (1, 0, 0, 12), 2, [], (0, 0))
set_option maxRecDepth 100000 in
def rX3_init : List zm_R := [(0, .aload_n 0, 0, [], 0, 0, (0, 0), false, []),
  (1, .invokespecial 3, 10, [], 0, 0, (0, 0), false, []),
  (4, .aload_n 0, 0, [], 0, 0, (0, 0), false, []),
  (5, .iconst 0, 0, [], 0, 0, (0, 0), false, []),
  (6, .putfield 9, 2, [3, 2, 9, 3], 0, 0, (0, 0), false, []),
  (9, .aload_n 0, 0, [], 0, 0, (0, 0), false, []),
  (10, .iconst 0, 0, [], 0, 0, (0, 0), false, []),
  (11, .putfield 15, 2, [3, 3, 9, 0], 0, 0, (0, 0), false, []),
  (14, .aload_n 0, 0, [], 0, 0, (0, 0), false, []),
  (15, .iconst 0, 0, [], 0, 0, (0, 0), false, []),
  (16, .putfield 19, 2, [3, 4, 9, 0], 0, 0, (0, 0), false, []),
  (19, .aload_n 0, 0, [], 0, 0, (0, 0), false, []),
  (20, .lconst 0, 0, [], 0, 0, (0, 0), false, []),
  (21, .putfield 22, 2, [3, 5, 9, 1], 0, 0, (0, 0), false, []),
  (24, .aload_n 0, 0, [], 0, 0, (0, 0), false, []),
  (25, .iconst 0, 0, [], 0, 0, (0, 0), false, []),
  (26, .putfield 26, 2, [3, 6, 9, 0], 0, 0, (0, 0), false, []),
  (29, .aload_n 0, 0, [], 0, 0, (0, 0), false, []),
  (30, .iconst 0, 0, [], 0, 0, (0, 0), false, []),
  (31, .putfield 29, 2, [3, 7, 9, 0], 0, 0, (0, 0), false, []),
  (34, .aload_n 0, 0, [], 0, 0, (0, 0), false, []),
  (35, .iconst 0, 0, [], 0, 0, (0, 0), false, []),
  (36, .putfield 32, 2, [3, 8, 9, 0], 0, 0, (0, 0), false, []),
  (39, .aload_n 0, 0, [], 0, 0, (0, 0), false, []),
  (40, .aload_n 1, 0, [], 0, 0, (0, 0), false, []),
  (41, .putfield 35, 2, [3, 0, 9, 2], 0, 0, (0, 0), false, []),
  (44, .aload_n 0, 0, [], 0, 0, (0, 0), false, []),
  (45, .aload_n 2, 0, [], 0, 0, (0, 0), false, []),
  (46, .putfield 39, 2, [3, 1, 9, 2], 0, 0, (0, 0), false, []),
  (49, .return_, 5, [], 0, 0, (0, 0), false, [])]
def eX3_init : List zm_M := []
noncomputable def vX3_init : List (zm_M × zm_S) := []
noncomputable def sX3_init : zm_S := zsem vX3_init rX3_init 3
set_option maxRecDepth 100000 in
theorem aX3_init : zall RX3 mX3_init eX3_init rX3_init = true := by decide +kernel
set_option maxRecDepth 100000 in
theorem wX3_init : ∀ w ∈ zwds RX3 mX3_init eX3_init rX3_init, w ∈ gT := zwd_of [791, 69, 70, 794, 795, 796, 797, 798, 799, 801, 792, 793] (by decide +kernel) (by decide +kernel) (z7_no (by decide +kernel))
set_option maxRecDepth 100000 in
theorem xX3_init : ∀ w ∈ zwxs RX3 mX3_init eX3_init rX3_init, zspc w = true ∧ w ∈ lw_tbl := by decide +kernel
theorem tX3_init {sc : Nat × (Nat → Int32)} {l : Launch} (hlt : l.stackTraces = false) : MetA sc l mX3_init (sX3_init) := zmet (M := mX3_init) (own := RX3) (envM := eX3_init) hlt rfl (by decide +kernel) (by decide +kernel) rfl (fun j q hq => by cases hq) aX3_init wX3_init xX3_init rfl
def mX3_typeAt : zm_M := (yX3_typeAt, cX3_typeAt, 3, (some .int), (0, 0, 0, 0), 1, [], (0, 0))
set_option maxRecDepth 100000 in
def rX3_typeAt : List zm_R := [(0, .iload_n 1, 0, [], 0, 0, (0, 0), false, []),
  (1, .aload_n 0, 0, [], 0, 0, (0, 0), false, []),
  (2, .getfield 35, 2, [3, 0, 9, 2], 0, 0, (0, 0), false, []),
  (5, .getfield 169, 2, [0, 1, 2, 0], 0, 0, (0, 0), false, []),
  (8, .if_icmp .lt 5, 1, [7], 0, 0, (0, 0), false, []),
  (11, .iconst 0, 0, [], 0, 0, (0, 0), false, []),
  (12, .ireturn, 5, [0], 0, 0, (0, 0), false, []),
  (13, .aload_n 0, 0, [], 0, 0, (0, 0), false, []),
  (14, .getfield 35, 2, [3, 0, 9, 2], 0, 0, (0, 0), false, []),
  (17, .getfield 177, 2, [0, 0, 2, 2], 0, 0, (0, 0), false, []),
  (20, .iload_n 1, 0, [], 0, 0, (0, 0), false, []),
  (21, .iaload, 3, [0], 0, 0, (0, 0), false, []),
  (22, .istore_n 2, 0, [], 0, 0, (0, 0), false, []),
  (23, .iload_n 2, 0, [], 0, 0, (0, 0), false, []),
  (24, .bipush 32, 0, [], 32, 0, (0, 0), false, []),
  (26, .if_icmp .eq 9, 1, [19], 0, 0, (0, 0), false, []),
  (29, .iload_n 2, 0, [], 0, 0, (0, 0), false, []),
  (30, .bipush 10, 0, [], 10, 0, (0, 0), false, []),
  (32, .if_icmp .ne 5, 1, [21], 0, 0, (0, 0), false, []),
  (35, .iconst 4, 0, [], 4, 0, (0, 0), false, []),
  (36, .ireturn, 5, [0], 0, 0, (0, 0), false, []),
  (37, .iload_n 2, 0, [], 0, 0, (0, 0), false, []),
  (38, .bipush 97, 0, [], 97, 0, (0, 0), false, []),
  (40, .if_icmp .lt 11, 1, [29], 0, 0, (0, 0), false, []),
  (43, .iload_n 2, 0, [], 0, 0, (0, 0), false, []),
  (44, .bipush 122, 0, [], 122, 0, (0, 0), false, []),
  (46, .if_icmp .gt 5, 1, [29], 0, 0, (0, 0), false, []),
  (49, .iconst 1, 0, [], 1, 0, (0, 0), false, []),
  (50, .ireturn, 5, [0], 0, 0, (0, 0), false, []),
  (51, .iload_n 2, 0, [], 0, 0, (0, 0), false, []),
  (52, .bipush 48, 0, [], 48, 0, (0, 0), false, []),
  (54, .if_icmp .lt 13, 1, [37], 0, 0, (0, 0), false, []),
  (57, .iload_n 2, 0, [], 0, 0, (0, 0), false, []),
  (58, .bipush 57, 0, [], 57, 0, (0, 0), false, []),
  (60, .if_icmp .gt 7, 1, [37], 0, 0, (0, 0), false, []),
  (63, .iconst 2, 0, [], 2, 0, (0, 0), false, []),
  (64, .goto 4, 1, [38], 0, 0, (0, 0), false, []),
  (67, .iconst 3, 0, [], 3, 0, (0, 0), false, []),
  (68, .ireturn, 5, [0], 0, 0, (0, 0), false, [])]
def eX3_typeAt : List zm_M := []
noncomputable def vX3_typeAt : List (zm_M × zm_S) := []
noncomputable def sX3_typeAt : zm_S := zsem vX3_typeAt rX3_typeAt 3
set_option maxRecDepth 100000 in
theorem aX3_typeAt : zall RX3 mX3_typeAt eX3_typeAt rX3_typeAt = true := by decide +kernel
set_option maxRecDepth 100000 in
theorem wX3_typeAt : ∀ w ∈ zwds RX3 mX3_typeAt eX3_typeAt rX3_typeAt, w ∈ gT := zwd_of [792, 81, 792, 78] (by decide +kernel) (by decide +kernel) (z7_no (by decide +kernel))
set_option maxRecDepth 100000 in
theorem xX3_typeAt : ∀ w ∈ zwxs RX3 mX3_typeAt eX3_typeAt rX3_typeAt, zspc w = true ∧ w ∈ lw_tbl := by decide +kernel
theorem tX3_typeAt {sc : Nat × (Nat → Int32)} {l : Launch} (hlt : l.stackTraces = false) : MetA sc l mX3_typeAt (sX3_typeAt) := zmet (M := mX3_typeAt) (own := RX3) (envM := eX3_typeAt) hlt rfl (by decide +kernel) (by decide +kernel) rfl (fun j q hq => by cases hq) aX3_typeAt wX3_typeAt xX3_typeAt rfl
def mX3_nextToken : zm_M := (yX3_nextToken, cX3_nextToken, 2, none, (1, 0, 0, 23), 0, [], (0, 0))
set_option maxRecDepth 100000 in
def rX3_nextToken : List zm_R := [(0, .aload_n 0, 0, [], 0, 0, (0, 0), true, [1]),
  (1, .getfield 15, 2, [3, 3, 9, 0], 0, 0, (0, 0), false, []),
  (4, .aload_n 0, 0, [], 0, 0, (0, 0), false, []),
  (5, .getfield 35, 2, [3, 0, 9, 2], 0, 0, (0, 0), false, []),
  (8, .getfield 169, 2, [0, 1, 2, 0], 0, 0, (0, 0), false, []),
  (11, .if_icmp .ge 28, 1, [19], 0, 0, (0, 0), false, []),
  (14, .aload_n 0, 0, [], 0, 0, (0, 0), false, []),
  (15, .aload_n 0, 0, [], 0, 0, (0, 0), false, []),
  (16, .getfield 15, 2, [3, 3, 9, 0], 0, 0, (0, 0), false, []),
  (19, .invokevirtual 174, 6, [0, 0, 2, 1, 0, 3], 0, 0, (0, 0), false, []),
  (22, .iconst 4, 0, [], 4, 0, (0, 0), false, []),
  (23, .if_icmp .ne 16, 1, [19], 0, 0, (0, 0), false, []),
  (26, .aload_n 0, 0, [], 0, 0, (0, 0), false, []),
  (27, .dup, 0, [], 0, 0, (0, 0), false, []),
  (28, .getfield 15, 2, [3, 3, 9, 0], 0, 0, (0, 0), false, []),
  (31, .iconst 1, 0, [], 1, 0, (0, 0), false, []),
  (32, .iadd, 0, [], 0, 0, (0, 0), false, []),
  (33, .putfield 15, 2, [3, 3, 9, 0], 0, 0, (0, 0), false, []),
  (36, .goto (-36), 1, [0], 0, 0, (0, 0), false, []),
  (39, .aload_n 0, 0, [], 0, 0, (0, 0), false, []),
  (40, .aload_n 0, 0, [], 0, 0, (0, 0), false, []),
  (41, .getfield 15, 2, [3, 3, 9, 0], 0, 0, (0, 0), false, []),
  (44, .putfield 29, 2, [3, 7, 9, 0], 0, 0, (0, 0), false, []),
  (47, .aload_n 0, 0, [], 0, 0, (0, 0), false, []),
  (48, .aload_n 0, 0, [], 0, 0, (0, 0), false, []),
  (49, .aload_n 0, 0, [], 0, 0, (0, 0), false, []),
  (50, .getfield 29, 2, [3, 7, 9, 0], 0, 0, (0, 0), false, []),
  (53, .invokevirtual 174, 6, [0, 0, 2, 1, 0, 3], 0, 0, (0, 0), false, []),
  (56, .putfield 19, 2, [3, 4, 9, 0], 0, 0, (0, 0), false, []),
  (59, .aload_n 0, 0, [], 0, 0, (0, 0), false, []),
  (60, .lconst 0, 0, [], 0, 0, (0, 0), false, []),
  (61, .putfield 22, 2, [3, 5, 9, 1], 0, 0, (0, 0), false, []),
  (64, .aload_n 0, 0, [], 0, 0, (0, 0), false, []),
  (65, .iconst 0, 0, [], 0, 0, (0, 0), false, []),
  (66, .putfield 26, 2, [3, 6, 9, 0], 0, 0, (0, 0), false, []),
  (69, .aload_n 0, 0, [], 0, 0, (0, 0), false, []),
  (70, .getfield 19, 2, [3, 4, 9, 0], 0, 0, (0, 0), false, []),
  (73, .iconst 3, 0, [], 3, 0, (0, 0), false, []),
  (74, .if_icmp .ne 27, 1, [53], 0, 0, (0, 0), false, []),
  (77, .aload_n 0, 0, [], 0, 0, (0, 0), false, []),
  (78, .aload_n 0, 0, [], 0, 0, (0, 0), false, []),
  (79, .getfield 35, 2, [3, 0, 9, 2], 0, 0, (0, 0), false, []),
  (82, .getfield 177, 2, [0, 0, 2, 2], 0, 0, (0, 0), false, []),
  (85, .aload_n 0, 0, [], 0, 0, (0, 0), false, []),
  (86, .dup, 0, [], 0, 0, (0, 0), false, []),
  (87, .getfield 15, 2, [3, 3, 9, 0], 0, 0, (0, 0), false, []),
  (90, .dup_x1, 0, [], 0, 0, (0, 0), false, []),
  (91, .iconst 1, 0, [], 1, 0, (0, 0), false, []),
  (92, .iadd, 0, [], 0, 0, (0, 0), false, []),
  (93, .putfield 15, 2, [3, 3, 9, 0], 0, 0, (0, 0), false, []),
  (96, .iaload, 3, [0], 0, 0, (0, 0), false, []),
  (97, .putfield 26, 2, [3, 6, 9, 0], 0, 0, (0, 0), false, []),
  (100, .return_, 5, [], 0, 0, (0, 0), false, []),
  (101, .aload_n 0, 0, [], 0, 0, (0, 0), true, [1]),
  (102, .getfield 15, 2, [3, 3, 9, 0], 0, 0, (0, 0), false, []),
  (105, .aload_n 0, 0, [], 0, 0, (0, 0), false, []),
  (106, .getfield 35, 2, [3, 0, 9, 2], 0, 0, (0, 0), false, []),
  (109, .getfield 169, 2, [0, 1, 2, 0], 0, 0, (0, 0), false, []),
  (112, .if_icmp .ge 88, 1, [105], 0, 0, (0, 0), false, []),
  (115, .aload_n 0, 0, [], 0, 0, (0, 0), false, []),
  (116, .aload_n 0, 0, [], 0, 0, (0, 0), false, []),
  (117, .getfield 15, 2, [3, 3, 9, 0], 0, 0, (0, 0), false, []),
  (120, .invokevirtual 174, 6, [0, 0, 2, 1, 0, 3], 0, 0, (0, 0), false, []),
  (123, .aload_n 0, 0, [], 0, 0, (0, 0), false, []),
  (124, .getfield 19, 2, [3, 4, 9, 0], 0, 0, (0, 0), false, []),
  (127, .if_icmp .ne 73, 1, [105], 0, 0, (0, 0), false, []),
  (130, .aload_n 0, 0, [], 0, 0, (0, 0), false, []),
  (131, .getfield 35, 2, [3, 0, 9, 2], 0, 0, (0, 0), false, []),
  (134, .getfield 177, 2, [0, 0, 2, 2], 0, 0, (0, 0), false, []),
  (137, .aload_n 0, 0, [], 0, 0, (0, 0), false, []),
  (138, .dup, 0, [], 0, 0, (0, 0), false, []),
  (139, .getfield 15, 2, [3, 3, 9, 0], 0, 0, (0, 0), false, []),
  (142, .dup_x1, 0, [], 0, 0, (0, 0), false, []),
  (143, .iconst 1, 0, [], 1, 0, (0, 0), false, []),
  (144, .iadd, 0, [], 0, 0, (0, 0), false, []),
  (145, .putfield 15, 2, [3, 3, 9, 0], 0, 0, (0, 0), false, []),
  (148, .iaload, 3, [0], 0, 0, (0, 0), false, []),
  (149, .istore_n 1, 0, [], 0, 0, (0, 0), false, []),
  (150, .aload_n 0, 0, [], 0, 0, (0, 0), false, []),
  (151, .getfield 19, 2, [3, 4, 9, 0], 0, 0, (0, 0), false, []),
  (154, .iconst 1, 0, [], 1, 0, (0, 0), false, []),
  (155, .if_icmp .ne 20, 1, [92], 0, 0, (0, 0), false, []),
  (158, .aload_n 0, 0, [], 0, 0, (0, 0), false, []),
  (159, .aload_n 0, 0, [], 0, 0, (0, 0), false, []),
  (160, .getfield 22, 2, [3, 5, 9, 1], 0, 0, (0, 0), false, []),
  (163, .bipush 8, 0, [], 8, 0, (0, 0), false, []),
  (165, .lshl, 0, [], 0, 0, (0, 0), false, []),
  (166, .iload_n 1, 0, [], 0, 0, (0, 0), false, []),
  (167, .i2l, 0, [], 0, 0, (0, 0), false, []),
  (168, .lor, 0, [], 0, 0, (0, 0), false, []),
  (169, .putfield 22, 2, [3, 5, 9, 1], 0, 0, (0, 0), false, []),
  (172, .goto 25, 1, [104], 0, 0, (0, 0), false, []),
  (175, .aload_n 0, 0, [], 0, 0, (0, 0), false, []),
  (176, .sipush 1000, 0, [], 1000, 0, (0, 0), false, []),
  (179, .bipush 10, 0, [], 10, 0, (0, 0), false, []),
  (181, .aload_n 0, 0, [], 0, 0, (0, 0), false, []),
  (182, .getfield 26, 2, [3, 6, 9, 0], 0, 0, (0, 0), false, []),
  (185, .imul, 0, [], 0, 0, (0, 0), false, []),
  (186, .iload_n 1, 0, [], 0, 0, (0, 0), false, []),
  (187, .iadd, 0, [], 0, 0, (0, 0), false, []),
  (188, .bipush 48, 0, [], 48, 0, (0, 0), false, []),
  (190, .isub, 0, [], 0, 0, (0, 0), false, []),
  (191, .invokestatic 180, 13, [1], 0, 0, (0, 0), false, []),
  (194, .putfield 26, 2, [3, 6, 9, 0], 0, 0, (0, 0), false, []),
  (197, .goto (-96), 1, [53], 0, 0, (0, 0), false, []),
  (200, .aload_n 0, 0, [], 0, 0, (0, 0), false, []),
  (201, .getfield 15, 2, [3, 3, 9, 0], 0, 0, (0, 0), false, []),
  (204, .aload_n 0, 0, [], 0, 0, (0, 0), false, []),
  (205, .getfield 29, 2, [3, 7, 9, 0], 0, 0, (0, 0), false, []),
  (208, .isub, 0, [], 0, 0, (0, 0), false, []),
  (209, .bipush 6, 0, [], 6, 0, (0, 0), false, []),
  (211, .if_icmp .le 8, 1, [115], 0, 0, (0, 0), false, []),
  (214, .aload_n 0, 0, [], 0, 0, (0, 0), false, []),
  (215, .lconst 0, 0, [], 0, 0, (0, 0), false, []),
  (216, .putfield 22, 2, [3, 5, 9, 1], 0, 0, (0, 0), false, []),
  (219, .return_, 5, [], 0, 0, (0, 0), false, [])]
def eX3_nextToken : List zm_M := [mX3_typeAt]
noncomputable def vX3_nextToken : List (zm_M × zm_S) := [(mX3_typeAt, sX3_typeAt)]
noncomputable def sX3_nextToken : zm_S := zsem vX3_nextToken rX3_nextToken 2
set_option maxRecDepth 100000 in
theorem aX3_nextToken : zall RX3 mX3_nextToken eX3_nextToken rX3_nextToken = true := by decide +kernel
set_option maxRecDepth 100000 in
theorem wX3_nextToken : ∀ w ∈ zwds RX3 mX3_nextToken eX3_nextToken rX3_nextToken, w ∈ gT := zwd_of [795, 792, 81, 795, 838, 840, 12, 60, 841, 795, 795, 795, 799, 799, 838, 840, 12, 60, 841, 796, 797, 798, 796, 792, 78, 795, 795, 798, 795, 792, 81, 795, 838, 840, 12, 60, 841, 796, 792, 78, 795, 795, 796, 797, 797, 798, 842, 537, 48, 538, 798, 795, 799, 797] (by decide +kernel) (by decide +kernel) (z7_no (by decide +kernel))
set_option maxRecDepth 100000 in
theorem xX3_nextToken : ∀ w ∈ zwxs RX3 mX3_nextToken eX3_nextToken rX3_nextToken, zspc w = true ∧ w ∈ lw_tbl := by decide +kernel
theorem tX3_nextToken {sc : Nat × (Nat → Int32)} {l : Launch} (hlt : l.stackTraces = false) : MetA sc l mX3_nextToken (sX3_nextToken) := zmet (M := mX3_nextToken) (own := RX3) (envM := eX3_nextToken) hlt rfl (by decide +kernel) (by decide +kernel) rfl (fun j q hq => by
  match j, hq with
  | 0, hq => cases hq; exact tX3_typeAt hlt
  | n + 1, hq => cases hq) aX3_nextToken wX3_nextToken xX3_nextToken rfl
def mX3_isWord : zm_M := (yX3_isWord, cX3_isWord, 3, (some .boolean), (0, 0, 0, 0), 1, [], (0, 0))
set_option maxRecDepth 100000 in
def rX3_isWord : List zm_R := [(0, .aload_n 0, 0, [], 0, 0, (0, 0), false, []),
  (1, .getfield 19, 2, [3, 4, 9, 0], 0, 0, (0, 0), false, []),
  (4, .iconst 1, 0, [], 1, 0, (0, 0), false, []),
  (5, .if_icmp .ne 16, 1, [11], 0, 0, (0, 0), false, []),
  (8, .aload_n 0, 0, [], 0, 0, (0, 0), false, []),
  (9, .getfield 22, 2, [3, 5, 9, 1], 0, 0, (0, 0), false, []),
  (12, .lload_n 1, 0, [], 0, 0, (0, 0), false, []),
  (13, .lcmp, 0, [], 0, 0, (0, 0), false, []),
  (14, .ifCond .ne 7, 1, [11], 0, 0, (0, 0), false, []),
  (17, .iconst 1, 0, [], 1, 0, (0, 0), false, []),
  (18, .goto 4, 1, [12], 0, 0, (0, 0), false, []),
  (21, .iconst 0, 0, [], 0, 0, (0, 0), false, []),
  (22, .ireturn, 5, [1], 0, 0, (0, 0), false, [])]
def eX3_isWord : List zm_M := []
noncomputable def vX3_isWord : List (zm_M × zm_S) := []
noncomputable def sX3_isWord : zm_S := zsem vX3_isWord rX3_isWord 3
set_option maxRecDepth 100000 in
theorem aX3_isWord : zall RX3 mX3_isWord eX3_isWord rX3_isWord = true := by decide +kernel
set_option maxRecDepth 100000 in
theorem wX3_isWord : ∀ w ∈ zwds RX3 mX3_isWord eX3_isWord rX3_isWord, w ∈ gT := zwd_of [796, 797] (by decide +kernel) (by decide +kernel) (z7_no (by decide +kernel))
set_option maxRecDepth 100000 in
theorem xX3_isWord : ∀ w ∈ zwxs RX3 mX3_isWord eX3_isWord rX3_isWord, zspc w = true ∧ w ∈ lw_tbl := by decide +kernel
theorem tX3_isWord {sc : Nat × (Nat → Int32)} {l : Launch} (hlt : l.stackTraces = false) : MetA sc l mX3_isWord (sX3_isWord) := zmet (M := mX3_isWord) (own := RX3) (envM := eX3_isWord) hlt rfl (by decide +kernel) (by decide +kernel) rfl (fun j q hq => by cases hq) aX3_isWord wX3_isWord xX3_isWord rfl
def mX3_fail : zm_M := (yX3_fail, cX3_fail, 2, (some .boolean), (0, 0, 0, 0), 1, [], (0, 0))
set_option maxRecDepth 100000 in
def rX3_fail : List zm_R := [(0, .aload_n 0, 0, [], 0, 0, (0, 0), false, []),
  (1, .iload_n 1, 0, [], 0, 0, (0, 0), false, []),
  (2, .putfield 32, 2, [3, 8, 9, 0], 0, 0, (0, 0), false, []),
  (5, .iconst 0, 0, [], 0, 0, (0, 0), false, []),
  (6, .ireturn, 5, [1], 0, 0, (0, 0), false, [])]
def eX3_fail : List zm_M := []
noncomputable def vX3_fail : List (zm_M × zm_S) := []
noncomputable def sX3_fail : zm_S := zsem vX3_fail rX3_fail 2
set_option maxRecDepth 100000 in
theorem aX3_fail : zall RX3 mX3_fail eX3_fail rX3_fail = true := by decide +kernel
set_option maxRecDepth 100000 in
theorem wX3_fail : ∀ w ∈ zwds RX3 mX3_fail eX3_fail rX3_fail, w ∈ gT := zwd_of [801] (by decide +kernel) (by decide +kernel) (z7_no (by decide +kernel))
set_option maxRecDepth 100000 in
theorem xX3_fail : ∀ w ∈ zwxs RX3 mX3_fail eX3_fail rX3_fail, zspc w = true ∧ w ∈ lw_tbl := by decide +kernel
theorem tX3_fail {sc : Nat × (Nat → Int32)} {l : Launch} (hlt : l.stackTraces = false) : MetA sc l mX3_fail (sX3_fail) := zmet (M := mX3_fail) (own := RX3) (envM := eX3_fail) hlt rfl (by decide +kernel) (by decide +kernel) rfl (fun j q hq => by cases hq) aX3_fail wX3_fail xX3_fail rfl
def mX3_isKeyword : zm_M := (yX3_isKeyword, cX3_isKeyword, 1, (some .boolean), (0, 0, 0, 0), 0, [], (0, 0))
set_option maxRecDepth 100000 in
def rX3_isKeyword : List zm_R := [(0, .aload_n 0, 0, [], 0, 0, (0, 0), false, []),
  (1, .getfield 22, 2, [3, 5, 9, 1], 0, 0, (0, 0), false, []),
  (4, .ldc2_w 55, 9, [1], 0, 1919905645, (0, 0), false, []),
  (7, .lcmp, 0, [], 0, 0, (0, 0), false, []),
  (8, .ifCond .eq 80, 1, [40], 0, 0, (0, 0), false, []),
  (11, .aload_n 0, 0, [], 0, 0, (0, 0), false, []),
  (12, .getfield 22, 2, [3, 5, 9, 1], 0, 0, (0, 0), false, []),
  (15, .ldc2_w 105, 9, [1], 0, 7038329, (0, 0), false, []),
  (18, .lcmp, 0, [], 0, 0, (0, 0), false, []),
  (19, .ifCond .eq 69, 1, [40], 0, 0, (0, 0), false, []),
  (22, .aload_n 0, 0, [], 0, 0, (0, 0), false, []),
  (23, .getfield 22, 2, [3, 5, 9, 1], 0, 0, (0, 0), false, []),
  (26, .ldc2_w 121, 9, [1], 0, 427070942835, (0, 0), false, []),
  (29, .lcmp, 0, [], 0, 0, (0, 0), false, []),
  (30, .ifCond .eq 58, 1, [40], 0, 0, (0, 0), false, []),
  (33, .aload_n 0, 0, [], 0, 0, (0, 0), false, []),
  (34, .getfield 22, 2, [3, 5, 9, 1], 0, 0, (0, 0), false, []),
  (37, .ldc2_w 64, 9, [1], 0, 1685024626, (0, 0), false, []),
  (40, .lcmp, 0, [], 0, 0, (0, 0), false, []),
  (41, .ifCond .eq 47, 1, [40], 0, 0, (0, 0), false, []),
  (44, .aload_n 0, 0, [], 0, 0, (0, 0), false, []),
  (45, .getfield 22, 2, [3, 5, 9, 1], 0, 0, (0, 0), false, []),
  (48, .ldc2_w 143, 9, [1], 0, 1953459308, (0, 0), false, []),
  (51, .lcmp, 0, [], 0, 0, (0, 0), false, []),
  (52, .ifCond .eq 36, 1, [40], 0, 0, (0, 0), false, []),
  (55, .aload_n 0, 0, [], 0, 0, (0, 0), false, []),
  (56, .getfield 22, 2, [3, 5, 9, 1], 0, 0, (0, 0), false, []),
  (59, .ldc2_w 153, 9, [1], 0, 122519939408249, (0, 0), false, []),
  (62, .lcmp, 0, [], 0, 0, (0, 0), false, []),
  (63, .ifCond .eq 25, 1, [40], 0, 0, (0, 0), false, []),
  (66, .aload_n 0, 0, [], 0, 0, (0, 0), false, []),
  (67, .getfield 22, 2, [3, 5, 9, 1], 0, 0, (0, 0), false, []),
  (70, .ldc2_w 69, 9, [1], 0, 495873782388, (0, 0), false, []),
  (73, .lcmp, 0, [], 0, 0, (0, 0), false, []),
  (74, .ifCond .eq 14, 1, [40], 0, 0, (0, 0), false, []),
  (77, .aload_n 0, 0, [], 0, 0, (0, 0), false, []),
  (78, .getfield 22, 2, [3, 5, 9, 1], 0, 0, (0, 0), false, []),
  (81, .ldc2_w 74, 9, [1], 0, 6647396, (0, 0), false, []),
  (84, .lcmp, 0, [], 0, 0, (0, 0), false, []),
  (85, .ifCond .ne 7, 1, [42], 0, 0, (0, 0), false, []),
  (88, .iconst 1, 0, [], 1, 0, (0, 0), false, []),
  (89, .goto 4, 1, [43], 0, 0, (0, 0), false, []),
  (92, .iconst 0, 0, [], 0, 0, (0, 0), false, []),
  (93, .ireturn, 5, [1], 0, 0, (0, 0), false, [])]
def eX3_isKeyword : List zm_M := []
noncomputable def vX3_isKeyword : List (zm_M × zm_S) := []
noncomputable def sX3_isKeyword : zm_S := zsem vX3_isKeyword rX3_isKeyword 1
set_option maxRecDepth 100000 in
theorem aX3_isKeyword : zall RX3 mX3_isKeyword eX3_isKeyword rX3_isKeyword = true := by decide +kernel
set_option maxRecDepth 100000 in
theorem wX3_isKeyword : ∀ w ∈ zwds RX3 mX3_isKeyword eX3_isKeyword rX3_isKeyword, w ∈ gT := zwd_of [797, 847, 797, 868, 797, 869, 797, 870, 797, 871, 797, 872, 797, 873, 797, 874] (by decide +kernel) (by decide +kernel) (z7_no (by decide +kernel))
set_option maxRecDepth 100000 in
theorem xX3_isKeyword : ∀ w ∈ zwxs RX3 mX3_isKeyword eX3_isKeyword rX3_isKeyword, zspc w = true ∧ w ∈ lw_tbl := by decide +kernel
theorem tX3_isKeyword {sc : Nat × (Nat → Int32)} {l : Launch} (hlt : l.stackTraces = false) : MetA sc l mX3_isKeyword (sX3_isKeyword) := zmet (M := mX3_isKeyword) (own := RX3) (envM := eX3_isKeyword) hlt rfl (by decide +kernel) (by decide +kernel) rfl (fun j q hq => by cases hq) aX3_isKeyword wX3_isKeyword xX3_isKeyword rfl
def mX3_isName : zm_M := (yX3_isName, cX3_isName, 1, (some .boolean), (1, 0, 0, 20), 0, [], (0, 0))
set_option maxRecDepth 100000 in
def rX3_isName : List zm_R := [(0, .aload_n 0, 0, [], 0, 0, (0, 0), false, []),
  (1, .getfield 19, 2, [3, 4, 9, 0], 0, 0, (0, 0), false, []),
  (4, .iconst 1, 0, [], 1, 0, (0, 0), false, []),
  (5, .if_icmp .ne 23, 1, [14], 0, 0, (0, 0), false, []),
  (8, .aload_n 0, 0, [], 0, 0, (0, 0), false, []),
  (9, .getfield 22, 2, [3, 5, 9, 1], 0, 0, (0, 0), false, []),
  (12, .lconst 0, 0, [], 0, 0, (0, 0), false, []),
  (13, .lcmp, 0, [], 0, 0, (0, 0), false, []),
  (14, .ifCond .eq 14, 1, [14], 0, 0, (0, 0), false, []),
  (17, .aload_n 0, 0, [], 0, 0, (0, 0), false, []),
  (18, .invokevirtual 166, 6, [0, 0, 1, 1, 0, 3], 0, 0, (0, 0), false, []),
  (21, .ifCond .ne 7, 1, [14], 0, 0, (0, 0), false, []),
  (24, .iconst 1, 0, [], 1, 0, (0, 0), false, []),
  (25, .goto 4, 1, [15], 0, 0, (0, 0), false, []),
  (28, .iconst 0, 0, [], 0, 0, (0, 0), false, []),
  (29, .ireturn, 5, [1], 0, 0, (0, 0), false, [])]
def eX3_isName : List zm_M := [mX3_isKeyword]
noncomputable def vX3_isName : List (zm_M × zm_S) := [(mX3_isKeyword, sX3_isKeyword)]
noncomputable def sX3_isName : zm_S := zsem vX3_isName rX3_isName 1
set_option maxRecDepth 100000 in
theorem aX3_isName : zall RX3 mX3_isName eX3_isName rX3_isName = true := by decide +kernel
set_option maxRecDepth 100000 in
theorem wX3_isName : ∀ w ∈ zwds RX3 mX3_isName eX3_isName rX3_isName, w ∈ gT := zwd_of [796, 797, 864, 866, 18, 60, 867] (by decide +kernel) (by decide +kernel) (z7_no (by decide +kernel))
set_option maxRecDepth 100000 in
theorem xX3_isName : ∀ w ∈ zwxs RX3 mX3_isName eX3_isName rX3_isName, zspc w = true ∧ w ∈ lw_tbl := by decide +kernel
theorem tX3_isName {sc : Nat × (Nat → Int32)} {l : Launch} (hlt : l.stackTraces = false) : MetA sc l mX3_isName (sX3_isName) := zmet (M := mX3_isName) (own := RX3) (envM := eX3_isName) hlt rfl (by decide +kernel) (by decide +kernel) rfl (fun j q hq => by
  match j, hq with
  | 0, hq => cases hq; exact tX3_isKeyword hlt
  | n + 1, hq => cases hq) aX3_isName wX3_isName xX3_isName rfl
def mX3_toldRoom : zm_M := (yX3_toldRoom, cX3_toldRoom, 2, (some .int), (2, 0, 0, 40), 0, [], (0, 0))
set_option maxRecDepth 100000 in
def rX3_toldRoom : List zm_R := [(0, .aload_n 0, 0, [], 0, 0, (0, 0), false, []),
  (1, .invokevirtual 86, 6, [0, 0, 1, 1, 0, 3], 0, 0, (0, 0), false, []),
  (4, .ifCond .eq 17, 1, [9], 0, 0, (0, 0), false, []),
  (7, .aload_n 0, 0, [], 0, 0, (0, 0), false, []),
  (8, .getfield 39, 2, [3, 1, 9, 2], 0, 0, (0, 0), false, []),
  (11, .aload_n 0, 0, [], 0, 0, (0, 0), false, []),
  (12, .getfield 22, 2, [3, 5, 9, 1], 0, 0, (0, 0), false, []),
  (15, .invokevirtual 89, 6, [0, 2, 2, 1, 0, 2], 0, 0, (0, 0), false, []),
  (18, .goto 4, 1, [10], 0, 0, (0, 0), false, []),
  (21, .iconst (-1), 0, [], (-1), 0, (0, 0), false, []),
  (22, .istore_n 1, 0, [], 0, 0, (0, 0), false, []),
  (23, .iload_n 1, 0, [], 0, 0, (0, 0), false, []),
  (24, .iconst (-1), 0, [], (-1), 0, (0, 0), false, []),
  (25, .if_icmp .ne 20, 1, [23], 0, 0, (0, 0), false, []),
  (28, .aload_n 0, 0, [], 0, 0, (0, 0), false, []),
  (29, .aload_n 0, 0, [], 0, 0, (0, 0), false, []),
  (30, .invokevirtual 86, 6, [0, 0, 1, 1, 0, 3], 0, 0, (0, 0), false, []),
  (33, .ifCond .eq 7, 1, [20], 0, 0, (0, 0), false, []),
  (36, .iconst 4, 0, [], 4, 0, (0, 0), false, []),
  (37, .goto 4, 1, [21], 0, 0, (0, 0), false, []),
  (40, .iconst 1, 0, [], 1, 0, (0, 0), false, []),
  (41, .invokevirtual 79, 6, [0, 1, 2, 1, 0, 3], 0, 0, (0, 0), false, []),
  (44, .pop, 0, [], 0, 0, (0, 0), false, []),
  (45, .iload_n 1, 0, [], 0, 0, (0, 0), false, []),
  (46, .ireturn, 5, [0], 0, 0, (0, 0), false, [])]
def eX3_toldRoom : List zm_M := [mX3_isName, mX3_fail, mX2_roomNamed]
noncomputable def vX3_toldRoom : List (zm_M × zm_S) := [(mX3_isName, sX3_isName), (mX3_fail, sX3_fail), (mX2_roomNamed, sX2_roomNamed)]
noncomputable def sX3_toldRoom : zm_S := zsem vX3_toldRoom rX3_toldRoom 2
set_option maxRecDepth 100000 in
theorem aX3_toldRoom : zall RX3 mX3_toldRoom eX3_toldRoom rX3_toldRoom = true := by decide +kernel
set_option maxRecDepth 100000 in
theorem wX3_toldRoom : ∀ w ∈ zwds RX3 mX3_toldRoom eX3_toldRoom rX3_toldRoom, w ∈ gT := zwd_of [860, 862, 17, 60, 863, 793, 797, 875, 876, 877, 40, 878, 860, 862, 17, 60, 863, 856, 858, 16, 60, 859] (by decide +kernel) (by decide +kernel) (z7_no (by decide +kernel))
set_option maxRecDepth 100000 in
theorem xX3_toldRoom : ∀ w ∈ zwxs RX3 mX3_toldRoom eX3_toldRoom rX3_toldRoom, zspc w = true ∧ w ∈ lw_tbl := by decide +kernel
theorem tX3_toldRoom {sc : Nat × (Nat → Int32)} {l : Launch} (hlt : l.stackTraces = false) : MetA sc l mX3_toldRoom (sX3_toldRoom) := zmet (M := mX3_toldRoom) (own := RX3) (envM := eX3_toldRoom) hlt rfl (by decide +kernel) (by decide +kernel) rfl (fun j q hq => by
  match j, hq with
  | 0, hq => cases hq; exact tX3_isName hlt
  | 1, hq => cases hq; exact tX3_fail hlt
  | 2, hq => cases hq; exact tX2_roomNamed hlt
  | n + 3, hq => cases hq) aX3_toldRoom wX3_toldRoom xX3_toldRoom rfl
def mX3_isSymbol : zm_M := (yX3_isSymbol, cX3_isSymbol, 2, (some .boolean), (0, 0, 0, 0), 1, [], (0, 0))
set_option maxRecDepth 100000 in
def rX3_isSymbol : List zm_R := [(0, .aload_n 0, 0, [], 0, 0, (0, 0), false, []),
  (1, .getfield 19, 2, [3, 4, 9, 0], 0, 0, (0, 0), false, []),
  (4, .iconst 3, 0, [], 3, 0, (0, 0), false, []),
  (5, .if_icmp .ne 15, 1, [10], 0, 0, (0, 0), false, []),
  (8, .aload_n 0, 0, [], 0, 0, (0, 0), false, []),
  (9, .getfield 26, 2, [3, 6, 9, 0], 0, 0, (0, 0), false, []),
  (12, .iload_n 1, 0, [], 0, 0, (0, 0), false, []),
  (13, .if_icmp .ne 7, 1, [10], 0, 0, (0, 0), false, []),
  (16, .iconst 1, 0, [], 1, 0, (0, 0), false, []),
  (17, .goto 4, 1, [11], 0, 0, (0, 0), false, []),
  (20, .iconst 0, 0, [], 0, 0, (0, 0), false, []),
  (21, .ireturn, 5, [1], 0, 0, (0, 0), false, [])]
def eX3_isSymbol : List zm_M := []
noncomputable def vX3_isSymbol : List (zm_M × zm_S) := []
noncomputable def sX3_isSymbol : zm_S := zsem vX3_isSymbol rX3_isSymbol 2
set_option maxRecDepth 100000 in
theorem aX3_isSymbol : zall RX3 mX3_isSymbol eX3_isSymbol rX3_isSymbol = true := by decide +kernel
set_option maxRecDepth 100000 in
theorem wX3_isSymbol : ∀ w ∈ zwds RX3 mX3_isSymbol eX3_isSymbol rX3_isSymbol, w ∈ gT := zwd_of [796, 798] (by decide +kernel) (by decide +kernel) (z7_no (by decide +kernel))
set_option maxRecDepth 100000 in
theorem xX3_isSymbol : ∀ w ∈ zwxs RX3 mX3_isSymbol eX3_isSymbol rX3_isSymbol, zspc w = true ∧ w ∈ lw_tbl := by decide +kernel
theorem tX3_isSymbol {sc : Nat × (Nat → Int32)} {l : Launch} (hlt : l.stackTraces = false) : MetA sc l mX3_isSymbol (sX3_isSymbol) := zmet (M := mX3_isSymbol) (own := RX3) (envM := eX3_isSymbol) hlt rfl (by decide +kernel) (by decide +kernel) rfl (fun j q hq => by cases hq) aX3_isSymbol wX3_isSymbol xX3_isSymbol rfl
def mX3_readSemicolon : zm_M := (yX3_readSemicolon, cX3_readSemicolon, 1, (some .boolean), (2, 0, 0, 44), 0, [], (0, 0))
set_option maxRecDepth 100000 in
def rX3_readSemicolon : List zm_R := [(0, .aload_n 0, 0, [], 0, 0, (0, 0), false, []),
  (1, .bipush 59, 0, [], 59, 0, (0, 0), false, []),
  (3, .invokevirtual 118, 6, [0, 0, 2, 1, 0, 3], 0, 0, (0, 0), false, []),
  (6, .ifCond .ne 9, 1, [8], 0, 0, (0, 0), false, []),
  (9, .aload_n 0, 0, [], 0, 0, (0, 0), false, []),
  (10, .iconst 1, 0, [], 1, 0, (0, 0), false, []),
  (11, .invokevirtual 79, 6, [0, 2, 2, 1, 0, 3], 0, 0, (0, 0), false, []),
  (14, .ireturn, 5, [1], 0, 0, (0, 0), false, []),
  (15, .aload_n 0, 0, [], 0, 0, (0, 0), false, []),
  (16, .invokevirtual 48, 6, [0, 1, 1, 0, 0, 3], 0, 0, (0, 0), false, []),
  (19, .iconst 1, 0, [], 1, 0, (0, 0), false, []),
  (20, .ireturn, 5, [1], 0, 0, (0, 0), false, [])]
def eX3_readSemicolon : List zm_M := [mX3_isSymbol, mX3_nextToken, mX3_fail]
noncomputable def vX3_readSemicolon : List (zm_M × zm_S) := [(mX3_isSymbol, sX3_isSymbol), (mX3_nextToken, sX3_nextToken), (mX3_fail, sX3_fail)]
noncomputable def sX3_readSemicolon : zm_S := zsem vX3_readSemicolon rX3_readSemicolon 1
set_option maxRecDepth 100000 in
theorem aX3_readSemicolon : zall RX3 mX3_readSemicolon eX3_readSemicolon rX3_readSemicolon = true := by decide +kernel
set_option maxRecDepth 100000 in
theorem wX3_readSemicolon : ∀ w ∈ zwds RX3 mX3_readSemicolon eX3_readSemicolon rX3_readSemicolon, w ∈ gT := zwd_of [892, 894, 21, 60, 895, 856, 858, 16, 60, 859, 834, 836, 11, 60, 837] (by decide +kernel) (by decide +kernel) (z7_no (by decide +kernel))
set_option maxRecDepth 100000 in
theorem xX3_readSemicolon : ∀ w ∈ zwxs RX3 mX3_readSemicolon eX3_readSemicolon rX3_readSemicolon, zspc w = true ∧ w ∈ lw_tbl := by decide +kernel
theorem tX3_readSemicolon {sc : Nat × (Nat → Int32)} {l : Launch} (hlt : l.stackTraces = false) : MetA sc l mX3_readSemicolon (sX3_readSemicolon) := zmet (M := mX3_readSemicolon) (own := RX3) (envM := eX3_readSemicolon) hlt rfl (by decide +kernel) (by decide +kernel) rfl (fun j q hq => by
  match j, hq with
  | 0, hq => cases hq; exact tX3_isSymbol hlt
  | 1, hq => cases hq; exact tX3_nextToken hlt
  | 2, hq => cases hq; exact tX3_fail hlt
  | n + 3, hq => cases hq) aX3_readSemicolon wX3_readSemicolon xX3_readSemicolon rfl
def mX3_readEnd : zm_M := (yX3_readEnd, cX3_readEnd, 2, (some .boolean), (3, 0, 0, 64), 0, [], (0, 0))
set_option maxRecDepth 100000 in
def rX3_readEnd : List zm_R := [(0, .aload_n 0, 0, [], 0, 0, (0, 0), false, []),
  (1, .getfield 39, 2, [3, 1, 9, 2], 0, 0, (0, 0), false, []),
  (4, .getfield 163, 2, [2, 11, 15, 0], 0, 0, (0, 0), false, []),
  (7, .iconst (-1), 0, [], (-1), 0, (0, 0), false, []),
  (8, .if_icmp .eq 9, 1, [9], 0, 0, (0, 0), false, []),
  (11, .aload_n 0, 0, [], 0, 0, (0, 0), false, []),
  (12, .iconst 5, 0, [], 5, 0, (0, 0), false, []),
  (13, .invokevirtual 79, 6, [0, 3, 2, 1, 0, 3], 0, 0, (0, 0), false, []),
  (16, .ireturn, 5, [1], 0, 0, (0, 0), false, []),
  (17, .aload_n 0, 0, [], 0, 0, (0, 0), false, []),
  (18, .invokevirtual 48, 6, [0, 0, 1, 0, 0, 3], 0, 0, (0, 0), false, []),
  (21, .aload_n 0, 0, [], 0, 0, (0, 0), false, []),
  (22, .invokevirtual 129, 6, [0, 1, 1, 1, 0, 3], 0, 0, (0, 0), false, []),
  (25, .istore_n 1, 0, [], 0, 0, (0, 0), false, []),
  (26, .iload_n 1, 0, [], 0, 0, (0, 0), false, []),
  (27, .iconst (-1), 0, [], (-1), 0, (0, 0), false, []),
  (28, .if_icmp .ne 5, 1, [19], 0, 0, (0, 0), false, []),
  (31, .iconst 0, 0, [], 0, 0, (0, 0), false, []),
  (32, .ireturn, 5, [1], 0, 0, (0, 0), false, []),
  (33, .aload_n 0, 0, [], 0, 0, (0, 0), false, []),
  (34, .getfield 39, 2, [3, 1, 9, 2], 0, 0, (0, 0), false, []),
  (37, .iload_n 1, 0, [], 0, 0, (0, 0), false, []),
  (38, .putfield 163, 2, [2, 11, 15, 0], 0, 0, (0, 0), false, []),
  (41, .aload_n 0, 0, [], 0, 0, (0, 0), false, []),
  (42, .invokevirtual 48, 6, [0, 0, 1, 0, 0, 3], 0, 0, (0, 0), false, []),
  (45, .aload_n 0, 0, [], 0, 0, (0, 0), false, []),
  (46, .invokevirtual 102, 6, [0, 2, 1, 1, 0, 3], 0, 0, (0, 0), false, []),
  (49, .ireturn, 5, [1], 0, 0, (0, 0), false, [])]
def eX3_readEnd : List zm_M := [mX3_nextToken, mX3_toldRoom, mX3_readSemicolon, mX3_fail]
noncomputable def vX3_readEnd : List (zm_M × zm_S) := [(mX3_nextToken, sX3_nextToken), (mX3_toldRoom, sX3_toldRoom), (mX3_readSemicolon, sX3_readSemicolon), (mX3_fail, sX3_fail)]
noncomputable def sX3_readEnd : zm_S := zsem vX3_readEnd rX3_readEnd 2
set_option maxRecDepth 100000 in
theorem aX3_readEnd : zall RX3 mX3_readEnd eX3_readEnd rX3_readEnd = true := by decide +kernel
set_option maxRecDepth 100000 in
theorem wX3_readEnd : ∀ w ∈ zwds RX3 mX3_readEnd eX3_readEnd rX3_readEnd, w ∈ gT := zwd_of [793, 123, 856, 858, 16, 60, 859, 834, 836, 11, 60, 837, 908, 910, 25, 60, 911, 793, 123, 834, 836, 11, 60, 837, 900, 902, 23, 60, 903] (by decide +kernel) (by decide +kernel) (z7_no (by decide +kernel))
set_option maxRecDepth 100000 in
theorem xX3_readEnd : ∀ w ∈ zwxs RX3 mX3_readEnd eX3_readEnd rX3_readEnd, zspc w = true ∧ w ∈ lw_tbl := by decide +kernel
theorem tX3_readEnd {sc : Nat × (Nat → Int32)} {l : Launch} (hlt : l.stackTraces = false) : MetA sc l mX3_readEnd (sX3_readEnd) := zmet (M := mX3_readEnd) (own := RX3) (envM := eX3_readEnd) hlt rfl (by decide +kernel) (by decide +kernel) rfl (fun j q hq => by
  match j, hq with
  | 0, hq => cases hq; exact tX3_nextToken hlt
  | 1, hq => cases hq; exact tX3_toldRoom hlt
  | 2, hq => cases hq; exact tX3_readSemicolon hlt
  | 3, hq => cases hq; exact tX3_fail hlt
  | n + 4, hq => cases hq) aX3_readEnd wX3_readEnd xX3_readEnd rfl
def mX3_readStart : zm_M := (yX3_readStart, cX3_readStart, 2, (some .boolean), (3, 0, 0, 64), 0, [], (0, 0))
set_option maxRecDepth 100000 in
def rX3_readStart : List zm_R := [(0, .aload_n 0, 0, [], 0, 0, (0, 0), false, []),
  (1, .getfield 9, 2, [3, 2, 9, 3], 0, 0, (0, 0), false, []),
  (4, .ifCond .eq 9, 1, [7], 0, 0, (0, 0), false, []),
  (7, .aload_n 0, 0, [], 0, 0, (0, 0), false, []),
  (8, .iconst 5, 0, [], 5, 0, (0, 0), false, []),
  (9, .invokevirtual 79, 6, [0, 4, 2, 1, 0, 3], 0, 0, (0, 0), false, []),
  (12, .ireturn, 5, [1], 0, 0, (0, 0), false, []),
  (13, .aload_n 0, 0, [], 0, 0, (0, 0), false, []),
  (14, .invokevirtual 48, 6, [0, 0, 1, 0, 0, 3], 0, 0, (0, 0), false, []),
  (17, .aload_n 0, 0, [], 0, 0, (0, 0), false, []),
  (18, .invokevirtual 129, 6, [0, 1, 1, 1, 0, 3], 0, 0, (0, 0), false, []),
  (21, .istore_n 1, 0, [], 0, 0, (0, 0), false, []),
  (22, .iload_n 1, 0, [], 0, 0, (0, 0), false, []),
  (23, .iconst (-1), 0, [], (-1), 0, (0, 0), false, []),
  (24, .if_icmp .ne 5, 1, [17], 0, 0, (0, 0), false, []),
  (27, .iconst 0, 0, [], 0, 0, (0, 0), false, []),
  (28, .ireturn, 5, [1], 0, 0, (0, 0), false, []),
  (29, .aload_n 0, 0, [], 0, 0, (0, 0), false, []),
  (30, .iconst 1, 0, [], 1, 0, (0, 0), false, []),
  (31, .putfield 9, 2, [3, 2, 9, 3], 0, 0, (0, 0), false, []),
  (34, .aload_n 0, 0, [], 0, 0, (0, 0), false, []),
  (35, .getfield 39, 2, [3, 1, 9, 2], 0, 0, (0, 0), false, []),
  (38, .iload_n 1, 0, [], 0, 0, (0, 0), false, []),
  (39, .invokevirtual 159, 6, [0, 2, 2, 0, 0, 2], 0, 0, (0, 0), false, []),
  (42, .aload_n 0, 0, [], 0, 0, (0, 0), false, []),
  (43, .invokevirtual 48, 6, [0, 0, 1, 0, 0, 3], 0, 0, (0, 0), false, []),
  (46, .aload_n 0, 0, [], 0, 0, (0, 0), false, []),
  (47, .invokevirtual 102, 6, [0, 3, 1, 1, 0, 3], 0, 0, (0, 0), false, []),
  (50, .ireturn, 5, [1], 0, 0, (0, 0), false, [])]
def eX3_readStart : List zm_M := [mX3_nextToken, mX3_toldRoom, mX2_beginAt, mX3_readSemicolon, mX3_fail]
noncomputable def vX3_readStart : List (zm_M × zm_S) := [(mX3_nextToken, sX3_nextToken), (mX3_toldRoom, sX3_toldRoom), (mX2_beginAt, sX2_beginAt), (mX3_readSemicolon, sX3_readSemicolon), (mX3_fail, sX3_fail)]
noncomputable def sX3_readStart : zm_S := zsem vX3_readStart rX3_readStart 2
set_option maxRecDepth 100000 in
theorem aX3_readStart : zall RX3 mX3_readStart eX3_readStart rX3_readStart = true := by decide +kernel
set_option maxRecDepth 100000 in
theorem wX3_readStart : ∀ w ∈ zwds RX3 mX3_readStart eX3_readStart rX3_readStart, w ∈ gT := zwd_of [794, 856, 858, 16, 60, 859, 834, 836, 11, 60, 837, 908, 910, 25, 60, 911, 794, 793, 936, 831, 832, 40, 833, 834, 836, 11, 60, 837, 900, 902, 23, 60, 903] (by decide +kernel) (by decide +kernel) (z7_no (by decide +kernel))
set_option maxRecDepth 100000 in
theorem xX3_readStart : ∀ w ∈ zwxs RX3 mX3_readStart eX3_readStart rX3_readStart, zspc w = true ∧ w ∈ lw_tbl := by decide +kernel
theorem tX3_readStart {sc : Nat × (Nat → Int32)} {l : Launch} (hlt : l.stackTraces = false) : MetA sc l mX3_readStart (sX3_readStart) := zmet (M := mX3_readStart) (own := RX3) (envM := eX3_readStart) hlt rfl (by decide +kernel) (by decide +kernel) rfl (fun j q hq => by
  match j, hq with
  | 0, hq => cases hq; exact tX3_nextToken hlt
  | 1, hq => cases hq; exact tX3_toldRoom hlt
  | 2, hq => cases hq; exact tX2_beginAt hlt
  | 3, hq => cases hq; exact tX3_readSemicolon hlt
  | 4, hq => cases hq; exact tX3_fail hlt
  | n + 5, hq => cases hq) aX3_readStart wX3_readStart xX3_readStart rfl
def mX3_fits : zm_M := (yX3_fits, cX3_fits, 2, (some .boolean), (1, 0, 0, 21), 1, [], (0, 0))
set_option maxRecDepth 100000 in
def rX3_fits : List zm_R := [(0, .aload_n 0, 0, [], 0, 0, (0, 0), false, []),
  (1, .getfield 19, 2, [3, 4, 9, 0], 0, 0, (0, 0), false, []),
  (4, .iconst 2, 0, [], 2, 0, (0, 0), false, []),
  (5, .if_icmp .eq 9, 1, [8], 0, 0, (0, 0), false, []),
  (8, .aload_n 0, 0, [], 0, 0, (0, 0), false, []),
  (9, .iconst 1, 0, [], 1, 0, (0, 0), false, []),
  (10, .invokevirtual 79, 6, [0, 0, 2, 1, 0, 3], 0, 0, (0, 0), false, []),
  (13, .ireturn, 5, [1], 0, 0, (0, 0), false, []),
  (14, .aload_n 0, 0, [], 0, 0, (0, 0), false, []),
  (15, .getfield 26, 2, [3, 6, 9, 0], 0, 0, (0, 0), false, []),
  (18, .iload_n 1, 0, [], 0, 0, (0, 0), false, []),
  (19, .if_icmp .le 11, 1, [16], 0, 0, (0, 0), false, []),
  (22, .aload_n 0, 0, [], 0, 0, (0, 0), false, []),
  (23, .iconst 2, 0, [], 2, 0, (0, 0), false, []),
  (24, .invokevirtual 79, 6, [0, 0, 2, 1, 0, 3], 0, 0, (0, 0), false, []),
  (27, .ifCond .eq 7, 1, [18], 0, 0, (0, 0), false, []),
  (30, .iconst 1, 0, [], 1, 0, (0, 0), false, []),
  (31, .goto 4, 1, [19], 0, 0, (0, 0), false, []),
  (34, .iconst 0, 0, [], 0, 0, (0, 0), false, []),
  (35, .ireturn, 5, [1], 0, 0, (0, 0), false, [])]
def eX3_fits : List zm_M := [mX3_fail]
noncomputable def vX3_fits : List (zm_M × zm_S) := [(mX3_fail, sX3_fail)]
noncomputable def sX3_fits : zm_S := zsem vX3_fits rX3_fits 2
set_option maxRecDepth 100000 in
theorem aX3_fits : zall RX3 mX3_fits eX3_fits rX3_fits = true := by decide +kernel
set_option maxRecDepth 100000 in
theorem wX3_fits : ∀ w ∈ zwds RX3 mX3_fits eX3_fits rX3_fits, w ∈ gT := zwd_of [796, 856, 858, 16, 60, 859, 798, 856, 858, 16, 60, 859] (by decide +kernel) (by decide +kernel) (z7_no (by decide +kernel))
set_option maxRecDepth 100000 in
theorem xX3_fits : ∀ w ∈ zwxs RX3 mX3_fits eX3_fits rX3_fits, zspc w = true ∧ w ∈ lw_tbl := by decide +kernel
theorem tX3_fits {sc : Nat × (Nat → Int32)} {l : Launch} (hlt : l.stackTraces = false) : MetA sc l mX3_fits (sX3_fits) := zmet (M := mX3_fits) (own := RX3) (envM := eX3_fits) hlt rfl (by decide +kernel) (by decide +kernel) rfl (fun j q hq => by
  match j, hq with
  | 0, hq => cases hq; exact tX3_fail hlt
  | n + 1, hq => cases hq) aX3_fits wX3_fits xX3_fits rfl
def mX3_readLock : zm_M := (yX3_readLock, cX3_readLock, 3, (some .boolean), (2, 0, 0, 44), 1, [], (0, 0))
set_option maxRecDepth 100000 in
def rX3_readLock : List zm_R := [(0, .aload_n 0, 0, [], 0, 0, (0, 0), false, []),
  (1, .ldc2_w 105, 9, [1], 0, 7038329, (0, 0), false, []),
  (4, .invokevirtual 57, 6, [0, 0, 2, 1, 0, 3], 0, 0, (0, 0), false, []),
  (7, .ifCond .eq 7, 1, [6], 0, 0, (0, 0), false, []),
  (10, .iconst 1, 0, [], 1, 0, (0, 0), false, []),
  (11, .goto 18, 1, [13], 0, 0, (0, 0), false, []),
  (14, .aload_n 0, 0, [], 0, 0, (0, 0), false, []),
  (15, .ldc2_w 143, 9, [1], 0, 1953459308, (0, 0), false, []),
  (18, .invokevirtual 57, 6, [0, 0, 2, 1, 0, 3], 0, 0, (0, 0), false, []),
  (21, .ifCond .eq 7, 1, [12], 0, 0, (0, 0), false, []),
  (24, .iconst 2, 0, [], 2, 0, (0, 0), false, []),
  (25, .goto 4, 1, [13], 0, 0, (0, 0), false, []),
  (28, .iconst 0, 0, [], 0, 0, (0, 0), false, []),
  (29, .istore_n 2, 0, [], 0, 0, (0, 0), false, []),
  (30, .iload_n 2, 0, [], 0, 0, (0, 0), false, []),
  (31, .ifCond .ne 5, 1, [18], 0, 0, (0, 0), false, []),
  (34, .iconst 1, 0, [], 1, 0, (0, 0), false, []),
  (35, .ireturn, 5, [1], 0, 0, (0, 0), false, []),
  (36, .aload_n 0, 0, [], 0, 0, (0, 0), false, []),
  (37, .invokevirtual 48, 6, [0, 1, 1, 0, 0, 3], 0, 0, (0, 0), false, []),
  (40, .aload_n 0, 0, [], 0, 0, (0, 0), false, []),
  (41, .iload_n 2, 0, [], 0, 0, (0, 0), false, []),
  (42, .invokestatic 145, 6, [3, 2, 1, 1, 0, 5], 0, 0, (0, 0), false, []),
  (45, .invokevirtual 107, 6, [0, 3, 2, 1, 0, 3], 0, 0, (0, 0), false, []),
  (48, .ifCond .ne 5, 1, [27], 0, 0, (0, 0), false, []),
  (51, .iconst 0, 0, [], 0, 0, (0, 0), false, []),
  (52, .ireturn, 5, [1], 0, 0, (0, 0), false, []),
  (53, .aload_n 0, 0, [], 0, 0, (0, 0), false, []),
  (54, .getfield 39, 2, [3, 1, 9, 2], 0, 0, (0, 0), false, []),
  (57, .iload_n 1, 0, [], 0, 0, (0, 0), false, []),
  (58, .iload_n 2, 0, [], 0, 0, (0, 0), false, []),
  (59, .aload_n 0, 0, [], 0, 0, (0, 0), false, []),
  (60, .getfield 26, 2, [3, 6, 9, 0], 0, 0, (0, 0), false, []),
  (63, .invokevirtual 149, 6, [0, 4, 4, 0, 0, 2], 0, 0, (0, 0), false, []),
  (66, .aload_n 0, 0, [], 0, 0, (0, 0), false, []),
  (67, .invokevirtual 48, 6, [0, 1, 1, 0, 0, 3], 0, 0, (0, 0), false, []),
  (70, .iconst 1, 0, [], 1, 0, (0, 0), false, []),
  (71, .ireturn, 5, [1], 0, 0, (0, 0), false, [])]
def eX3_readLock : List zm_M := [mX3_isWord, mX3_nextToken, mX5_greatestNumber, mX3_fits, mX2_lock]
noncomputable def vX3_readLock : List (zm_M × zm_S) := [(mX3_isWord, sX3_isWord), (mX3_nextToken, sX3_nextToken), (mX5_greatestNumber, sX5_greatestNumber), (mX3_fits, sX3_fits), (mX2_lock, sX2_lock)]
noncomputable def sX3_readLock : zm_S := zsem vX3_readLock rX3_readLock 3
set_option maxRecDepth 100000 in
theorem aX3_readLock : zall RX3 mX3_readLock eX3_readLock rX3_readLock = true := by decide +kernel
set_option maxRecDepth 100000 in
theorem wX3_readLock : ∀ w ∈ zwds RX3 mX3_readLock eX3_readLock rX3_readLock, w ∈ gT := zwd_of [868, 848, 850, 14, 60, 851, 871, 848, 850, 14, 60, 851, 834, 836, 11, 60, 837, 925, 38, 926, 887, 889, 20, 60, 890, 793, 798, 927, 917, 918, 40, 919, 834, 836, 11, 60, 837] (by decide +kernel) (by decide +kernel) (z7_no (by decide +kernel))
set_option maxRecDepth 100000 in
theorem xX3_readLock : ∀ w ∈ zwxs RX3 mX3_readLock eX3_readLock rX3_readLock, zspc w = true ∧ w ∈ lw_tbl := by decide +kernel
theorem tX3_readLock {sc : Nat × (Nat → Int32)} {l : Launch} (hlt : l.stackTraces = false) : MetA sc l mX3_readLock (sX3_readLock) := zmet (M := mX3_readLock) (own := RX3) (envM := eX3_readLock) hlt rfl (by decide +kernel) (by decide +kernel) rfl (fun j q hq => by
  match j, hq with
  | 0, hq => cases hq; exact tX3_isWord hlt
  | 1, hq => cases hq; exact tX3_nextToken hlt
  | 2, hq => cases hq; exact tX5_greatestNumber hlt
  | 3, hq => cases hq; exact tX3_fits hlt
  | 4, hq => cases hq; exact tX2_lock hlt
  | n + 5, hq => cases hq) aX3_readLock wX3_readLock xX3_readLock rfl
def mX3_readOneway : zm_M := (yX3_readOneway, cX3_readOneway, 2, (some .boolean), (2, 0, 0, 44), 1, [], (0, 0))
set_option maxRecDepth 100000 in
def rX3_readOneway : List zm_R := [(0, .aload_n 0, 0, [], 0, 0, (0, 0), false, []),
  (1, .ldc2_w 153, 9, [1], 0, 122519939408249, (0, 0), false, []),
  (4, .invokevirtual 57, 6, [0, 0, 2, 1, 0, 3], 0, 0, (0, 0), false, []),
  (7, .ifCond .ne 5, 1, [6], 0, 0, (0, 0), false, []),
  (10, .iconst 1, 0, [], 1, 0, (0, 0), false, []),
  (11, .ireturn, 5, [1], 0, 0, (0, 0), false, []),
  (12, .aload_n 0, 0, [], 0, 0, (0, 0), false, []),
  (13, .getfield 39, 2, [3, 1, 9, 2], 0, 0, (0, 0), false, []),
  (16, .getfield 155, 2, [2, 9, 15, 2], 0, 0, (0, 0), false, []),
  (19, .iload_n 1, 0, [], 0, 0, (0, 0), false, []),
  (20, .iconst 1, 0, [], 1, 0, (0, 0), false, []),
  (21, .bastore, 3, [3], 0, 0, (0, 0), false, []),
  (22, .aload_n 0, 0, [], 0, 0, (0, 0), false, []),
  (23, .invokevirtual 48, 6, [0, 1, 1, 0, 0, 3], 0, 0, (0, 0), false, []),
  (26, .iconst 1, 0, [], 1, 0, (0, 0), false, []),
  (27, .ireturn, 5, [1], 0, 0, (0, 0), false, [])]
def eX3_readOneway : List zm_M := [mX3_isWord, mX3_nextToken]
noncomputable def vX3_readOneway : List (zm_M × zm_S) := [(mX3_isWord, sX3_isWord), (mX3_nextToken, sX3_nextToken)]
noncomputable def sX3_readOneway : zm_S := zsem vX3_readOneway rX3_readOneway 2
set_option maxRecDepth 100000 in
theorem aX3_readOneway : zall RX3 mX3_readOneway eX3_readOneway rX3_readOneway = true := by decide +kernel
set_option maxRecDepth 100000 in
theorem wX3_readOneway : ∀ w ∈ zwds RX3 mX3_readOneway eX3_readOneway rX3_readOneway, w ∈ gT := zwd_of [872, 848, 850, 14, 60, 851, 793, 117, 834, 836, 11, 60, 837] (by decide +kernel) (by decide +kernel) (z7_no (by decide +kernel))
set_option maxRecDepth 100000 in
theorem xX3_readOneway : ∀ w ∈ zwxs RX3 mX3_readOneway eX3_readOneway rX3_readOneway, zspc w = true ∧ w ∈ lw_tbl := by decide +kernel
theorem tX3_readOneway {sc : Nat × (Nat → Int32)} {l : Launch} (hlt : l.stackTraces = false) : MetA sc l mX3_readOneway (sX3_readOneway) := zmet (M := mX3_readOneway) (own := RX3) (envM := eX3_readOneway) hlt rfl (by decide +kernel) (by decide +kernel) rfl (fun j q hq => by
  match j, hq with
  | 0, hq => cases hq; exact tX3_isWord hlt
  | 1, hq => cases hq; exact tX3_nextToken hlt
  | n + 2, hq => cases hq) aX3_readOneway wX3_readOneway xX3_readOneway rfl
def mX3_readDoor : zm_M := (yX3_readDoor, cX3_readDoor, 4, (some .boolean), (3, 0, 0, 66), 0, [], (0, 0))
set_option maxRecDepth 100000 in
def rX3_readDoor : List zm_R := [(0, .aload_n 0, 0, [], 0, 0, (0, 0), false, []),
  (1, .getfield 39, 2, [3, 1, 9, 2], 0, 0, (0, 0), false, []),
  (4, .getfield 126, 2, [2, 4, 15, 0], 0, 0, (0, 0), false, []),
  (7, .bipush 20, 0, [], 20, 0, (0, 0), false, []),
  (9, .if_icmp .lt 9, 1, [9], 0, 0, (0, 0), false, []),
  (12, .aload_n 0, 0, [], 0, 0, (0, 0), false, []),
  (13, .iconst 5, 0, [], 5, 0, (0, 0), false, []),
  (14, .invokevirtual 79, 6, [0, 6, 2, 1, 0, 3], 0, 0, (0, 0), false, []),
  (17, .ireturn, 5, [1], 0, 0, (0, 0), false, []),
  (18, .aload_n 0, 0, [], 0, 0, (0, 0), false, []),
  (19, .invokevirtual 48, 6, [0, 0, 1, 0, 0, 3], 0, 0, (0, 0), false, []),
  (22, .aload_n 0, 0, [], 0, 0, (0, 0), false, []),
  (23, .invokevirtual 129, 6, [0, 1, 1, 1, 0, 3], 0, 0, (0, 0), false, []),
  (26, .istore_n 1, 0, [], 0, 0, (0, 0), false, []),
  (27, .iload_n 1, 0, [], 0, 0, (0, 0), false, []),
  (28, .iconst (-1), 0, [], (-1), 0, (0, 0), false, []),
  (29, .if_icmp .ne 5, 1, [19], 0, 0, (0, 0), false, []),
  (32, .iconst 0, 0, [], 0, 0, (0, 0), false, []),
  (33, .ireturn, 5, [1], 0, 0, (0, 0), false, []),
  (34, .aload_n 0, 0, [], 0, 0, (0, 0), false, []),
  (35, .invokevirtual 48, 6, [0, 0, 1, 0, 0, 3], 0, 0, (0, 0), false, []),
  (38, .aload_n 0, 0, [], 0, 0, (0, 0), false, []),
  (39, .invokevirtual 129, 6, [0, 1, 1, 1, 0, 3], 0, 0, (0, 0), false, []),
  (42, .istore_n 2, 0, [], 0, 0, (0, 0), false, []),
  (43, .iload_n 2, 0, [], 0, 0, (0, 0), false, []),
  (44, .iconst (-1), 0, [], (-1), 0, (0, 0), false, []),
  (45, .if_icmp .ne 5, 1, [29], 0, 0, (0, 0), false, []),
  (48, .iconst 0, 0, [], 0, 0, (0, 0), false, []),
  (49, .ireturn, 5, [1], 0, 0, (0, 0), false, []),
  (50, .iload_n 2, 0, [], 0, 0, (0, 0), false, []),
  (51, .iload_n 1, 0, [], 0, 0, (0, 0), false, []),
  (52, .if_icmp .ne 9, 1, [36], 0, 0, (0, 0), false, []),
  (55, .aload_n 0, 0, [], 0, 0, (0, 0), false, []),
  (56, .iconst 3, 0, [], 3, 0, (0, 0), false, []),
  (57, .invokevirtual 79, 6, [0, 6, 2, 1, 0, 3], 0, 0, (0, 0), false, []),
  (60, .ireturn, 5, [1], 0, 0, (0, 0), false, []),
  (61, .aload_n 0, 0, [], 0, 0, (0, 0), false, []),
  (62, .getfield 39, 2, [3, 1, 9, 2], 0, 0, (0, 0), false, []),
  (65, .iload_n 1, 0, [], 0, 0, (0, 0), false, []),
  (66, .iload_n 2, 0, [], 0, 0, (0, 0), false, []),
  (67, .invokevirtual 133, 6, [0, 2, 3, 1, 0, 2], 0, 0, (0, 0), false, []),
  (70, .istore_n 3, 0, [], 0, 0, (0, 0), false, []),
  (71, .aload_n 0, 0, [], 0, 0, (0, 0), false, []),
  (72, .invokevirtual 48, 6, [0, 0, 1, 0, 0, 3], 0, 0, (0, 0), false, []),
  (75, .aload_n 0, 0, [], 0, 0, (0, 0), false, []),
  (76, .iload_n 3, 0, [], 0, 0, (0, 0), false, []),
  (77, .invokevirtual 137, 6, [0, 3, 2, 1, 0, 3], 0, 0, (0, 0), false, []),
  (80, .ifCond .eq 22, 1, [57], 0, 0, (0, 0), false, []),
  (83, .aload_n 0, 0, [], 0, 0, (0, 0), false, []),
  (84, .iload_n 3, 0, [], 0, 0, (0, 0), false, []),
  (85, .invokevirtual 140, 6, [0, 4, 2, 1, 0, 3], 0, 0, (0, 0), false, []),
  (88, .ifCond .eq 14, 1, [57], 0, 0, (0, 0), false, []),
  (91, .aload_n 0, 0, [], 0, 0, (0, 0), false, []),
  (92, .invokevirtual 102, 6, [0, 5, 1, 1, 0, 3], 0, 0, (0, 0), false, []),
  (95, .ifCond .eq 7, 1, [57], 0, 0, (0, 0), false, []),
  (98, .iconst 1, 0, [], 1, 0, (0, 0), false, []),
  (99, .goto 4, 1, [58], 0, 0, (0, 0), false, []),
  (102, .iconst 0, 0, [], 0, 0, (0, 0), false, []),
  (103, .ireturn, 5, [1], 0, 0, (0, 0), false, [])]
def eX3_readDoor : List zm_M := [mX3_nextToken, mX3_toldRoom, mX2_build, mX3_readLock, mX3_readOneway, mX3_readSemicolon, mX3_fail]
noncomputable def vX3_readDoor : List (zm_M × zm_S) := [(mX3_nextToken, sX3_nextToken), (mX3_toldRoom, sX3_toldRoom), (mX2_build, sX2_build), (mX3_readLock, sX3_readLock), (mX3_readOneway, sX3_readOneway), (mX3_readSemicolon, sX3_readSemicolon), (mX3_fail, sX3_fail)]
noncomputable def sX3_readDoor : zm_S := zsem vX3_readDoor rX3_readDoor 4
set_option maxRecDepth 100000 in
theorem aX3_readDoor : zall RX3 mX3_readDoor eX3_readDoor rX3_readDoor = true := by decide +kernel
set_option maxRecDepth 100000 in
theorem wX3_readDoor : ∀ w ∈ zwds RX3 mX3_readDoor eX3_readDoor rX3_readDoor, w ∈ gT := zwd_of [793, 106, 856, 858, 16, 60, 859, 834, 836, 11, 60, 837, 908, 910, 25, 60, 911, 834, 836, 11, 60, 837, 908, 910, 25, 60, 911, 856, 858, 16, 60, 859, 793, 912, 913, 914, 40, 915, 834, 836, 11, 60, 837, 920, 922, 26, 60, 923, 928, 930, 27, 60, 931, 900, 902, 23, 60, 903] (by decide +kernel) (by decide +kernel) (z7_no (by decide +kernel))
set_option maxRecDepth 100000 in
theorem xX3_readDoor : ∀ w ∈ zwxs RX3 mX3_readDoor eX3_readDoor rX3_readDoor, zspc w = true ∧ w ∈ lw_tbl := by decide +kernel
theorem tX3_readDoor {sc : Nat × (Nat → Int32)} {l : Launch} (hlt : l.stackTraces = false) : MetA sc l mX3_readDoor (sX3_readDoor) := zmet (M := mX3_readDoor) (own := RX3) (envM := eX3_readDoor) hlt rfl (by decide +kernel) (by decide +kernel) rfl (fun j q hq => by
  match j, hq with
  | 0, hq => cases hq; exact tX3_nextToken hlt
  | 1, hq => cases hq; exact tX3_toldRoom hlt
  | 2, hq => cases hq; exact tX2_build hlt
  | 3, hq => cases hq; exact tX3_readLock hlt
  | 4, hq => cases hq; exact tX3_readOneway hlt
  | 5, hq => cases hq; exact tX3_readSemicolon hlt
  | 6, hq => cases hq; exact tX3_fail hlt
  | n + 7, hq => cases hq) aX3_readDoor wX3_readDoor xX3_readDoor rfl
def mX3_readKeys : zm_M := (yX3_readKeys, cX3_readKeys, 4, (some .boolean), (2, 0, 0, 44), 1, [], (0, 0))
set_option maxRecDepth 100000 in
def rX3_readKeys : List zm_R := [(0, .aload_n 0, 0, [], 0, 0, (0, 0), false, []),
  (1, .ldc2_w 105, 9, [1], 0, 7038329, (0, 0), false, []),
  (4, .invokevirtual 57, 6, [0, 0, 2, 1, 0, 3], 0, 0, (0, 0), false, []),
  (7, .istore_n 2, 0, [], 0, 0, (0, 0), false, []),
  (8, .iconst 0, 0, [], 0, 0, (0, 0), false, []),
  (9, .istore_n 3, 0, [], 0, 0, (0, 0), false, []),
  (10, .iload_n 3, 0, [], 0, 0, (0, 0), true, []),
  (11, .bipush 8, 0, [], 8, 0, (0, 0), false, []),
  (13, .if_icmp .gt 82, 1, [52], 0, 0, (0, 0), false, []),
  (16, .iload_n 2, 0, [], 0, 0, (0, 0), false, []),
  (17, .ifCond .eq 78, 1, [52], 0, 0, (0, 0), false, []),
  (20, .aload_n 0, 0, [], 0, 0, (0, 0), false, []),
  (21, .invokevirtual 48, 6, [0, 1, 1, 0, 0, 3], 0, 0, (0, 0), false, []),
  (24, .aload_n 0, 0, [], 0, 0, (0, 0), false, []),
  (25, .bipush 7, 0, [], 7, 0, (0, 0), false, []),
  (27, .invokevirtual 107, 6, [0, 2, 2, 1, 0, 3], 0, 0, (0, 0), false, []),
  (30, .ifCond .ne 5, 1, [19], 0, 0, (0, 0), false, []),
  (33, .iconst 0, 0, [], 0, 0, (0, 0), false, []),
  (34, .ireturn, 5, [1], 0, 0, (0, 0), false, []),
  (35, .aload_n 0, 0, [], 0, 0, (0, 0), false, []),
  (36, .getfield 39, 2, [3, 1, 9, 2], 0, 0, (0, 0), false, []),
  (39, .getfield 110, 2, [2, 2, 15, 2], 0, 0, (0, 0), false, []),
  (42, .iload_n 1, 0, [], 0, 0, (0, 0), false, []),
  (43, .iaload, 3, [0], 0, 0, (0, 0), false, []),
  (44, .aload_n 0, 0, [], 0, 0, (0, 0), false, []),
  (45, .getfield 26, 2, [3, 6, 9, 0], 0, 0, (0, 0), false, []),
  (48, .invokestatic 114, 6, [3, 3, 2, 1, 0, 5], 0, 0, (0, 0), false, []),
  (51, .ifCond .eq 9, 1, [32], 0, 0, (0, 0), false, []),
  (54, .aload_n 0, 0, [], 0, 0, (0, 0), false, []),
  (55, .iconst 3, 0, [], 3, 0, (0, 0), false, []),
  (56, .invokevirtual 79, 6, [0, 5, 2, 1, 0, 3], 0, 0, (0, 0), false, []),
  (59, .ireturn, 5, [1], 0, 0, (0, 0), false, []),
  (60, .aload_n 0, 0, [], 0, 0, (0, 0), false, []),
  (61, .getfield 39, 2, [3, 1, 9, 2], 0, 0, (0, 0), false, []),
  (64, .getfield 110, 2, [2, 2, 15, 2], 0, 0, (0, 0), false, []),
  (67, .iload_n 1, 0, [], 0, 0, (0, 0), false, []),
  (68, .dup2, 0, [], 0, 0, (0, 0), false, []),
  (69, .iaload, 3, [0], 0, 0, (0, 0), false, []),
  (70, .iconst 1, 0, [], 1, 0, (0, 0), false, []),
  (71, .aload_n 0, 0, [], 0, 0, (0, 0), false, []),
  (72, .getfield 26, 2, [3, 6, 9, 0], 0, 0, (0, 0), false, []),
  (75, .ishl, 0, [], 0, 0, (0, 0), false, []),
  (76, .ior, 0, [], 0, 0, (0, 0), false, []),
  (77, .iastore, 3, [0], 0, 0, (0, 0), false, []),
  (78, .aload_n 0, 0, [], 0, 0, (0, 0), false, []),
  (79, .invokevirtual 48, 6, [0, 1, 1, 0, 0, 3], 0, 0, (0, 0), false, []),
  (82, .aload_n 0, 0, [], 0, 0, (0, 0), false, []),
  (83, .bipush 44, 0, [], 44, 0, (0, 0), false, []),
  (85, .invokevirtual 118, 6, [0, 4, 2, 1, 0, 3], 0, 0, (0, 0), false, []),
  (88, .istore_n 2, 0, [], 0, 0, (0, 0), false, []),
  (89, .iinc 3 1, 0, [], 1, 0, (0, 0), false, []),
  (92, .goto (-82), 1, [6], 0, 0, (0, 0), false, []),
  (95, .iconst 1, 0, [], 1, 0, (0, 0), false, []),
  (96, .ireturn, 5, [1], 0, 0, (0, 0), false, [])]
def eX3_readKeys : List zm_M := [mX3_isWord, mX3_nextToken, mX3_fits, mX5_has, mX3_isSymbol, mX3_fail]
noncomputable def vX3_readKeys : List (zm_M × zm_S) := [(mX3_isWord, sX3_isWord), (mX3_nextToken, sX3_nextToken), (mX3_fits, sX3_fits), (mX5_has, sX5_has), (mX3_isSymbol, sX3_isSymbol), (mX3_fail, sX3_fail)]
noncomputable def sX3_readKeys : zm_S := zsem vX3_readKeys rX3_readKeys 4
set_option maxRecDepth 100000 in
theorem aX3_readKeys : zall RX3 mX3_readKeys eX3_readKeys rX3_readKeys = true := by decide +kernel
set_option maxRecDepth 100000 in
theorem wX3_readKeys : ∀ w ∈ zwds RX3 mX3_readKeys eX3_readKeys rX3_readKeys, w ∈ gT := zwd_of [868, 848, 850, 14, 60, 851, 834, 836, 11, 60, 837, 887, 889, 20, 60, 890, 793, 100, 798, 265, 38, 266, 856, 858, 16, 60, 859, 793, 100, 798, 834, 836, 11, 60, 837, 892, 894, 21, 60, 895] (by decide +kernel) (by decide +kernel) (z7_no (by decide +kernel))
set_option maxRecDepth 100000 in
theorem xX3_readKeys : ∀ w ∈ zwxs RX3 mX3_readKeys eX3_readKeys rX3_readKeys, zspc w = true ∧ w ∈ lw_tbl := by decide +kernel
theorem tX3_readKeys {sc : Nat × (Nat → Int32)} {l : Launch} (hlt : l.stackTraces = false) : MetA sc l mX3_readKeys (sX3_readKeys) := zmet (M := mX3_readKeys) (own := RX3) (envM := eX3_readKeys) hlt rfl (by decide +kernel) (by decide +kernel) rfl (fun j q hq => by
  match j, hq with
  | 0, hq => cases hq; exact tX3_isWord hlt
  | 1, hq => cases hq; exact tX3_nextToken hlt
  | 2, hq => cases hq; exact tX3_fits hlt
  | 3, hq => cases hq; exact tX5_has hlt
  | 4, hq => cases hq; exact tX3_isSymbol hlt
  | 5, hq => cases hq; exact tX3_fail hlt
  | n + 6, hq => cases hq) aX3_readKeys wX3_readKeys xX3_readKeys rfl
def mX3_readCoins : zm_M := (yX3_readCoins, cX3_readCoins, 2, (some .boolean), (2, 0, 0, 44), 1, [], (0, 0))
set_option maxRecDepth 100000 in
def rX3_readCoins : List zm_R := [(0, .aload_n 0, 0, [], 0, 0, (0, 0), false, []),
  (1, .ldc2_w 121, 9, [1], 0, 427070942835, (0, 0), false, []),
  (4, .invokevirtual 57, 6, [0, 0, 2, 1, 0, 3], 0, 0, (0, 0), false, []),
  (7, .ifCond .ne 5, 1, [6], 0, 0, (0, 0), false, []),
  (10, .iconst 1, 0, [], 1, 0, (0, 0), false, []),
  (11, .ireturn, 5, [1], 0, 0, (0, 0), false, []),
  (12, .aload_n 0, 0, [], 0, 0, (0, 0), false, []),
  (13, .invokevirtual 48, 6, [0, 1, 1, 0, 0, 3], 0, 0, (0, 0), false, []),
  (16, .aload_n 0, 0, [], 0, 0, (0, 0), false, []),
  (17, .bipush 99, 0, [], 99, 0, (0, 0), false, []),
  (19, .invokevirtual 107, 6, [0, 2, 2, 1, 0, 3], 0, 0, (0, 0), false, []),
  (22, .ifCond .ne 5, 1, [14], 0, 0, (0, 0), false, []),
  (25, .iconst 0, 0, [], 0, 0, (0, 0), false, []),
  (26, .ireturn, 5, [1], 0, 0, (0, 0), false, []),
  (27, .aload_n 0, 0, [], 0, 0, (0, 0), false, []),
  (28, .getfield 39, 2, [3, 1, 9, 2], 0, 0, (0, 0), false, []),
  (31, .getfield 123, 2, [2, 3, 15, 2], 0, 0, (0, 0), false, []),
  (34, .iload_n 1, 0, [], 0, 0, (0, 0), false, []),
  (35, .aload_n 0, 0, [], 0, 0, (0, 0), false, []),
  (36, .getfield 26, 2, [3, 6, 9, 0], 0, 0, (0, 0), false, []),
  (39, .iastore, 3, [0], 0, 0, (0, 0), false, []),
  (40, .aload_n 0, 0, [], 0, 0, (0, 0), false, []),
  (41, .invokevirtual 48, 6, [0, 1, 1, 0, 0, 3], 0, 0, (0, 0), false, []),
  (44, .iconst 1, 0, [], 1, 0, (0, 0), false, []),
  (45, .ireturn, 5, [1], 0, 0, (0, 0), false, [])]
def eX3_readCoins : List zm_M := [mX3_isWord, mX3_nextToken, mX3_fits]
noncomputable def vX3_readCoins : List (zm_M × zm_S) := [(mX3_isWord, sX3_isWord), (mX3_nextToken, sX3_nextToken), (mX3_fits, sX3_fits)]
noncomputable def sX3_readCoins : zm_S := zsem vX3_readCoins rX3_readCoins 2
set_option maxRecDepth 100000 in
theorem aX3_readCoins : zall RX3 mX3_readCoins eX3_readCoins rX3_readCoins = true := by decide +kernel
set_option maxRecDepth 100000 in
theorem wX3_readCoins : ∀ w ∈ zwds RX3 mX3_readCoins eX3_readCoins rX3_readCoins, w ∈ gT := zwd_of [869, 848, 850, 14, 60, 851, 834, 836, 11, 60, 837, 887, 889, 20, 60, 890, 793, 103, 798, 834, 836, 11, 60, 837] (by decide +kernel) (by decide +kernel) (z7_no (by decide +kernel))
set_option maxRecDepth 100000 in
theorem xX3_readCoins : ∀ w ∈ zwxs RX3 mX3_readCoins eX3_readCoins rX3_readCoins, zspc w = true ∧ w ∈ lw_tbl := by decide +kernel
theorem tX3_readCoins {sc : Nat × (Nat → Int32)} {l : Launch} (hlt : l.stackTraces = false) : MetA sc l mX3_readCoins (sX3_readCoins) := zmet (M := mX3_readCoins) (own := RX3) (envM := eX3_readCoins) hlt rfl (by decide +kernel) (by decide +kernel) rfl (fun j q hq => by
  match j, hq with
  | 0, hq => cases hq; exact tX3_isWord hlt
  | 1, hq => cases hq; exact tX3_nextToken hlt
  | 2, hq => cases hq; exact tX3_fits hlt
  | n + 3, hq => cases hq) aX3_readCoins wX3_readCoins xX3_readCoins rfl
def mX3_readRoom : zm_M := (yX3_readRoom, cX3_readRoom, 2, (some .boolean), (3, 0, 0, 67), 0, [], (0, 0))
set_option maxRecDepth 100000 in
def rX3_readRoom : List zm_R := [(0, .aload_n 0, 0, [], 0, 0, (0, 0), false, []),
  (1, .getfield 39, 2, [3, 1, 9, 2], 0, 0, (0, 0), false, []),
  (4, .getfield 83, 2, [2, 0, 15, 0], 0, 0, (0, 0), false, []),
  (7, .bipush 11, 0, [], 11, 0, (0, 0), false, []),
  (9, .if_icmp .lt 9, 1, [9], 0, 0, (0, 0), false, []),
  (12, .aload_n 0, 0, [], 0, 0, (0, 0), false, []),
  (13, .iconst 5, 0, [], 5, 0, (0, 0), false, []),
  (14, .invokevirtual 79, 6, [0, 7, 2, 1, 0, 3], 0, 0, (0, 0), false, []),
  (17, .ireturn, 5, [1], 0, 0, (0, 0), false, []),
  (18, .aload_n 0, 0, [], 0, 0, (0, 0), false, []),
  (19, .invokevirtual 48, 6, [0, 0, 1, 0, 0, 3], 0, 0, (0, 0), false, []),
  (22, .aload_n 0, 0, [], 0, 0, (0, 0), false, []),
  (23, .invokevirtual 86, 6, [0, 1, 1, 1, 0, 3], 0, 0, (0, 0), false, []),
  (26, .ifCond .ne 9, 1, [18], 0, 0, (0, 0), false, []),
  (29, .aload_n 0, 0, [], 0, 0, (0, 0), false, []),
  (30, .iconst 1, 0, [], 1, 0, (0, 0), false, []),
  (31, .invokevirtual 79, 6, [0, 7, 2, 1, 0, 3], 0, 0, (0, 0), false, []),
  (34, .ireturn, 5, [1], 0, 0, (0, 0), false, []),
  (35, .aload_n 0, 0, [], 0, 0, (0, 0), false, []),
  (36, .getfield 39, 2, [3, 1, 9, 2], 0, 0, (0, 0), false, []),
  (39, .aload_n 0, 0, [], 0, 0, (0, 0), false, []),
  (40, .getfield 22, 2, [3, 5, 9, 1], 0, 0, (0, 0), false, []),
  (43, .invokevirtual 89, 6, [0, 2, 2, 1, 0, 2], 0, 0, (0, 0), false, []),
  (46, .iconst (-1), 0, [], (-1), 0, (0, 0), false, []),
  (47, .if_icmp .eq 9, 1, [29], 0, 0, (0, 0), false, []),
  (50, .aload_n 0, 0, [], 0, 0, (0, 0), false, []),
  (51, .iconst 3, 0, [], 3, 0, (0, 0), false, []),
  (52, .invokevirtual 79, 6, [0, 7, 2, 1, 0, 3], 0, 0, (0, 0), false, []),
  (55, .ireturn, 5, [1], 0, 0, (0, 0), false, []),
  (56, .aload_n 0, 0, [], 0, 0, (0, 0), false, []),
  (57, .getfield 39, 2, [3, 1, 9, 2], 0, 0, (0, 0), false, []),
  (60, .aload_n 0, 0, [], 0, 0, (0, 0), false, []),
  (61, .getfield 22, 2, [3, 5, 9, 1], 0, 0, (0, 0), false, []),
  (64, .invokevirtual 93, 6, [0, 3, 2, 1, 0, 2], 0, 0, (0, 0), false, []),
  (67, .istore_n 1, 0, [], 0, 0, (0, 0), false, []),
  (68, .aload_n 0, 0, [], 0, 0, (0, 0), false, []),
  (69, .invokevirtual 48, 6, [0, 0, 1, 0, 0, 3], 0, 0, (0, 0), false, []),
  (72, .aload_n 0, 0, [], 0, 0, (0, 0), false, []),
  (73, .iload_n 1, 0, [], 0, 0, (0, 0), false, []),
  (74, .invokevirtual 96, 6, [0, 4, 2, 1, 0, 3], 0, 0, (0, 0), false, []),
  (77, .ifCond .eq 22, 1, [50], 0, 0, (0, 0), false, []),
  (80, .aload_n 0, 0, [], 0, 0, (0, 0), false, []),
  (81, .iload_n 1, 0, [], 0, 0, (0, 0), false, []),
  (82, .invokevirtual 99, 6, [0, 5, 2, 1, 0, 3], 0, 0, (0, 0), false, []),
  (85, .ifCond .eq 14, 1, [50], 0, 0, (0, 0), false, []),
  (88, .aload_n 0, 0, [], 0, 0, (0, 0), false, []),
  (89, .invokevirtual 102, 6, [0, 6, 1, 1, 0, 3], 0, 0, (0, 0), false, []),
  (92, .ifCond .eq 7, 1, [50], 0, 0, (0, 0), false, []),
  (95, .iconst 1, 0, [], 1, 0, (0, 0), false, []),
  (96, .goto 4, 1, [51], 0, 0, (0, 0), false, []),
  (99, .iconst 0, 0, [], 0, 0, (0, 0), false, []),
  (100, .ireturn, 5, [1], 0, 0, (0, 0), false, [])]
def eX3_readRoom : List zm_M := [mX3_nextToken, mX3_isName, mX2_roomNamed, mX2_addRoom, mX3_readKeys, mX3_readCoins, mX3_readSemicolon, mX3_fail]
noncomputable def vX3_readRoom : List (zm_M × zm_S) := [(mX3_nextToken, sX3_nextToken), (mX3_isName, sX3_isName), (mX2_roomNamed, sX2_roomNamed), (mX2_addRoom, sX2_addRoom), (mX3_readKeys, sX3_readKeys), (mX3_readCoins, sX3_readCoins), (mX3_readSemicolon, sX3_readSemicolon), (mX3_fail, sX3_fail)]
noncomputable def sX3_readRoom : zm_S := zsem vX3_readRoom rX3_readRoom 2
set_option maxRecDepth 100000 in
theorem aX3_readRoom : zall RX3 mX3_readRoom eX3_readRoom rX3_readRoom = true := by decide +kernel
set_option maxRecDepth 100000 in
theorem wX3_readRoom : ∀ w ∈ zwds RX3 mX3_readRoom eX3_readRoom rX3_readRoom, w ∈ gT := zwd_of [793, 97, 856, 858, 16, 60, 859, 834, 836, 11, 60, 837, 860, 862, 17, 60, 863, 856, 858, 16, 60, 859, 793, 797, 875, 876, 877, 40, 878, 856, 858, 16, 60, 859, 793, 797, 879, 880, 881, 40, 882, 834, 836, 11, 60, 837, 883, 885, 19, 60, 886, 896, 898, 22, 60, 899, 900, 902, 23, 60, 903] (by decide +kernel) (by decide +kernel) (z7_no (by decide +kernel))
set_option maxRecDepth 100000 in
theorem xX3_readRoom : ∀ w ∈ zwxs RX3 mX3_readRoom eX3_readRoom rX3_readRoom, zspc w = true ∧ w ∈ lw_tbl := by decide +kernel
theorem tX3_readRoom {sc : Nat × (Nat → Int32)} {l : Launch} (hlt : l.stackTraces = false) : MetA sc l mX3_readRoom (sX3_readRoom) := zmet (M := mX3_readRoom) (own := RX3) (envM := eX3_readRoom) hlt rfl (by decide +kernel) (by decide +kernel) rfl (fun j q hq => by
  match j, hq with
  | 0, hq => cases hq; exact tX3_nextToken hlt
  | 1, hq => cases hq; exact tX3_isName hlt
  | 2, hq => cases hq; exact tX2_roomNamed hlt
  | 3, hq => cases hq; exact tX2_addRoom hlt
  | 4, hq => cases hq; exact tX3_readKeys hlt
  | 5, hq => cases hq; exact tX3_readCoins hlt
  | 6, hq => cases hq; exact tX3_readSemicolon hlt
  | 7, hq => cases hq; exact tX3_fail hlt
  | n + 8, hq => cases hq) aX3_readRoom wX3_readRoom xX3_readRoom rfl
def mX3_readStatement : zm_M := (yX3_readStatement, cX3_readStatement, 1, (some .boolean), (4, 0, 0, 89), 0, [], (0, 0))
set_option maxRecDepth 100000 in
def rX3_readStatement : List zm_R := [(0, .aload_n 0, 0, [], 0, 0, (0, 0), false, []),
  (1, .ldc2_w 55, 9, [1], 0, 1919905645, (0, 0), false, []),
  (4, .invokevirtual 57, 6, [0, 0, 2, 1, 0, 3], 0, 0, (0, 0), false, []),
  (7, .ifCond .eq 8, 1, [7], 0, 0, (0, 0), false, []),
  (10, .aload_n 0, 0, [], 0, 0, (0, 0), false, []),
  (11, .invokevirtual 61, 6, [0, 5, 1, 1, 0, 3], 0, 0, (0, 0), false, []),
  (14, .ireturn, 5, [1], 0, 0, (0, 0), false, []),
  (15, .aload_n 0, 0, [], 0, 0, (0, 0), false, []),
  (16, .ldc2_w 64, 9, [1], 0, 1685024626, (0, 0), false, []),
  (19, .invokevirtual 57, 6, [0, 0, 2, 1, 0, 3], 0, 0, (0, 0), false, []),
  (22, .ifCond .eq 8, 1, [14], 0, 0, (0, 0), false, []),
  (25, .aload_n 0, 0, [], 0, 0, (0, 0), false, []),
  (26, .invokevirtual 66, 6, [0, 4, 1, 1, 0, 3], 0, 0, (0, 0), false, []),
  (29, .ireturn, 5, [1], 0, 0, (0, 0), false, []),
  (30, .aload_n 0, 0, [], 0, 0, (0, 0), false, []),
  (31, .ldc2_w 69, 9, [1], 0, 495873782388, (0, 0), false, []),
  (34, .invokevirtual 57, 6, [0, 0, 2, 1, 0, 3], 0, 0, (0, 0), false, []),
  (37, .ifCond .eq 8, 1, [21], 0, 0, (0, 0), false, []),
  (40, .aload_n 0, 0, [], 0, 0, (0, 0), false, []),
  (41, .invokevirtual 71, 6, [0, 3, 1, 1, 0, 3], 0, 0, (0, 0), false, []),
  (44, .ireturn, 5, [1], 0, 0, (0, 0), false, []),
  (45, .aload_n 0, 0, [], 0, 0, (0, 0), false, []),
  (46, .ldc2_w 74, 9, [1], 0, 6647396, (0, 0), false, []),
  (49, .invokevirtual 57, 6, [0, 0, 2, 1, 0, 3], 0, 0, (0, 0), false, []),
  (52, .ifCond .eq 8, 1, [28], 0, 0, (0, 0), false, []),
  (55, .aload_n 0, 0, [], 0, 0, (0, 0), false, []),
  (56, .invokevirtual 76, 6, [0, 2, 1, 1, 0, 3], 0, 0, (0, 0), false, []),
  (59, .ireturn, 5, [1], 0, 0, (0, 0), false, []),
  (60, .aload_n 0, 0, [], 0, 0, (0, 0), false, []),
  (61, .iconst 1, 0, [], 1, 0, (0, 0), false, []),
  (62, .invokevirtual 79, 6, [0, 1, 2, 1, 0, 3], 0, 0, (0, 0), false, []),
  (65, .ireturn, 5, [1], 0, 0, (0, 0), false, [])]
def eX3_readStatement : List zm_M := [mX3_isWord, mX3_fail, mX3_readEnd, mX3_readStart, mX3_readDoor, mX3_readRoom]
noncomputable def vX3_readStatement : List (zm_M × zm_S) := [(mX3_isWord, sX3_isWord), (mX3_fail, sX3_fail), (mX3_readEnd, sX3_readEnd), (mX3_readStart, sX3_readStart), (mX3_readDoor, sX3_readDoor), (mX3_readRoom, sX3_readRoom)]
noncomputable def sX3_readStatement : zm_S := zsem vX3_readStatement rX3_readStatement 1
set_option maxRecDepth 100000 in
theorem aX3_readStatement : zall RX3 mX3_readStatement eX3_readStatement rX3_readStatement = true := by decide +kernel
set_option maxRecDepth 100000 in
theorem wX3_readStatement : ∀ w ∈ zwds RX3 mX3_readStatement eX3_readStatement rX3_readStatement, w ∈ gT := zwd_of [847, 848, 850, 14, 60, 851, 852, 854, 15, 60, 855, 870, 848, 850, 14, 60, 851, 904, 906, 24, 60, 907, 873, 848, 850, 14, 60, 851, 932, 934, 28, 60, 935, 874, 848, 850, 14, 60, 851, 937, 939, 29, 60, 940, 856, 858, 16, 60, 859] (by decide +kernel) (by decide +kernel) (z7_no (by decide +kernel))
set_option maxRecDepth 100000 in
theorem xX3_readStatement : ∀ w ∈ zwxs RX3 mX3_readStatement eX3_readStatement rX3_readStatement, zspc w = true ∧ w ∈ lw_tbl := by decide +kernel
theorem tX3_readStatement {sc : Nat × (Nat → Int32)} {l : Launch} (hlt : l.stackTraces = false) : MetA sc l mX3_readStatement (sX3_readStatement) := zmet (M := mX3_readStatement) (own := RX3) (envM := eX3_readStatement) hlt rfl (by decide +kernel) (by decide +kernel) rfl (fun j q hq => by
  match j, hq with
  | 0, hq => cases hq; exact tX3_isWord hlt
  | 1, hq => cases hq; exact tX3_fail hlt
  | 2, hq => cases hq; exact tX3_readEnd hlt
  | 3, hq => cases hq; exact tX3_readStart hlt
  | 4, hq => cases hq; exact tX3_readDoor hlt
  | 5, hq => cases hq; exact tX3_readRoom hlt
  | n + 6, hq => cases hq) aX3_readStatement wX3_readStatement xX3_readStatement rfl
def mX3_parse : zm_M := (yX3_parse, cX3_parse, 3, (some .boolean), (5, 0, 0, 109), 0, [], (0, 0))
set_option maxRecDepth 100000 in
def rX3_parse : List zm_R := [(0, .aload_n 0, 0, [], 0, 0, (0, 0), false, []),
  (1, .getfield 39, 2, [3, 1, 9, 2], 0, 0, (0, 0), false, []),
  (4, .invokevirtual 43, 6, [0, 0, 1, 0, 0, 2], 0, 0, (0, 0), false, []),
  (7, .aload_n 0, 0, [], 0, 0, (0, 0), false, []),
  (8, .invokevirtual 48, 6, [0, 1, 1, 0, 0, 3], 0, 0, (0, 0), false, []),
  (11, .aload_n 0, 0, [], 0, 0, (0, 0), false, []),
  (12, .invokevirtual 51, 6, [0, 2, 1, 1, 0, 3], 0, 0, (0, 0), false, []),
  (15, .istore_n 1, 0, [], 0, 0, (0, 0), false, []),
  (16, .iconst 1, 0, [], 1, 0, (0, 0), false, []),
  (17, .istore_n 2, 0, [], 0, 0, (0, 0), false, []),
  (18, .iload_n 2, 0, [], 0, 0, (0, 0), true, []),
  (19, .sipush 500, 0, [], 500, 0, (0, 0), false, []),
  (22, .if_icmp .ge 25, 1, [23], 0, 0, (0, 0), false, []),
  (25, .iload_n 1, 0, [], 0, 0, (0, 0), false, []),
  (26, .ifCond .eq 21, 1, [23], 0, 0, (0, 0), false, []),
  (29, .aload_n 0, 0, [], 0, 0, (0, 0), false, []),
  (30, .getfield 19, 2, [3, 4, 9, 0], 0, 0, (0, 0), false, []),
  (33, .ifCond .eq 14, 1, [23], 0, 0, (0, 0), false, []),
  (36, .aload_n 0, 0, [], 0, 0, (0, 0), false, []),
  (37, .invokevirtual 51, 6, [0, 2, 1, 1, 0, 3], 0, 0, (0, 0), false, []),
  (40, .istore_n 1, 0, [], 0, 0, (0, 0), false, []),
  (41, .iinc 2 1, 0, [], 1, 0, (0, 0), false, []),
  (44, .goto (-26), 1, [10], 0, 0, (0, 0), false, []),
  (47, .iload_n 1, 0, [], 0, 0, (0, 0), false, []),
  (48, .ireturn, 5, [1], 0, 0, (0, 0), false, [])]
def eX3_parse : List zm_M := [mX2_clear, mX3_nextToken, mX3_readStatement]
noncomputable def vX3_parse : List (zm_M × zm_S) := [(mX2_clear, sX2_clear), (mX3_nextToken, sX3_nextToken), (mX3_readStatement, sX3_readStatement)]
noncomputable def sX3_parse : zm_S := zsem vX3_parse rX3_parse 3
set_option maxRecDepth 100000 in
theorem aX3_parse : zall RX3 mX3_parse eX3_parse rX3_parse = true := by decide +kernel
set_option maxRecDepth 100000 in
theorem wX3_parse : ∀ w ∈ zwds RX3 mX3_parse eX3_parse rX3_parse, w ∈ gT := zwd_of [793, 826, 827, 828, 40, 829, 834, 836, 11, 60, 837, 843, 845, 13, 60, 846, 796, 843, 845, 13, 60, 846] (by decide +kernel) (by decide +kernel) (z7_no (by decide +kernel))
set_option maxRecDepth 100000 in
theorem xX3_parse : ∀ w ∈ zwxs RX3 mX3_parse eX3_parse rX3_parse, zspc w = true ∧ w ∈ lw_tbl := by decide +kernel
theorem tX3_parse {sc : Nat × (Nat → Int32)} {l : Launch} (hlt : l.stackTraces = false) : MetA sc l mX3_parse (sX3_parse) := zmet (M := mX3_parse) (own := RX3) (envM := eX3_parse) hlt rfl (by decide +kernel) (by decide +kernel) rfl (fun j q hq => by
  match j, hq with
  | 0, hq => cases hq; exact tX2_clear hlt
  | 1, hq => cases hq; exact tX3_nextToken hlt
  | 2, hq => cases hq; exact tX3_readStatement hlt
  | n + 3, hq => cases hq) aX3_parse wX3_parse xX3_parse rfl
def mX4_init : zm_M := (yX4_init, cX4_init, 1, none, (1, 4, 69632, 12), 0, [], (4, 69632))
set_option maxRecDepth 100000 in
def rX4_init : List zm_R := [(0, .aload_n 0, 0, [], 0, 0, (0, 0), false, []),
  (1, .invokespecial 3, 10, [], 0, 0, (0, 0), false, []),
  (4, .aload_n 0, 0, [], 0, 0, (0, 0), false, []),
  (5, .sipush 2048, 0, [], 2048, 0, (0, 0), false, []),
  (8, .newarray .int, 4, [0, 2048], 0, 0, (0, 0), false, []),
  (10, .putfield 11, 2, [4, 0, 7, 2], 0, 0, (1, 2048), true, []),
  (13, .aload_n 0, 0, [], 0, 0, (1, 2048), false, []),
  (14, .sipush 22528, 0, [], 22528, 0, (1, 2048), false, []),
  (17, .newarray .long, 4, [1, 22528], 0, 0, (1, 2048), false, []),
  (19, .putfield 15, 2, [4, 1, 7, 2], 0, 0, (2, 24576), true, []),
  (22, .aload_n 0, 0, [], 0, 0, (2, 24576), false, []),
  (23, .sipush 22528, 0, [], 22528, 0, (2, 24576), false, []),
  (26, .newarray .int, 4, [0, 22528], 0, 0, (2, 24576), false, []),
  (28, .putfield 19, 2, [4, 2, 7, 2], 0, 0, (3, 47104), true, []),
  (31, .aload_n 0, 0, [], 0, 0, (3, 47104), false, []),
  (32, .sipush 22528, 0, [], 22528, 0, (3, 47104), false, []),
  (35, .newarray .long, 4, [1, 22528], 0, 0, (3, 47104), false, []),
  (37, .putfield 22, 2, [4, 3, 7, 2], 0, 0, (4, 69632), true, []),
  (40, .aload_n 0, 0, [], 0, 0, (4, 69632), false, []),
  (41, .iconst 0, 0, [], 0, 0, (4, 69632), false, []),
  (42, .putfield 25, 2, [4, 4, 7, 0], 0, 0, (4, 69632), false, []),
  (45, .aload_n 0, 0, [], 0, 0, (4, 69632), false, []),
  (46, .iconst 0, 0, [], 0, 0, (4, 69632), false, []),
  (47, .putfield 29, 2, [4, 5, 7, 0], 0, 0, (4, 69632), false, []),
  (50, .aload_n 0, 0, [], 0, 0, (4, 69632), false, []),
  (51, .iconst 0, 0, [], 0, 0, (4, 69632), false, []),
  (52, .putfield 32, 2, [4, 6, 7, 0], 0, 0, (4, 69632), false, []),
  (55, .return_, 5, [], 0, 0, (4, 69632), false, [])]
def eX4_init : List zm_M := []
noncomputable def vX4_init : List (zm_M × zm_S) := []
noncomputable def sX4_init : zm_S := zsem vX4_init rX4_init 1
set_option maxRecDepth 100000 in
theorem aX4_init : zall RX4 mX4_init eX4_init rX4_init = true := by decide +kernel
set_option maxRecDepth 100000 in
theorem wX4_init : ∀ w ∈ zwds RX4 mX4_init eX4_init rX4_init, w ∈ gT := zwd_of [187, 69, 70, 87, 188, 160, 189, 87, 190, 160, 191, 192, 193, 194] (by decide +kernel) (by decide +kernel) (z7_no (by decide +kernel))
set_option maxRecDepth 100000 in
theorem xX4_init : ∀ w ∈ zwxs RX4 mX4_init eX4_init rX4_init, zspc w = true ∧ w ∈ lw_tbl := by decide +kernel
theorem tX4_init {sc : Nat × (Nat → Int32)} {l : Launch} (hlt : l.stackTraces = false) : MetA sc l mX4_init (sX4_init) := zmet (M := mX4_init) (own := RX4) (envM := eX4_init) hlt rfl (by decide +kernel) (by decide +kernel) rfl (fun j q hq => by cases hq) aX4_init wX4_init xX4_init rfl
def mX4_cell : zm_M := (yX4_cell, cX4_cell, 2, (some .int), (0, 0, 0, 0), 2, [], (0, 0))
set_option maxRecDepth 100000 in
def rX4_cell : List zm_R := [(0, .iload_n 0, 0, [], 0, 0, (0, 0), false, []),
  (1, .bipush 11, 0, [], 11, 0, (0, 0), false, []),
  (3, .imul, 0, [], 0, 0, (0, 0), false, []),
  (4, .iload_n 1, 0, [], 0, 0, (0, 0), false, []),
  (5, .iadd, 0, [], 0, 0, (0, 0), false, []),
  (6, .ireturn, 5, [0], 0, 0, (0, 0), false, [])]
def eX4_cell : List zm_M := []
noncomputable def vX4_cell : List (zm_M × zm_S) := []
noncomputable def sX4_cell : zm_S := zsem vX4_cell rX4_cell 2
set_option maxRecDepth 100000 in
theorem aX4_cell : zall RX4 mX4_cell eX4_cell rX4_cell = true := by decide +kernel
set_option maxRecDepth 100000 in
theorem wX4_cell : ∀ w ∈ zwds RX4 mX4_cell eX4_cell rX4_cell, w ∈ gT := zwd_of [] (by decide +kernel) (by decide +kernel) (z7_no (by decide +kernel))
set_option maxRecDepth 100000 in
theorem xX4_cell : ∀ w ∈ zwxs RX4 mX4_cell eX4_cell rX4_cell, zspc w = true ∧ w ∈ lw_tbl := by decide +kernel
theorem tX4_cell {sc : Nat × (Nat → Int32)} {l : Launch} (hlt : l.stackTraces = false) : MetA sc l mX4_cell (sX4_cell) := zmet (M := mX4_cell) (own := RX4) (envM := eX4_cell) hlt rfl (by decide +kernel) (by decide +kernel) rfl (fun j q hq => by cases hq) aX4_cell wX4_cell xX4_cell rfl
def mX4_addWalks : zm_M := (yX4_addWalks, cX4_addWalks, 6, none, (1, 0, 0, 21), 3, [], (0, 0))
set_option maxRecDepth 100000 in
def rX4_addWalks : List zm_R := [(0, .iload_n 1, 0, [], 0, 0, (0, 0), false, []),
  (1, .iload_n 2, 0, [], 0, 0, (0, 0), false, []),
  (2, .invokestatic 68, 6, [1, 0, 2, 1, 0, 4], 0, 0, (0, 0), false, []),
  (5, .istore 5, 0, [], 0, 0, (0, 0), false, []),
  (7, .aload_n 0, 0, [], 0, 0, (0, 0), false, []),
  (8, .getfield 15, 2, [4, 1, 7, 2], 0, 0, (0, 0), false, []),
  (11, .iload 5, 0, [], 0, 0, (0, 0), false, []),
  (13, .lload_n 3, 0, [], 0, 0, (0, 0), false, []),
  (14, .aload_n 0, 0, [], 0, 0, (0, 0), false, []),
  (15, .getfield 11, 2, [4, 0, 7, 2], 0, 0, (0, 0), false, []),
  (18, .iload_n 1, 0, [], 0, 0, (0, 0), false, []),
  (19, .iaload, 3, [0], 0, 0, (0, 0), false, []),
  (20, .iload_n 2, 0, [], 0, 0, (0, 0), false, []),
  (21, .invokestatic 60, 6, [3, 1, 2, 1, 0, 5], 0, 0, (0, 0), false, []),
  (24, .ifCond .eq 13, 1, [20], 0, 0, (0, 0), false, []),
  (27, .aload_n 0, 0, [], 0, 0, (0, 0), false, []),
  (28, .getfield 15, 2, [4, 1, 7, 2], 0, 0, (0, 0), false, []),
  (31, .iload 5, 0, [], 0, 0, (0, 0), false, []),
  (33, .laload, 3, [1], 0, 0, (0, 0), false, []),
  (34, .goto 4, 1, [21], 0, 0, (0, 0), false, []),
  (37, .lconst 0, 0, [], 0, 0, (0, 0), false, []),
  (38, .ladd, 0, [], 0, 0, (0, 0), false, []),
  (39, .lastore, 3, [1], 0, 0, (0, 0), false, []),
  (40, .aload_n 0, 0, [], 0, 0, (0, 0), false, []),
  (41, .getfield 11, 2, [4, 0, 7, 2], 0, 0, (0, 0), false, []),
  (44, .iload_n 1, 0, [], 0, 0, (0, 0), false, []),
  (45, .dup2, 0, [], 0, 0, (0, 0), false, []),
  (46, .iaload, 3, [0], 0, 0, (0, 0), false, []),
  (47, .iconst 1, 0, [], 1, 0, (0, 0), false, []),
  (48, .iload_n 2, 0, [], 0, 0, (0, 0), false, []),
  (49, .ishl, 0, [], 0, 0, (0, 0), false, []),
  (50, .ior, 0, [], 0, 0, (0, 0), false, []),
  (51, .iastore, 3, [0], 0, 0, (0, 0), false, []),
  (52, .return_, 5, [], 0, 0, (0, 0), false, [])]
def eX4_addWalks : List zm_M := [mX4_cell, mX5_has]
noncomputable def vX4_addWalks : List (zm_M × zm_S) := [(mX4_cell, sX4_cell), (mX5_has, sX5_has)]
noncomputable def sX4_addWalks : zm_S := zsem vX4_addWalks rX4_addWalks 6
set_option maxRecDepth 100000 in
theorem aX4_addWalks : zall RX4 mX4_addWalks eX4_addWalks rX4_addWalks = true := by decide +kernel
set_option maxRecDepth 100000 in
theorem wX4_addWalks : ∀ w ∈ zwds RX4 mX4_addWalks eX4_addWalks rX4_addWalks, w ∈ gT := zwd_of [363, 364, 42, 365, 189, 188, 265, 38, 266, 189, 188] (by decide +kernel) (by decide +kernel) (z7_no (by decide +kernel))
set_option maxRecDepth 100000 in
theorem xX4_addWalks : ∀ w ∈ zwxs RX4 mX4_addWalks eX4_addWalks rX4_addWalks, zspc w = true ∧ w ∈ lw_tbl := by decide +kernel
theorem tX4_addWalks {sc : Nat × (Nat → Int32)} {l : Launch} (hlt : l.stackTraces = false) : MetA sc l mX4_addWalks (sX4_addWalks) := zmet (M := mX4_addWalks) (own := RX4) (envM := eX4_addWalks) hlt rfl (by decide +kernel) (by decide +kernel) rfl (fun j q hq => by
  match j, hq with
  | 0, hq => cases hq; exact tX4_cell hlt
  | 1, hq => cases hq; exact tX5_has hlt
  | n + 2, hq => cases hq) aX4_addWalks wX4_addWalks xX4_addWalks rfl
def mX4_spreadFrom : zm_M := (yX4_spreadFrom, cX4_spreadFrom, 7, none, (2, 0, 0, 46), 2, [], (0, 0))
set_option maxRecDepth 100000 in
def rX4_spreadFrom : List zm_R := [(0, .iconst 0, 0, [], 0, 0, (0, 0), false, []),
  (1, .istore_n 3, 0, [], 0, 0, (0, 0), false, []),
  (2, .iload_n 3, 0, [], 0, 0, (0, 0), true, [4, 5, 6]),
  (3, .aload_n 0, 0, [], 0, 0, (0, 0), false, []),
  (4, .getfield 25, 2, [4, 4, 7, 0], 0, 0, (0, 0), false, []),
  (7, .if_icmp .ge 105, 1, [61], 0, 0, (0, 0), false, []),
  (10, .aload_n 0, 0, [], 0, 0, (0, 0), false, []),
  (11, .getfield 11, 2, [4, 0, 7, 2], 0, 0, (0, 0), false, []),
  (14, .iload_n 1, 0, [], 0, 0, (0, 0), false, []),
  (15, .iaload, 3, [0], 0, 0, (0, 0), false, []),
  (16, .iload_n 3, 0, [], 0, 0, (0, 0), false, []),
  (17, .invokestatic 60, 6, [3, 0, 2, 1, 0, 5], 0, 0, (0, 0), false, []),
  (20, .ifCond .ne 6, 1, [14], 0, 0, (0, 0), false, []),
  (23, .goto 83, 1, [59], 0, 0, (0, 0), false, []),
  (26, .iload_n 1, 0, [], 0, 0, (0, 0), false, []),
  (27, .iload_n 3, 0, [], 0, 0, (0, 0), false, []),
  (28, .invokestatic 68, 6, [1, 1, 2, 1, 0, 4], 0, 0, (0, 0), false, []),
  (31, .istore 4, 0, [], 0, 0, (0, 0), false, []),
  (33, .aload_n 2, 0, [], 0, 0, (0, 0), false, []),
  (34, .iload_n 3, 0, [], 0, 0, (0, 0), false, []),
  (35, .iaload, 3, [0], 0, 0, (0, 0), false, []),
  (36, .iload_n 1, 0, [], 0, 0, (0, 0), false, []),
  (37, .iconst (-1), 0, [], (-1), 0, (0, 0), false, []),
  (38, .ixor, 0, [], 0, 0, (0, 0), false, []),
  (39, .iand, 0, [], 0, 0, (0, 0), false, []),
  (40, .istore 5, 0, [], 0, 0, (0, 0), false, []),
  (42, .aload_n 0, 0, [], 0, 0, (0, 0), false, []),
  (43, .getfield 19, 2, [4, 2, 7, 2], 0, 0, (0, 0), false, []),
  (46, .iload 4, 0, [], 0, 0, (0, 0), false, []),
  (48, .iload 5, 0, [], 0, 0, (0, 0), false, []),
  (50, .iastore, 3, [0], 0, 0, (0, 0), false, []),
  (51, .iconst 0, 0, [], 0, 0, (0, 0), false, []),
  (52, .istore 6, 0, [], 0, 0, (0, 0), false, []),
  (54, .iload 6, 0, [], 0, 0, (0, 0), true, []),
  (56, .aload_n 0, 0, [], 0, 0, (0, 0), false, []),
  (57, .getfield 25, 2, [4, 4, 7, 0], 0, 0, (0, 0), false, []),
  (60, .if_icmp .ge 46, 1, [59], 0, 0, (0, 0), false, []),
  (63, .iload 5, 0, [], 0, 0, (0, 0), false, []),
  (65, .iload 6, 0, [], 0, 0, (0, 0), false, []),
  (67, .ishr, 0, [], 0, 0, (0, 0), false, []),
  (68, .ifCond .eq 38, 1, [59], 0, 0, (0, 0), false, []),
  (71, .iload 5, 0, [], 0, 0, (0, 0), false, []),
  (73, .iload 6, 0, [], 0, 0, (0, 0), false, []),
  (75, .invokestatic 60, 6, [3, 0, 2, 1, 0, 5], 0, 0, (0, 0), false, []),
  (78, .ifCond .eq 22, 1, [57], 0, 0, (0, 0), false, []),
  (81, .aload_n 0, 0, [], 0, 0, (0, 0), false, []),
  (82, .iload_n 1, 0, [], 0, 0, (0, 0), false, []),
  (83, .iconst 1, 0, [], 1, 0, (0, 0), false, []),
  (84, .iload 6, 0, [], 0, 0, (0, 0), false, []),
  (86, .ishl, 0, [], 0, 0, (0, 0), false, []),
  (87, .ior, 0, [], 0, 0, (0, 0), false, []),
  (88, .iload 6, 0, [], 0, 0, (0, 0), false, []),
  (90, .aload_n 0, 0, [], 0, 0, (0, 0), false, []),
  (91, .getfield 15, 2, [4, 1, 7, 2], 0, 0, (0, 0), false, []),
  (94, .iload 4, 0, [], 0, 0, (0, 0), false, []),
  (96, .laload, 3, [1], 0, 0, (0, 0), false, []),
  (97, .invokevirtual 48, 6, [0, 2, 4, 0, 0, 4], 0, 0, (0, 0), false, []),
  (100, .iinc 6 1, 0, [], 1, 0, (0, 0), false, []),
  (103, .goto (-49), 1, [33], 0, 0, (0, 0), false, []),
  (106, .iinc 3 1, 0, [], 1, 0, (0, 0), false, []),
  (109, .goto (-107), 1, [2], 0, 0, (0, 0), false, []),
  (112, .return_, 5, [], 0, 0, (0, 0), false, [])]
def eX4_spreadFrom : List zm_M := [mX5_has, mX4_cell, mX4_addWalks]
noncomputable def vX4_spreadFrom : List (zm_M × zm_S) := [(mX5_has, sX5_has), (mX4_cell, sX4_cell), (mX4_addWalks, sX4_addWalks)]
noncomputable def sX4_spreadFrom : zm_S := zsem vX4_spreadFrom rX4_spreadFrom 7
set_option maxRecDepth 100000 in
theorem aX4_spreadFrom : zall RX4 mX4_spreadFrom eX4_spreadFrom rX4_spreadFrom = true := by decide +kernel
set_option maxRecDepth 100000 in
theorem wX4_spreadFrom : ∀ w ∈ zwds RX4 mX4_spreadFrom eX4_spreadFrom rX4_spreadFrom, w ∈ gT := zwd_of [192, 188, 265, 38, 266, 363, 364, 42, 365, 190, 192, 265, 38, 266, 189, 359, 361, 6, 42, 362] (by decide +kernel) (by decide +kernel) (z7_no (by decide +kernel))
set_option maxRecDepth 100000 in
theorem xX4_spreadFrom : ∀ w ∈ zwxs RX4 mX4_spreadFrom eX4_spreadFrom rX4_spreadFrom, zspc w = true ∧ w ∈ lw_tbl := by decide +kernel
theorem tX4_spreadFrom {sc : Nat × (Nat → Int32)} {l : Launch} (hlt : l.stackTraces = false) : MetA sc l mX4_spreadFrom (sX4_spreadFrom) := zmet (M := mX4_spreadFrom) (own := RX4) (envM := eX4_spreadFrom) hlt rfl (by decide +kernel) (by decide +kernel) rfl (fun j q hq => by
  match j, hq with
  | 0, hq => cases hq; exact tX5_has hlt
  | 1, hq => cases hq; exact tX4_cell hlt
  | 2, hq => cases hq; exact tX4_addWalks hlt
  | n + 3, hq => cases hq) aX4_spreadFrom wX4_spreadFrom xX4_spreadFrom rfl
def mX4_spread : zm_M := (yX4_spread, cX4_spread, 5, none, (3, 0, 0, 72), 3, [], (0, 0))
set_option maxRecDepth 100000 in
def rX4_spread : List zm_R := [(0, .aload_n 0, 0, [], 0, 0, (0, 0), false, []),
  (1, .getfield 11, 2, [4, 0, 7, 2], 0, 0, (0, 0), false, []),
  (4, .iconst 0, 0, [], 0, 0, (0, 0), false, []),
  (5, .invokestatic 35, 6, [1, 0, 2, 0, 0, 0], 0, 0, (0, 0), false, []),
  (8, .aload_n 0, 0, [], 0, 0, (0, 0), false, []),
  (9, .aload_n 1, 0, [], 0, 0, (0, 0), false, []),
  (10, .getfield 41, 2, [2, 0, 15, 0], 0, 0, (0, 0), false, []),
  (13, .putfield 25, 2, [4, 4, 7, 0], 0, 0, (0, 0), false, []),
  (16, .aload_n 0, 0, [], 0, 0, (0, 0), false, []),
  (17, .aload_n 1, 0, [], 0, 0, (0, 0), false, []),
  (18, .invokevirtual 44, 6, [0, 1, 1, 1, 0, 2], 0, 0, (0, 0), false, []),
  (21, .putfield 29, 2, [4, 5, 7, 0], 0, 0, (0, 0), false, []),
  (24, .aload_n 0, 0, [], 0, 0, (0, 0), false, []),
  (25, .iload_n 2, 0, [], 0, 0, (0, 0), false, []),
  (26, .iload_n 3, 0, [], 0, 0, (0, 0), false, []),
  (27, .lconst 1, 0, [], 0, 1, (0, 0), false, []),
  (28, .invokevirtual 48, 6, [0, 2, 4, 0, 0, 4], 0, 0, (0, 0), false, []),
  (31, .iload_n 2, 0, [], 0, 0, (0, 0), false, []),
  (32, .istore 4, 0, [], 0, 0, (0, 0), false, []),
  (34, .iload 4, 0, [], 0, 0, (0, 0), true, [2, 3]),
  (36, .aload_n 0, 0, [], 0, 0, (0, 0), false, []),
  (37, .getfield 29, 2, [4, 5, 7, 0], 0, 0, (0, 0), false, []),
  (40, .if_icmp .gt 31, 1, [36], 0, 0, (0, 0), false, []),
  (43, .aload_n 0, 0, [], 0, 0, (0, 0), false, []),
  (44, .getfield 11, 2, [4, 0, 7, 2], 0, 0, (0, 0), false, []),
  (47, .iload 4, 0, [], 0, 0, (0, 0), false, []),
  (49, .iaload, 3, [0], 0, 0, (0, 0), false, []),
  (50, .ifCond .eq 15, 1, [34], 0, 0, (0, 0), false, []),
  (53, .aload_n 0, 0, [], 0, 0, (0, 0), false, []),
  (54, .iload 4, 0, [], 0, 0, (0, 0), false, []),
  (56, .aload_n 1, 0, [], 0, 0, (0, 0), false, []),
  (57, .iload 4, 0, [], 0, 0, (0, 0), false, []),
  (59, .invokevirtual 52, 6, [0, 5, 2, 3, 0, 2], 0, 0, (0, 0), false, []),
  (62, .invokevirtual 56, 6, [0, 6, 3, 0, 0, 4], 0, 0, (0, 0), false, []),
  (65, .iinc 4 1, 0, [], 1, 0, (0, 0), false, []),
  (68, .goto (-34), 1, [19], 0, 0, (0, 0), false, []),
  (71, .aload_n 0, 0, [], 0, 0, (0, 0), false, []),
  (72, .iconst 0, 0, [], 0, 0, (0, 0), false, []),
  (73, .putfield 32, 2, [4, 6, 7, 0], 0, 0, (0, 0), false, []),
  (76, .iconst 0, 0, [], 0, 0, (0, 0), false, []),
  (77, .istore 4, 0, [], 0, 0, (0, 0), false, []),
  (79, .iload 4, 0, [], 0, 0, (0, 0), true, [2, 3]),
  (81, .aload_n 0, 0, [], 0, 0, (0, 0), false, []),
  (82, .getfield 25, 2, [4, 4, 7, 0], 0, 0, (0, 0), false, []),
  (85, .if_icmp .ge 48, 1, [67], 0, 0, (0, 0), false, []),
  (88, .aload_n 0, 0, [], 0, 0, (0, 0), false, []),
  (89, .getfield 11, 2, [4, 0, 7, 2], 0, 0, (0, 0), false, []),
  (92, .aload_n 0, 0, [], 0, 0, (0, 0), false, []),
  (93, .getfield 29, 2, [4, 5, 7, 0], 0, 0, (0, 0), false, []),
  (96, .iaload, 3, [0], 0, 0, (0, 0), false, []),
  (97, .iload 4, 0, [], 0, 0, (0, 0), false, []),
  (99, .invokestatic 60, 6, [3, 3, 2, 1, 0, 5], 0, 0, (0, 0), false, []),
  (102, .ifCond .eq 25, 1, [65], 0, 0, (0, 0), false, []),
  (105, .aload_n 1, 0, [], 0, 0, (0, 0), false, []),
  (106, .iload 4, 0, [], 0, 0, (0, 0), false, []),
  (108, .invokevirtual 64, 6, [0, 4, 2, 1, 0, 2], 0, 0, (0, 0), false, []),
  (111, .ifCond .eq 16, 1, [65], 0, 0, (0, 0), false, []),
  (114, .aload_n 0, 0, [], 0, 0, (0, 0), false, []),
  (115, .dup, 0, [], 0, 0, (0, 0), false, []),
  (116, .getfield 32, 2, [4, 6, 7, 0], 0, 0, (0, 0), false, []),
  (119, .iconst 1, 0, [], 1, 0, (0, 0), false, []),
  (120, .iload 4, 0, [], 0, 0, (0, 0), false, []),
  (122, .ishl, 0, [], 0, 0, (0, 0), false, []),
  (123, .ior, 0, [], 0, 0, (0, 0), false, []),
  (124, .putfield 32, 2, [4, 6, 7, 0], 0, 0, (0, 0), false, []),
  (127, .iinc 4 1, 0, [], 1, 0, (0, 0), false, []),
  (130, .goto (-51), 1, [41], 0, 0, (0, 0), false, []),
  (133, .return_, 5, [], 0, 0, (0, 0), false, [])]
def eX4_spread : List zm_M := [mJ7_fill_53178, mX2_everyRoom, mX4_addWalks, mX5_has, mX2_mayEnd, mX2_leads, mX4_spreadFrom]
noncomputable def vX4_spread : List (zm_M × zm_S) := [(mJ7_fill_53178, sJ7_fill_53178), (mX2_everyRoom, sX2_everyRoom), (mX4_addWalks, sX4_addWalks), (mX5_has, sX5_has), (mX2_mayEnd, sX2_mayEnd), (mX2_leads, sX2_leads), (mX4_spreadFrom, sX4_spreadFrom)]
noncomputable def sX4_spread : zm_S := zsem vX4_spread rX4_spread 5
set_option maxRecDepth 100000 in
theorem aX4_spread : zall RX4 mX4_spread eX4_spread rX4_spread = true := by decide +kernel
set_option maxRecDepth 100000 in
theorem wX4_spread : ∀ w ∈ zwds RX4 mX4_spread eX4_spread rX4_spread, w ∈ gT := zwd_of [188, 352, 353, 49, 354, 95, 192, 355, 356, 357, 40, 358, 193, 359, 361, 6, 42, 362, 193, 188, 367, 368, 369, 40, 370, 378, 380, 8, 42, 381, 194, 192, 188, 193, 265, 38, 266, 382, 383, 384, 40, 385, 194, 194] (by decide +kernel) (by decide +kernel) (z7_no (by decide +kernel))
set_option maxRecDepth 100000 in
theorem xX4_spread : ∀ w ∈ zwxs RX4 mX4_spread eX4_spread rX4_spread, zspc w = true ∧ w ∈ lw_tbl := by decide +kernel
theorem tX4_spread {sc : Nat × (Nat → Int32)} {l : Launch} (hlt : l.stackTraces = false) : MetA sc l mX4_spread (sX4_spread) := zmet (M := mX4_spread) (own := RX4) (envM := eX4_spread) hlt rfl (by decide +kernel) (by decide +kernel) rfl (fun j q hq => by
  match j, hq with
  | 0, hq => cases hq; exact tJ7_fill_53178 hlt
  | 1, hq => cases hq; exact tX2_everyRoom hlt
  | 2, hq => cases hq; exact tX4_addWalks hlt
  | 3, hq => cases hq; exact tX5_has hlt
  | 4, hq => cases hq; exact tX2_mayEnd hlt
  | 5, hq => cases hq; exact tX2_leads hlt
  | 6, hq => cases hq; exact tX4_spreadFrom hlt
  | n + 7, hq => cases hq) aX4_spread wX4_spread xX4_spread rfl
def mX4_toursOn : zm_M := (yX4_toursOn, cX4_toursOn, 7, (some .long), (1, 0, 0, 21), 2, [], (0, 0))
set_option maxRecDepth 100000 in
def rX4_toursOn : List zm_R := [(0, .iload_n 1, 0, [], 0, 0, (0, 0), false, []),
  (1, .aload_n 0, 0, [], 0, 0, (0, 0), false, []),
  (2, .getfield 29, 2, [4, 5, 7, 0], 0, 0, (0, 0), false, []),
  (5, .if_icmp .ne 20, 1, [13], 0, 0, (0, 0), false, []),
  (8, .aload_n 0, 0, [], 0, 0, (0, 0), false, []),
  (9, .getfield 32, 2, [4, 6, 7, 0], 0, 0, (0, 0), false, []),
  (12, .iload_n 2, 0, [], 0, 0, (0, 0), false, []),
  (13, .invokestatic 60, 6, [3, 1, 2, 1, 0, 5], 0, 0, (0, 0), false, []),
  (16, .ifCond .eq 7, 1, [11], 0, 0, (0, 0), false, []),
  (19, .lconst 1, 0, [], 0, 1, (0, 0), false, []),
  (20, .goto 4, 1, [12], 0, 0, (0, 0), false, []),
  (23, .lconst 0, 0, [], 0, 0, (0, 0), false, []),
  (24, .lreturn, 5, [], 0, 0, (0, 0), false, []),
  (25, .aload_n 0, 0, [], 0, 0, (0, 0), false, []),
  (26, .getfield 19, 2, [4, 2, 7, 2], 0, 0, (0, 0), false, []),
  (29, .iload_n 1, 0, [], 0, 0, (0, 0), false, []),
  (30, .iload_n 2, 0, [], 0, 0, (0, 0), false, []),
  (31, .invokestatic 68, 6, [1, 0, 2, 1, 0, 4], 0, 0, (0, 0), false, []),
  (34, .iaload, 3, [0], 0, 0, (0, 0), false, []),
  (35, .istore_n 3, 0, [], 0, 0, (0, 0), false, []),
  (36, .lconst 0, 0, [], 0, 0, (0, 0), false, []),
  (37, .lstore 4, 0, [], 0, 0, (0, 0), false, []),
  (39, .iconst 0, 0, [], 0, 0, (0, 0), false, []),
  (40, .istore 6, 0, [], 0, 0, (0, 0), false, []),
  (42, .iload 6, 0, [], 0, 0, (0, 0), true, [2, 5]),
  (44, .aload_n 0, 0, [], 0, 0, (0, 0), false, []),
  (45, .getfield 25, 2, [4, 4, 7, 0], 0, 0, (0, 0), false, []),
  (48, .if_icmp .ge 46, 1, [51], 0, 0, (0, 0), false, []),
  (51, .iload_n 3, 0, [], 0, 0, (0, 0), false, []),
  (52, .iload 6, 0, [], 0, 0, (0, 0), false, []),
  (54, .ishr, 0, [], 0, 0, (0, 0), false, []),
  (55, .ifCond .eq 39, 1, [51], 0, 0, (0, 0), false, []),
  (58, .iload_n 3, 0, [], 0, 0, (0, 0), false, []),
  (59, .iload 6, 0, [], 0, 0, (0, 0), false, []),
  (61, .invokestatic 60, 6, [3, 1, 2, 1, 0, 5], 0, 0, (0, 0), false, []),
  (64, .ifCond .eq 24, 1, [49], 0, 0, (0, 0), false, []),
  (67, .lload 4, 0, [], 0, 0, (0, 0), false, []),
  (69, .aload_n 0, 0, [], 0, 0, (0, 0), false, []),
  (70, .getfield 22, 2, [4, 3, 7, 2], 0, 0, (0, 0), false, []),
  (73, .iload_n 1, 0, [], 0, 0, (0, 0), false, []),
  (74, .iconst 1, 0, [], 1, 0, (0, 0), false, []),
  (75, .iload 6, 0, [], 0, 0, (0, 0), false, []),
  (77, .ishl, 0, [], 0, 0, (0, 0), false, []),
  (78, .ior, 0, [], 0, 0, (0, 0), false, []),
  (79, .iload 6, 0, [], 0, 0, (0, 0), false, []),
  (81, .invokestatic 68, 6, [1, 0, 2, 1, 0, 4], 0, 0, (0, 0), false, []),
  (84, .laload, 3, [1], 0, 0, (0, 0), false, []),
  (85, .ladd, 0, [], 0, 0, (0, 0), false, []),
  (86, .lstore 4, 0, [], 0, 0, (0, 0), false, []),
  (88, .iinc 6 1, 0, [], 1, 0, (0, 0), false, []),
  (91, .goto (-49), 1, [24], 0, 0, (0, 0), false, []),
  (94, .lload 4, 0, [], 0, 0, (0, 0), false, []),
  (96, .lreturn, 5, [], 0, 0, (0, 0), false, [])]
def eX4_toursOn : List zm_M := [mX4_cell, mX5_has]
noncomputable def vX4_toursOn : List (zm_M × zm_S) := [(mX4_cell, sX4_cell), (mX5_has, sX5_has)]
noncomputable def sX4_toursOn : zm_S := zsem vX4_toursOn rX4_toursOn 7
set_option maxRecDepth 100000 in
theorem aX4_toursOn : zall RX4 mX4_toursOn eX4_toursOn rX4_toursOn = true := by decide +kernel
set_option maxRecDepth 100000 in
theorem wX4_toursOn : ∀ w ∈ zwds RX4 mX4_toursOn eX4_toursOn rX4_toursOn, w ∈ gT := zwd_of [193, 194, 265, 38, 266, 190, 363, 364, 42, 365, 192, 265, 38, 266, 191, 363, 364, 42, 365] (by decide +kernel) (by decide +kernel) (z7_no (by decide +kernel))
set_option maxRecDepth 100000 in
theorem xX4_toursOn : ∀ w ∈ zwxs RX4 mX4_toursOn eX4_toursOn rX4_toursOn, zspc w = true ∧ w ∈ lw_tbl := by decide +kernel
theorem tX4_toursOn {sc : Nat × (Nat → Int32)} {l : Launch} (hlt : l.stackTraces = false) : MetA sc l mX4_toursOn (sX4_toursOn) := zmet (M := mX4_toursOn) (own := RX4) (envM := eX4_toursOn) hlt rfl (by decide +kernel) (by decide +kernel) rfl (fun j q hq => by
  match j, hq with
  | 0, hq => cases hq; exact tX4_cell hlt
  | 1, hq => cases hq; exact tX5_has hlt
  | n + 2, hq => cases hq) aX4_toursOn wX4_toursOn xX4_toursOn rfl
def mX4_gather : zm_M := (yX4_gather, cX4_gather, 3, none, (2, 0, 0, 47), 0, [], (0, 0))
set_option maxRecDepth 100000 in
def rX4_gather : List zm_R := [(0, .aload_n 0, 0, [], 0, 0, (0, 0), false, []),
  (1, .getfield 29, 2, [4, 5, 7, 0], 0, 0, (0, 0), false, []),
  (4, .istore_n 1, 0, [], 0, 0, (0, 0), false, []),
  (5, .iload_n 1, 0, [], 0, 0, (0, 0), true, [2]),
  (6, .ifCond .le 63, 1, [37], 0, 0, (0, 0), false, []),
  (9, .iconst 0, 0, [], 0, 0, (0, 0), false, []),
  (10, .istore_n 2, 0, [], 0, 0, (0, 0), false, []),
  (11, .iload_n 2, 0, [], 0, 0, (0, 0), true, []),
  (12, .aload_n 0, 0, [], 0, 0, (0, 0), false, []),
  (13, .getfield 25, 2, [4, 4, 7, 0], 0, 0, (0, 0), false, []),
  (16, .if_icmp .ge 47, 1, [35], 0, 0, (0, 0), false, []),
  (19, .aload_n 0, 0, [], 0, 0, (0, 0), false, []),
  (20, .getfield 11, 2, [4, 0, 7, 2], 0, 0, (0, 0), false, []),
  (23, .iload_n 1, 0, [], 0, 0, (0, 0), false, []),
  (24, .iaload, 3, [0], 0, 0, (0, 0), false, []),
  (25, .ifCond .eq 38, 1, [35], 0, 0, (0, 0), false, []),
  (28, .aload_n 0, 0, [], 0, 0, (0, 0), false, []),
  (29, .getfield 11, 2, [4, 0, 7, 2], 0, 0, (0, 0), false, []),
  (32, .iload_n 1, 0, [], 0, 0, (0, 0), false, []),
  (33, .iaload, 3, [0], 0, 0, (0, 0), false, []),
  (34, .iload_n 2, 0, [], 0, 0, (0, 0), false, []),
  (35, .invokestatic 60, 6, [3, 0, 2, 1, 0, 5], 0, 0, (0, 0), false, []),
  (38, .ifCond .eq 19, 1, [33], 0, 0, (0, 0), false, []),
  (41, .aload_n 0, 0, [], 0, 0, (0, 0), false, []),
  (42, .getfield 22, 2, [4, 3, 7, 2], 0, 0, (0, 0), false, []),
  (45, .iload_n 1, 0, [], 0, 0, (0, 0), false, []),
  (46, .iload_n 2, 0, [], 0, 0, (0, 0), false, []),
  (47, .invokestatic 68, 6, [1, 1, 2, 1, 0, 4], 0, 0, (0, 0), false, []),
  (50, .aload_n 0, 0, [], 0, 0, (0, 0), false, []),
  (51, .iload_n 1, 0, [], 0, 0, (0, 0), false, []),
  (52, .iload_n 2, 0, [], 0, 0, (0, 0), false, []),
  (53, .invokevirtual 72, 6, [0, 2, 3, 2, 0, 4], 0, 0, (0, 0), false, []),
  (56, .lastore, 3, [1], 0, 0, (0, 0), false, []),
  (57, .iinc 2 1, 0, [], 1, 0, (0, 0), false, []),
  (60, .goto (-49), 1, [7], 0, 0, (0, 0), false, []),
  (63, .iinc 1 (-1), 0, [], (-1), 0, (0, 0), false, []),
  (66, .goto (-61), 1, [3], 0, 0, (0, 0), false, []),
  (69, .return_, 5, [], 0, 0, (0, 0), false, [])]
def eX4_gather : List zm_M := [mX5_has, mX4_cell, mX4_toursOn]
noncomputable def vX4_gather : List (zm_M × zm_S) := [(mX5_has, sX5_has), (mX4_cell, sX4_cell), (mX4_toursOn, sX4_toursOn)]
noncomputable def sX4_gather : zm_S := zsem vX4_gather rX4_gather 3
set_option maxRecDepth 100000 in
theorem aX4_gather : zall RX4 mX4_gather eX4_gather rX4_gather = true := by decide +kernel
set_option maxRecDepth 100000 in
theorem wX4_gather : ∀ w ∈ zwds RX4 mX4_gather eX4_gather rX4_gather, w ∈ gT := zwd_of [193, 192, 188, 188, 265, 38, 266, 191, 363, 364, 42, 365, 390, 392, 9, 42, 393] (by decide +kernel) (by decide +kernel) (z7_no (by decide +kernel))
set_option maxRecDepth 100000 in
theorem xX4_gather : ∀ w ∈ zwxs RX4 mX4_gather eX4_gather rX4_gather, zspc w = true ∧ w ∈ lw_tbl := by decide +kernel
theorem tX4_gather {sc : Nat × (Nat → Int32)} {l : Launch} (hlt : l.stackTraces = false) : MetA sc l mX4_gather (sX4_gather) := zmet (M := mX4_gather) (own := RX4) (envM := eX4_gather) hlt rfl (by decide +kernel) (by decide +kernel) rfl (fun j q hq => by
  match j, hq with
  | 0, hq => cases hq; exact tX5_has hlt
  | 1, hq => cases hq; exact tX4_cell hlt
  | 2, hq => cases hq; exact tX4_toursOn hlt
  | n + 3, hq => cases hq) aX4_gather wX4_gather xX4_gather rfl
def mX4_begun : zm_M := (yX4_begun, cX4_begun, 3, (some .long), (1, 0, 0, 21), 2, [], (0, 0))
set_option maxRecDepth 100000 in
def rX4_begun : List zm_R := [(0, .aload_n 0, 0, [], 0, 0, (0, 0), false, []),
  (1, .getfield 11, 2, [4, 0, 7, 2], 0, 0, (0, 0), false, []),
  (4, .iload_n 1, 0, [], 0, 0, (0, 0), false, []),
  (5, .iaload, 3, [0], 0, 0, (0, 0), false, []),
  (6, .iload_n 2, 0, [], 0, 0, (0, 0), false, []),
  (7, .invokestatic 60, 6, [3, 0, 2, 1, 0, 5], 0, 0, (0, 0), false, []),
  (10, .ifCond .eq 16, 1, [14], 0, 0, (0, 0), false, []),
  (13, .aload_n 0, 0, [], 0, 0, (0, 0), false, []),
  (14, .getfield 22, 2, [4, 3, 7, 2], 0, 0, (0, 0), false, []),
  (17, .iload_n 1, 0, [], 0, 0, (0, 0), false, []),
  (18, .iload_n 2, 0, [], 0, 0, (0, 0), false, []),
  (19, .invokestatic 68, 6, [1, 1, 2, 1, 0, 4], 0, 0, (0, 0), false, []),
  (22, .laload, 3, [1], 0, 0, (0, 0), false, []),
  (23, .goto 4, 1, [15], 0, 0, (0, 0), false, []),
  (26, .lconst 0, 0, [], 0, 0, (0, 0), false, []),
  (27, .lreturn, 5, [], 0, 0, (0, 0), false, [])]
def eX4_begun : List zm_M := [mX5_has, mX4_cell]
noncomputable def vX4_begun : List (zm_M × zm_S) := [(mX5_has, sX5_has), (mX4_cell, sX4_cell)]
noncomputable def sX4_begun : zm_S := zsem vX4_begun rX4_begun 3
set_option maxRecDepth 100000 in
theorem aX4_begun : zall RX4 mX4_begun eX4_begun rX4_begun = true := by decide +kernel
set_option maxRecDepth 100000 in
theorem wX4_begun : ∀ w ∈ zwds RX4 mX4_begun eX4_begun rX4_begun, w ∈ gT := zwd_of [188, 265, 38, 266, 191, 363, 364, 42, 365] (by decide +kernel) (by decide +kernel) (z7_no (by decide +kernel))
set_option maxRecDepth 100000 in
theorem xX4_begun : ∀ w ∈ zwxs RX4 mX4_begun eX4_begun rX4_begun, zspc w = true ∧ w ∈ lw_tbl := by decide +kernel
theorem tX4_begun {sc : Nat × (Nat → Int32)} {l : Launch} (hlt : l.stackTraces = false) : MetA sc l mX4_begun (sX4_begun) := zmet (M := mX4_begun) (own := RX4) (envM := eX4_begun) hlt rfl (by decide +kernel) (by decide +kernel) rfl (fun j q hq => by
  match j, hq with
  | 0, hq => cases hq; exact tX5_has hlt
  | 1, hq => cases hq; exact tX4_cell hlt
  | n + 2, hq => cases hq) aX4_begun wX4_begun xX4_begun rfl
def mX4_walksTo : zm_M := (yX4_walksTo, cX4_walksTo, 3, (some .long), (1, 0, 0, 21), 2, [], (0, 0))
set_option maxRecDepth 100000 in
def rX4_walksTo : List zm_R := [(0, .aload_n 0, 0, [], 0, 0, (0, 0), false, []),
  (1, .getfield 11, 2, [4, 0, 7, 2], 0, 0, (0, 0), false, []),
  (4, .iload_n 1, 0, [], 0, 0, (0, 0), false, []),
  (5, .iaload, 3, [0], 0, 0, (0, 0), false, []),
  (6, .iload_n 2, 0, [], 0, 0, (0, 0), false, []),
  (7, .invokestatic 60, 6, [3, 0, 2, 1, 0, 5], 0, 0, (0, 0), false, []),
  (10, .ifCond .eq 16, 1, [14], 0, 0, (0, 0), false, []),
  (13, .aload_n 0, 0, [], 0, 0, (0, 0), false, []),
  (14, .getfield 15, 2, [4, 1, 7, 2], 0, 0, (0, 0), false, []),
  (17, .iload_n 1, 0, [], 0, 0, (0, 0), false, []),
  (18, .iload_n 2, 0, [], 0, 0, (0, 0), false, []),
  (19, .invokestatic 68, 6, [1, 1, 2, 1, 0, 4], 0, 0, (0, 0), false, []),
  (22, .laload, 3, [1], 0, 0, (0, 0), false, []),
  (23, .goto 4, 1, [15], 0, 0, (0, 0), false, []),
  (26, .lconst 0, 0, [], 0, 0, (0, 0), false, []),
  (27, .lreturn, 5, [], 0, 0, (0, 0), false, [])]
def eX4_walksTo : List zm_M := [mX5_has, mX4_cell]
noncomputable def vX4_walksTo : List (zm_M × zm_S) := [(mX5_has, sX5_has), (mX4_cell, sX4_cell)]
noncomputable def sX4_walksTo : zm_S := zsem vX4_walksTo rX4_walksTo 3
set_option maxRecDepth 100000 in
theorem aX4_walksTo : zall RX4 mX4_walksTo eX4_walksTo rX4_walksTo = true := by decide +kernel
set_option maxRecDepth 100000 in
theorem wX4_walksTo : ∀ w ∈ zwds RX4 mX4_walksTo eX4_walksTo rX4_walksTo, w ∈ gT := zwd_of [188, 265, 38, 266, 189, 363, 364, 42, 365] (by decide +kernel) (by decide +kernel) (z7_no (by decide +kernel))
set_option maxRecDepth 100000 in
theorem xX4_walksTo : ∀ w ∈ zwxs RX4 mX4_walksTo eX4_walksTo rX4_walksTo, zspc w = true ∧ w ∈ lw_tbl := by decide +kernel
theorem tX4_walksTo {sc : Nat × (Nat → Int32)} {l : Launch} (hlt : l.stackTraces = false) : MetA sc l mX4_walksTo (sX4_walksTo) := zmet (M := mX4_walksTo) (own := RX4) (envM := eX4_walksTo) hlt rfl (by decide +kernel) (by decide +kernel) rfl (fun j q hq => by
  match j, hq with
  | 0, hq => cases hq; exact tX5_has hlt
  | 1, hq => cases hq; exact tX4_cell hlt
  | n + 2, hq => cases hq) aX4_walksTo wX4_walksTo xX4_walksTo rfl
def mX4_toursBy : zm_M := (yX4_toursBy, cX4_toursBy, 3, (some .long), (2, 0, 0, 43), 2, [], (0, 0))
set_option maxRecDepth 100000 in
def rX4_toursBy : List zm_R := [(0, .aload_n 0, 0, [], 0, 0, (0, 0), false, []),
  (1, .iload_n 1, 0, [], 0, 0, (0, 0), false, []),
  (2, .iload_n 2, 0, [], 0, 0, (0, 0), false, []),
  (3, .invokevirtual 76, 6, [0, 0, 3, 2, 0, 4], 0, 0, (0, 0), false, []),
  (6, .aload_n 0, 0, [], 0, 0, (0, 0), false, []),
  (7, .iload_n 1, 0, [], 0, 0, (0, 0), false, []),
  (8, .iload_n 2, 0, [], 0, 0, (0, 0), false, []),
  (9, .invokevirtual 79, 6, [0, 1, 3, 2, 0, 4], 0, 0, (0, 0), false, []),
  (12, .lmul, 0, [], 0, 0, (0, 0), false, []),
  (13, .lreturn, 5, [], 0, 0, (0, 0), false, [])]
def eX4_toursBy : List zm_M := [mX4_walksTo, mX4_begun]
noncomputable def vX4_toursBy : List (zm_M × zm_S) := [(mX4_walksTo, sX4_walksTo), (mX4_begun, sX4_begun)]
noncomputable def sX4_toursBy : zm_S := zsem vX4_toursBy rX4_toursBy 3
set_option maxRecDepth 100000 in
theorem aX4_toursBy : zall RX4 mX4_toursBy eX4_toursBy rX4_toursBy = true := by decide +kernel
set_option maxRecDepth 100000 in
theorem wX4_toursBy : ∀ w ∈ zwds RX4 mX4_toursBy eX4_toursBy rX4_toursBy, w ∈ gT := zwd_of [1182, 1183, 1184, 42, 1185, 408, 395, 396, 42, 397] (by decide +kernel) (by decide +kernel) (z7_no (by decide +kernel))
set_option maxRecDepth 100000 in
theorem xX4_toursBy : ∀ w ∈ zwxs RX4 mX4_toursBy eX4_toursBy rX4_toursBy, zspc w = true ∧ w ∈ lw_tbl := by decide +kernel
theorem tX4_toursBy {sc : Nat × (Nat → Int32)} {l : Launch} (hlt : l.stackTraces = false) : MetA sc l mX4_toursBy (sX4_toursBy) := zmet (M := mX4_toursBy) (own := RX4) (envM := eX4_toursBy) hlt rfl (by decide +kernel) (by decide +kernel) rfl (fun j q hq => by
  match j, hq with
  | 0, hq => cases hq; exact tX4_walksTo hlt
  | 1, hq => cases hq; exact tX4_begun hlt
  | n + 2, hq => cases hq) aX4_toursBy wX4_toursBy xX4_toursBy rfl
def mX4_fullWalks : zm_M := (yX4_fullWalks, cX4_fullWalks, 4, (some .long), (2, 0, 0, 43), 0, [], (0, 0))
set_option maxRecDepth 100000 in
def rX4_fullWalks : List zm_R := [(0, .lconst 0, 0, [], 0, 0, (0, 0), false, []),
  (1, .lstore_n 1, 0, [], 0, 0, (0, 0), false, []),
  (2, .iconst 0, 0, [], 0, 0, (0, 0), false, []),
  (3, .istore_n 3, 0, [], 0, 0, (0, 0), false, []),
  (4, .iload_n 3, 0, [], 0, 0, (0, 0), true, [2]),
  (5, .aload_n 0, 0, [], 0, 0, (0, 0), false, []),
  (6, .getfield 25, 2, [4, 4, 7, 0], 0, 0, (0, 0), false, []),
  (9, .if_icmp .ge 32, 1, [23], 0, 0, (0, 0), false, []),
  (12, .aload_n 0, 0, [], 0, 0, (0, 0), false, []),
  (13, .getfield 32, 2, [4, 6, 7, 0], 0, 0, (0, 0), false, []),
  (16, .iload_n 3, 0, [], 0, 0, (0, 0), false, []),
  (17, .invokestatic 60, 6, [3, 0, 2, 1, 0, 5], 0, 0, (0, 0), false, []),
  (20, .ifCond .eq 15, 1, [21], 0, 0, (0, 0), false, []),
  (23, .lload_n 1, 0, [], 0, 0, (0, 0), false, []),
  (24, .aload_n 0, 0, [], 0, 0, (0, 0), false, []),
  (25, .aload_n 0, 0, [], 0, 0, (0, 0), false, []),
  (26, .getfield 29, 2, [4, 5, 7, 0], 0, 0, (0, 0), false, []),
  (29, .iload_n 3, 0, [], 0, 0, (0, 0), false, []),
  (30, .invokevirtual 76, 6, [0, 1, 3, 2, 0, 4], 0, 0, (0, 0), false, []),
  (33, .ladd, 0, [], 0, 0, (0, 0), false, []),
  (34, .lstore_n 1, 0, [], 0, 0, (0, 0), false, []),
  (35, .iinc 3 1, 0, [], 1, 0, (0, 0), false, []),
  (38, .goto (-34), 1, [4], 0, 0, (0, 0), false, []),
  (41, .lload_n 1, 0, [], 0, 0, (0, 0), false, []),
  (42, .lreturn, 5, [], 0, 0, (0, 0), false, [])]
def eX4_fullWalks : List zm_M := [mX5_has, mX4_walksTo]
noncomputable def vX4_fullWalks : List (zm_M × zm_S) := [(mX5_has, sX5_has), (mX4_walksTo, sX4_walksTo)]
noncomputable def sX4_fullWalks : zm_S := zsem vX4_fullWalks rX4_fullWalks 4
set_option maxRecDepth 100000 in
theorem aX4_fullWalks : zall RX4 mX4_fullWalks eX4_fullWalks rX4_fullWalks = true := by decide +kernel
set_option maxRecDepth 100000 in
theorem wX4_fullWalks : ∀ w ∈ zwds RX4 mX4_fullWalks eX4_fullWalks rX4_fullWalks, w ∈ gT := zwd_of [192, 194, 265, 38, 266, 193, 1182, 1183, 1184, 42, 1185] (by decide +kernel) (by decide +kernel) (z7_no (by decide +kernel))
set_option maxRecDepth 100000 in
theorem xX4_fullWalks : ∀ w ∈ zwxs RX4 mX4_fullWalks eX4_fullWalks rX4_fullWalks, zspc w = true ∧ w ∈ lw_tbl := by decide +kernel
theorem tX4_fullWalks {sc : Nat × (Nat → Int32)} {l : Launch} (hlt : l.stackTraces = false) : MetA sc l mX4_fullWalks (sX4_fullWalks) := zmet (M := mX4_fullWalks) (own := RX4) (envM := eX4_fullWalks) hlt rfl (by decide +kernel) (by decide +kernel) rfl (fun j q hq => by
  match j, hq with
  | 0, hq => cases hq; exact tX5_has hlt
  | 1, hq => cases hq; exact tX4_walksTo hlt
  | n + 2, hq => cases hq) aX4_fullWalks wX4_fullWalks xX4_fullWalks rfl
def mX4_follow : zm_M := (yX4_follow, cX4_follow, 13, none, (2, 0, 0, 43), 3, [], (0, 0))
set_option maxRecDepth 100000 in
def rX4_follow : List zm_R := [(0, .iconst 0, 0, [], 0, 0, (0, 0), false, []),
  (1, .istore 5, 0, [], 0, 0, (0, 0), false, []),
  (3, .iconst 0, 0, [], 0, 0, (0, 0), false, []),
  (4, .istore 6, 0, [], 0, 0, (0, 0), false, []),
  (6, .iload 6, 0, [], 0, 0, (0, 0), true, [4, 7, 8, 9, 10, 11, 12]),
  (8, .iload_n 2, 0, [], 0, 0, (0, 0), false, []),
  (9, .if_icmp .ge 20, 1, [17], 0, 0, (0, 0), false, []),
  (12, .iload 5, 0, [], 0, 0, (0, 0), false, []),
  (14, .iconst 1, 0, [], 1, 0, (0, 0), false, []),
  (15, .aload_n 1, 0, [], 0, 0, (0, 0), false, []),
  (16, .iload 6, 0, [], 0, 0, (0, 0), false, []),
  (18, .iaload, 3, [0], 0, 0, (0, 0), false, []),
  (19, .ishl, 0, [], 0, 0, (0, 0), false, []),
  (20, .ior, 0, [], 0, 0, (0, 0), false, []),
  (21, .istore 5, 0, [], 0, 0, (0, 0), false, []),
  (23, .iinc 6 1, 0, [], 1, 0, (0, 0), false, []),
  (26, .goto (-20), 1, [4], 0, 0, (0, 0), false, []),
  (29, .lload_n 3, 0, [], 0, 0, (0, 0), false, []),
  (30, .lstore 6, 0, [], 0, 0, (0, 0), false, []),
  (32, .iload_n 2, 0, [], 0, 0, (0, 0), false, []),
  (33, .istore 8, 0, [], 0, 0, (0, 0), false, []),
  (35, .iload 8, 0, [], 0, 0, (0, 0), true, [2, 3, 4, 7, 9, 10, 11, 12]),
  (37, .aload_n 0, 0, [], 0, 0, (0, 0), false, []),
  (38, .getfield 25, 2, [4, 4, 7, 0], 0, 0, (0, 0), false, []),
  (41, .if_icmp .ge 109, 1, [82], 0, 0, (0, 0), false, []),
  (44, .iconst 0, 0, [], 0, 0, (0, 0), false, []),
  (45, .istore 9, 0, [], 0, 0, (0, 0), false, []),
  (47, .aload_n 0, 0, [], 0, 0, (0, 0), false, []),
  (48, .getfield 19, 2, [4, 2, 7, 2], 0, 0, (0, 0), false, []),
  (51, .iload 5, 0, [], 0, 0, (0, 0), false, []),
  (53, .aload_n 1, 0, [], 0, 0, (0, 0), false, []),
  (54, .iload 8, 0, [], 0, 0, (0, 0), false, []),
  (56, .iconst 1, 0, [], 1, 0, (0, 0), false, []),
  (57, .isub, 0, [], 0, 0, (0, 0), false, []),
  (58, .iaload, 3, [0], 0, 0, (0, 0), false, []),
  (59, .invokestatic 68, 6, [1, 0, 2, 1, 0, 4], 0, 0, (0, 0), false, []),
  (62, .iaload, 3, [0], 0, 0, (0, 0), false, []),
  (63, .istore 10, 0, [], 0, 0, (0, 0), false, []),
  (65, .iload 9, 0, [], 0, 0, (0, 0), true, [2, 3, 4, 7, 11, 12]),
  (67, .iconst 1, 0, [], 1, 0, (0, 0), false, []),
  (68, .iadd, 0, [], 0, 0, (0, 0), false, []),
  (69, .aload_n 0, 0, [], 0, 0, (0, 0), false, []),
  (70, .getfield 25, 2, [4, 4, 7, 0], 0, 0, (0, 0), false, []),
  (73, .if_icmp .ge 56, 1, [70], 0, 0, (0, 0), false, []),
  (76, .iload 10, 0, [], 0, 0, (0, 0), false, []),
  (78, .iload 9, 0, [], 0, 0, (0, 0), false, []),
  (80, .invokestatic 60, 6, [3, 1, 2, 1, 0, 5], 0, 0, (0, 0), false, []),
  (83, .ifCond .eq 19, 1, [57], 0, 0, (0, 0), false, []),
  (86, .aload_n 0, 0, [], 0, 0, (0, 0), false, []),
  (87, .iload 5, 0, [], 0, 0, (0, 0), false, []),
  (89, .iconst 1, 0, [], 1, 0, (0, 0), false, []),
  (90, .iload 9, 0, [], 0, 0, (0, 0), false, []),
  (92, .ishl, 0, [], 0, 0, (0, 0), false, []),
  (93, .ior, 0, [], 0, 0, (0, 0), false, []),
  (94, .iload 9, 0, [], 0, 0, (0, 0), false, []),
  (96, .invokevirtual 79, 6, [0, 2, 3, 2, 0, 4], 0, 0, (0, 0), false, []),
  (99, .goto 4, 1, [58], 0, 0, (0, 0), false, []),
  (102, .lconst 0, 0, [], 0, 0, (0, 0), false, []),
  (103, .lstore 11, 0, [], 0, 0, (0, 0), false, []),
  (105, .lload 6, 0, [], 0, 0, (0, 0), false, []),
  (107, .lload 11, 0, [], 0, 0, (0, 0), false, []),
  (109, .lcmp, 0, [], 0, 0, (0, 0), false, []),
  (110, .ifCond .ge 6, 1, [64], 0, 0, (0, 0), false, []),
  (113, .goto 16, 1, [70], 0, 0, (0, 0), false, []),
  (116, .lload 6, 0, [], 0, 0, (0, 0), false, []),
  (118, .lload 11, 0, [], 0, 0, (0, 0), false, []),
  (120, .lsub, 0, [], 0, 0, (0, 0), false, []),
  (121, .lstore 6, 0, [], 0, 0, (0, 0), false, []),
  (123, .iinc 9 1, 0, [], 1, 0, (0, 0), false, []),
  (126, .goto (-61), 1, [38], 0, 0, (0, 0), false, []),
  (129, .aload_n 1, 0, [], 0, 0, (0, 0), false, []),
  (130, .iload 8, 0, [], 0, 0, (0, 0), false, []),
  (132, .iload 9, 0, [], 0, 0, (0, 0), false, []),
  (134, .iastore, 3, [0], 0, 0, (0, 0), false, []),
  (135, .iload 5, 0, [], 0, 0, (0, 0), false, []),
  (137, .iconst 1, 0, [], 1, 0, (0, 0), false, []),
  (138, .iload 9, 0, [], 0, 0, (0, 0), false, []),
  (140, .ishl, 0, [], 0, 0, (0, 0), false, []),
  (141, .ior, 0, [], 0, 0, (0, 0), false, []),
  (142, .istore 5, 0, [], 0, 0, (0, 0), false, []),
  (144, .iinc 8 1, 0, [], 1, 0, (0, 0), false, []),
  (147, .goto (-112), 1, [21], 0, 0, (0, 0), false, []),
  (150, .return_, 5, [], 0, 0, (0, 0), false, [])]
def eX4_follow : List zm_M := [mX4_cell, mX5_has, mX4_begun]
noncomputable def vX4_follow : List (zm_M × zm_S) := [(mX4_cell, sX4_cell), (mX5_has, sX5_has), (mX4_begun, sX4_begun)]
noncomputable def sX4_follow : zm_S := zsem vX4_follow rX4_follow 13
set_option maxRecDepth 100000 in
theorem aX4_follow : zall RX4 mX4_follow eX4_follow rX4_follow = true := by decide +kernel
set_option maxRecDepth 100000 in
theorem wX4_follow : ∀ w ∈ zwds RX4 mX4_follow eX4_follow rX4_follow, w ∈ gT := zwd_of [192, 190, 363, 364, 42, 365, 192, 265, 38, 266, 408, 395, 396, 42, 397] (by decide +kernel) (by decide +kernel) (z7_no (by decide +kernel))
set_option maxRecDepth 100000 in
theorem xX4_follow : ∀ w ∈ zwxs RX4 mX4_follow eX4_follow rX4_follow, zspc w = true ∧ w ∈ lw_tbl := by decide +kernel
theorem tX4_follow {sc : Nat × (Nat → Int32)} {l : Launch} (hlt : l.stackTraces = false) : MetA sc l mX4_follow (sX4_follow) := zmet (M := mX4_follow) (own := RX4) (envM := eX4_follow) hlt rfl (by decide +kernel) (by decide +kernel) rfl (fun j q hq => by
  match j, hq with
  | 0, hq => cases hq; exact tX4_cell hlt
  | 1, hq => cases hq; exact tX5_has hlt
  | 2, hq => cases hq; exact tX4_begun hlt
  | n + 3, hq => cases hq) aX4_follow wX4_follow xX4_follow rfl
def mX4_toursAhead : zm_M := (yX4_toursAhead, cX4_toursAhead, 9, (some .long), (2, 0, 0, 43), 2, [], (0, 0))
set_option maxRecDepth 100000 in
def rX4_toursAhead : List zm_R := [(0, .iconst 0, 0, [], 0, 0, (0, 0), false, []),
  (1, .istore_n 3, 0, [], 0, 0, (0, 0), false, []),
  (2, .lconst 0, 0, [], 0, 0, (0, 0), false, []),
  (3, .lstore 4, 0, [], 0, 0, (0, 0), false, []),
  (5, .iconst 0, 0, [], 0, 0, (0, 0), false, []),
  (6, .istore 6, 0, [], 0, 0, (0, 0), false, []),
  (8, .iload 6, 0, [], 0, 0, (0, 0), true, [5, 7, 8]),
  (10, .iconst 1, 0, [], 1, 0, (0, 0), false, []),
  (11, .iadd, 0, [], 0, 0, (0, 0), false, []),
  (12, .iload_n 2, 0, [], 0, 0, (0, 0), false, []),
  (13, .if_icmp .ge 80, 1, [56], 0, 0, (0, 0), false, []),
  (16, .iload_n 3, 0, [], 0, 0, (0, 0), false, []),
  (17, .iconst 1, 0, [], 1, 0, (0, 0), false, []),
  (18, .aload_n 1, 0, [], 0, 0, (0, 0), false, []),
  (19, .iload 6, 0, [], 0, 0, (0, 0), false, []),
  (21, .iaload, 3, [0], 0, 0, (0, 0), false, []),
  (22, .ishl, 0, [], 0, 0, (0, 0), false, []),
  (23, .ior, 0, [], 0, 0, (0, 0), false, []),
  (24, .istore_n 3, 0, [], 0, 0, (0, 0), false, []),
  (25, .aload_n 0, 0, [], 0, 0, (0, 0), false, []),
  (26, .getfield 19, 2, [4, 2, 7, 2], 0, 0, (0, 0), false, []),
  (29, .iload_n 3, 0, [], 0, 0, (0, 0), false, []),
  (30, .aload_n 1, 0, [], 0, 0, (0, 0), false, []),
  (31, .iload 6, 0, [], 0, 0, (0, 0), false, []),
  (33, .iaload, 3, [0], 0, 0, (0, 0), false, []),
  (34, .invokestatic 68, 6, [1, 0, 2, 1, 0, 4], 0, 0, (0, 0), false, []),
  (37, .iaload, 3, [0], 0, 0, (0, 0), false, []),
  (38, .istore 7, 0, [], 0, 0, (0, 0), false, []),
  (40, .iconst 0, 0, [], 0, 0, (0, 0), false, []),
  (41, .istore 8, 0, [], 0, 0, (0, 0), false, []),
  (43, .iload 8, 0, [], 0, 0, (0, 0), true, [5]),
  (45, .aload_n 1, 0, [], 0, 0, (0, 0), false, []),
  (46, .iload 6, 0, [], 0, 0, (0, 0), false, []),
  (48, .iconst 1, 0, [], 1, 0, (0, 0), false, []),
  (49, .iadd, 0, [], 0, 0, (0, 0), false, []),
  (50, .iaload, 3, [0], 0, 0, (0, 0), false, []),
  (51, .if_icmp .ge 36, 1, [54], 0, 0, (0, 0), false, []),
  (54, .iload 7, 0, [], 0, 0, (0, 0), false, []),
  (56, .iload 8, 0, [], 0, 0, (0, 0), false, []),
  (58, .invokestatic 60, 6, [3, 1, 2, 1, 0, 5], 0, 0, (0, 0), false, []),
  (61, .ifCond .eq 20, 1, [52], 0, 0, (0, 0), false, []),
  (64, .lload 4, 0, [], 0, 0, (0, 0), false, []),
  (66, .aload_n 0, 0, [], 0, 0, (0, 0), false, []),
  (67, .iload_n 3, 0, [], 0, 0, (0, 0), false, []),
  (68, .iconst 1, 0, [], 1, 0, (0, 0), false, []),
  (69, .iload 8, 0, [], 0, 0, (0, 0), false, []),
  (71, .ishl, 0, [], 0, 0, (0, 0), false, []),
  (72, .ior, 0, [], 0, 0, (0, 0), false, []),
  (73, .iload 8, 0, [], 0, 0, (0, 0), false, []),
  (75, .invokevirtual 79, 6, [0, 2, 3, 2, 0, 4], 0, 0, (0, 0), false, []),
  (78, .ladd, 0, [], 0, 0, (0, 0), false, []),
  (79, .lstore 4, 0, [], 0, 0, (0, 0), false, []),
  (81, .iinc 8 1, 0, [], 1, 0, (0, 0), false, []),
  (84, .goto (-41), 1, [30], 0, 0, (0, 0), false, []),
  (87, .iinc 6 1, 0, [], 1, 0, (0, 0), false, []),
  (90, .goto (-82), 1, [6], 0, 0, (0, 0), false, []),
  (93, .lload 4, 0, [], 0, 0, (0, 0), false, []),
  (95, .lreturn, 5, [], 0, 0, (0, 0), false, [])]
def eX4_toursAhead : List zm_M := [mX4_cell, mX5_has, mX4_begun]
noncomputable def vX4_toursAhead : List (zm_M × zm_S) := [(mX4_cell, sX4_cell), (mX5_has, sX5_has), (mX4_begun, sX4_begun)]
noncomputable def sX4_toursAhead : zm_S := zsem vX4_toursAhead rX4_toursAhead 9
set_option maxRecDepth 100000 in
theorem aX4_toursAhead : zall RX4 mX4_toursAhead eX4_toursAhead rX4_toursAhead = true := by decide +kernel
set_option maxRecDepth 100000 in
theorem wX4_toursAhead : ∀ w ∈ zwds RX4 mX4_toursAhead eX4_toursAhead rX4_toursAhead, w ∈ gT := zwd_of [190, 363, 364, 42, 365, 265, 38, 266, 408, 395, 396, 42, 397] (by decide +kernel) (by decide +kernel) (z7_no (by decide +kernel))
set_option maxRecDepth 100000 in
theorem xX4_toursAhead : ∀ w ∈ zwxs RX4 mX4_toursAhead eX4_toursAhead rX4_toursAhead, zspc w = true ∧ w ∈ lw_tbl := by decide +kernel
theorem tX4_toursAhead {sc : Nat × (Nat → Int32)} {l : Launch} (hlt : l.stackTraces = false) : MetA sc l mX4_toursAhead (sX4_toursAhead) := zmet (M := mX4_toursAhead) (own := RX4) (envM := eX4_toursAhead) hlt rfl (by decide +kernel) (by decide +kernel) rfl (fun j q hq => by
  match j, hq with
  | 0, hq => cases hq; exact tX4_cell hlt
  | 1, hq => cases hq; exact tX5_has hlt
  | 2, hq => cases hq; exact tX4_begun hlt
  | n + 3, hq => cases hq) aX4_toursAhead wX4_toursAhead xX4_toursAhead rfl
