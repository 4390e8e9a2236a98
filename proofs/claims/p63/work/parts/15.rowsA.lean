/-! ROWS: the bytecode of the methods as the abstract machine runs it, and their contracts (written by wip/p63/emit.py). -/
set_option maxRecDepth 100000 in
theorem zw7_0 : ∀ w ∈ (zat RX5 75 0).filter goodWord, w ∈ gT := fun w h => gT_in ((by decide +kernel : ∀ w ∈ (zat RX5 75 0).filter goodWord, w ∈ zw_tbl) w h) (List.mem_filter.mp h).2
set_option maxRecDepth 100000 in
theorem zw7_1 : ∀ w ∈ (zat RX5 84 1).filter goodWord, w ∈ gT := fun w h => gT_in ((by decide +kernel : ∀ w ∈ (zat RX5 84 1).filter goodWord, w ∈ zw_tbl) w h) (List.mem_filter.mp h).2
set_option maxRecDepth 100000 in
theorem zw7_2 : ∀ w ∈ (zat RX5 381 2).filter goodWord, w ∈ gT := fun w h => gT_in ((by decide +kernel : ∀ w ∈ (zat RX5 381 2).filter goodWord, w ∈ zw_tbl) w h) (List.mem_filter.mp h).2
set_option maxRecDepth 100000 in
theorem zw7_3 : ∀ w ∈ (zat RX5 191 3).filter goodWord, w ∈ gT := fun w h => gT_in ((by decide +kernel : ∀ w ∈ (zat RX5 191 3).filter goodWord, w ∈ zw_tbl) w h) (List.mem_filter.mp h).2
def mX0_init : zm_M := (yX0_init, cX0_init, 2, none, (1, 1, 500, 12), 1, [], (1, 500))
set_option maxRecDepth 100000 in
def rX0_init : List zm_R := [(0, .aload_n 0, 0, [], 0, 0, (0, 0), false, []),
  (1, .invokespecial 3, 10, [], 0, 0, (0, 0), false, []),
  (4, .aload_n 0, 0, [], 0, 0, (0, 0), false, []),
  (5, .iconst 0, 0, [], 0, 0, (0, 0), false, []),
  (6, .putfield 9, 2, [0, 1, 2, 0], 0, 0, (0, 0), false, []),
  (9, .aload_n 0, 0, [], 0, 0, (0, 0), false, []),
  (10, .iload_n 1, 0, [], 0, 0, (0, 0), false, []),
  (11, .newarray .int, 4, [0, 500], 0, 0, (0, 0), false, []),
  (13, .putfield 15, 2, [0, 0, 2, 2], 0, 0, (1, 500), false, []),
  (16, .return_, 5, [], 0, 0, (1, 500), false, [])]
def eX0_init : List zm_M := []
noncomputable def vX0_init : List (zm_M × zm_S) := []
noncomputable def sX0_init : zm_S := zsem vX0_init rX0_init 2
set_option maxRecDepth 100000 in
theorem aX0_init : zall RX0 mX0_init eX0_init rX0_init = true := by decide +kernel
set_option maxRecDepth 100000 in
theorem wX0_init : ∀ w ∈ zwds RX0 mX0_init eX0_init rX0_init, w ∈ gT := zwd_of [76, 69, 70, 79, 87, 77] (by decide +kernel) (by decide +kernel) (z7_no (by decide +kernel))
set_option maxRecDepth 100000 in
theorem xX0_init : ∀ w ∈ zwxs RX0 mX0_init eX0_init rX0_init, zspc w = true ∧ w ∈ lw_tbl := by decide +kernel
theorem tX0_init {sc : Nat × (Nat → Int32)} {l : Launch} (hlt : l.stackTraces = false) : MetA sc l mX0_init (sX0_init) := zmet (M := mX0_init) (own := RX0) (envM := eX0_init) hlt rfl (by decide +kernel) (by decide +kernel) rfl (fun j q hq => by cases hq) aX0_init wX0_init xX0_init rfl
def mX0_add : zm_M := (yX0_add, cX0_add, 2, none, (0, 0, 0, 0), 1, [], (0, 0))
set_option maxRecDepth 100000 in
def rX0_add : List zm_R := [(0, .aload_n 0, 0, [], 0, 0, (0, 0), false, []),
  (1, .getfield 9, 2, [0, 1, 2, 0], 0, 0, (0, 0), false, []),
  (4, .aload_n 0, 0, [], 0, 0, (0, 0), false, []),
  (5, .getfield 15, 2, [0, 0, 2, 2], 0, 0, (0, 0), false, []),
  (8, .arraylength, 3, [0], 0, 0, (0, 0), false, []),
  (9, .if_icmp .ge 24, 1, [19], 0, 0, (0, 0), false, []),
  (12, .aload_n 0, 0, [], 0, 0, (0, 0), false, []),
  (13, .getfield 15, 2, [0, 0, 2, 2], 0, 0, (0, 0), false, []),
  (16, .aload_n 0, 0, [], 0, 0, (0, 0), false, []),
  (17, .dup, 0, [], 0, 0, (0, 0), false, []),
  (18, .getfield 9, 2, [0, 1, 2, 0], 0, 0, (0, 0), false, []),
  (21, .dup_x1, 0, [], 0, 0, (0, 0), false, []),
  (22, .iconst 1, 0, [], 1, 0, (0, 0), false, []),
  (23, .iadd, 0, [], 0, 0, (0, 0), false, []),
  (24, .putfield 9, 2, [0, 1, 2, 0], 0, 0, (0, 0), false, []),
  (27, .iload_n 1, 0, [], 0, 0, (0, 0), false, []),
  (28, .sipush 255, 0, [], 255, 0, (0, 0), false, []),
  (31, .iand, 0, [], 0, 0, (0, 0), false, []),
  (32, .iastore, 3, [0], 0, 0, (0, 0), false, []),
  (33, .return_, 5, [], 0, 0, (0, 0), false, [])]
def eX0_add : List zm_M := []
noncomputable def vX0_add : List (zm_M × zm_S) := []
noncomputable def sX0_add : zm_S := zsem vX0_add rX0_add 2
set_option maxRecDepth 100000 in
theorem aX0_add : zall RX0 mX0_add eX0_add rX0_add = true := by decide +kernel
set_option maxRecDepth 100000 in
theorem wX0_add : ∀ w ∈ zwds RX0 mX0_add eX0_add rX0_add, w ∈ gT := zwd_of [79, 77, 77, 79, 79] (by decide +kernel) (by decide +kernel) (z7_no (by decide +kernel))
set_option maxRecDepth 100000 in
theorem xX0_add : ∀ w ∈ zwxs RX0 mX0_add eX0_add rX0_add, zspc w = true ∧ w ∈ lw_tbl := by decide +kernel
theorem tX0_add {sc : Nat × (Nat → Int32)} {l : Launch} (hlt : l.stackTraces = false) : MetA sc l mX0_add (sX0_add) := zmet (M := mX0_add) (own := RX0) (envM := eX0_add) hlt rfl (by decide +kernel) (by decide +kernel) rfl (fun j q hq => by cases hq) aX0_add wX0_add xX0_add rfl
def mX0_addFour : zm_M := (yX0_addFour, cX0_addFour, 3, none, (1, 0, 0, 21), 1, [], (0, 0))
set_option maxRecDepth 100000 in
def rX0_addFour : List zm_R := [(0, .bipush 24, 0, [], 24, 0, (0, 0), false, []),
  (2, .istore_n 2, 0, [], 0, 0, (0, 0), false, []),
  (3, .iload_n 2, 0, [], 0, 0, (0, 0), true, []),
  (4, .ifCond .lt 16, 1, [11], 0, 0, (0, 0), false, []),
  (7, .aload_n 0, 0, [], 0, 0, (0, 0), false, []),
  (8, .iload_n 1, 0, [], 0, 0, (0, 0), false, []),
  (9, .iload_n 2, 0, [], 0, 0, (0, 0), false, []),
  (10, .ishr, 0, [], 0, 0, (0, 0), false, []),
  (11, .invokevirtual 19, 6, [0, 0, 2, 0, 0, 0], 0, 0, (0, 0), false, []),
  (14, .iinc 2 (-8), 0, [], (-8), 0, (0, 0), false, []),
  (17, .goto (-14), 1, [2], 0, 0, (0, 0), false, []),
  (20, .return_, 5, [], 0, 0, (0, 0), false, [])]
def eX0_addFour : List zm_M := [mX0_add]
noncomputable def vX0_addFour : List (zm_M × zm_S) := [(mX0_add, sX0_add)]
noncomputable def sX0_addFour : zm_S := zsem vX0_addFour rX0_addFour 3
set_option maxRecDepth 100000 in
theorem aX0_addFour : zall RX0 mX0_addFour eX0_addFour rX0_addFour = true := by decide +kernel
set_option maxRecDepth 100000 in
theorem wX0_addFour : ∀ w ∈ zwds RX0 mX0_addFour eX0_addFour rX0_addFour, w ∈ gT := zwd_of [772, 773, 774, 39, 775] (by decide +kernel) (by decide +kernel) (z7_no (by decide +kernel))
set_option maxRecDepth 100000 in
theorem xX0_addFour : ∀ w ∈ zwxs RX0 mX0_addFour eX0_addFour rX0_addFour, zspc w = true ∧ w ∈ lw_tbl := by decide +kernel
theorem tX0_addFour {sc : Nat × (Nat → Int32)} {l : Launch} (hlt : l.stackTraces = false) : MetA sc l mX0_addFour (sX0_addFour) := zmet (M := mX0_addFour) (own := RX0) (envM := eX0_addFour) hlt rfl (by decide +kernel) (by decide +kernel) rfl (fun j q hq => by
  match j, hq with
  | 0, hq => cases hq; exact tX0_add hlt
  | n + 1, hq => cases hq) aX0_addFour wX0_addFour xX0_addFour rfl
def mX2_init : zm_M := (yX2_init, cX2_init, 1, none, (1, 10, 155, 12), 0, [], (10, 155))
set_option maxRecDepth 100000 in
def rX2_init : List zm_R := [(0, .aload_n 0, 0, [], 0, 0, (0, 0), false, []),
  (1, .invokespecial 3, 10, [], 0, 0, (0, 0), false, []),
  (4, .aload_n 0, 0, [], 0, 0, (0, 0), false, []),
  (5, .iconst 1, 0, [], 1, 0, (0, 0), false, []),
  (6, .putfield 9, 2, [2, 0, 15, 0], 0, 0, (0, 0), false, []),
  (9, .aload_n 0, 0, [], 0, 0, (0, 0), false, []),
  (10, .bipush 11, 0, [], 11, 0, (0, 0), false, []),
  (12, .newarray .long, 4, [1, 11], 0, 0, (0, 0), false, []),
  (14, .putfield 15, 2, [2, 1, 15, 2], 0, 0, (1, 11), true, []),
  (17, .aload_n 0, 0, [], 0, 0, (1, 11), false, []),
  (18, .bipush 11, 0, [], 11, 0, (1, 11), false, []),
  (20, .newarray .int, 4, [0, 11], 0, 0, (1, 11), false, []),
  (22, .putfield 19, 2, [2, 2, 15, 2], 0, 0, (2, 22), true, []),
  (25, .aload_n 0, 0, [], 0, 0, (2, 22), false, []),
  (26, .bipush 11, 0, [], 11, 0, (2, 22), false, []),
  (28, .newarray .int, 4, [0, 11], 0, 0, (2, 22), false, []),
  (30, .putfield 23, 2, [2, 3, 15, 2], 0, 0, (3, 33), true, []),
  (33, .aload_n 0, 0, [], 0, 0, (3, 33), false, []),
  (34, .iconst 0, 0, [], 0, 0, (3, 33), false, []),
  (35, .putfield 26, 2, [2, 4, 15, 0], 0, 0, (3, 33), false, []),
  (38, .aload_n 0, 0, [], 0, 0, (3, 33), false, []),
  (39, .bipush 20, 0, [], 20, 0, (3, 33), false, []),
  (41, .newarray .int, 4, [0, 20], 0, 0, (3, 33), false, []),
  (43, .putfield 29, 2, [2, 5, 15, 2], 0, 0, (4, 53), true, []),
  (46, .aload_n 0, 0, [], 0, 0, (4, 53), false, []),
  (47, .bipush 20, 0, [], 20, 0, (4, 53), false, []),
  (49, .newarray .int, 4, [0, 20], 0, 0, (4, 53), false, []),
  (51, .putfield 32, 2, [2, 6, 15, 2], 0, 0, (5, 73), true, []),
  (54, .aload_n 0, 0, [], 0, 0, (5, 73), false, []),
  (55, .bipush 20, 0, [], 20, 0, (5, 73), false, []),
  (57, .newarray .int, 4, [0, 20], 0, 0, (5, 73), false, []),
  (59, .putfield 35, 2, [2, 7, 15, 2], 0, 0, (6, 93), true, []),
  (62, .aload_n 0, 0, [], 0, 0, (6, 93), false, []),
  (63, .bipush 20, 0, [], 20, 0, (6, 93), false, []),
  (65, .newarray .int, 4, [0, 20], 0, 0, (6, 93), false, []),
  (67, .putfield 38, 2, [2, 8, 15, 2], 0, 0, (7, 113), true, []),
  (70, .aload_n 0, 0, [], 0, 0, (7, 113), false, []),
  (71, .bipush 20, 0, [], 20, 0, (7, 113), false, []),
  (73, .newarray .boolean, 4, [3, 20], 0, 0, (7, 113), false, []),
  (75, .putfield 41, 2, [2, 9, 15, 2], 0, 0, (8, 133), true, []),
  (78, .aload_n 0, 0, [], 0, 0, (8, 133), false, []),
  (79, .iconst 0, 0, [], 0, 0, (8, 133), false, []),
  (80, .putfield 45, 2, [2, 10, 15, 0], 0, 0, (8, 133), false, []),
  (83, .aload_n 0, 0, [], 0, 0, (8, 133), false, []),
  (84, .iconst (-1), 0, [], (-1), 0, (8, 133), false, []),
  (85, .putfield 48, 2, [2, 11, 15, 0], 0, 0, (8, 133), false, []),
  (88, .aload_n 0, 0, [], 0, 0, (8, 133), false, []),
  (89, .bipush 11, 0, [], 11, 0, (8, 133), false, []),
  (91, .newarray .int, 4, [0, 11], 0, 0, (8, 133), false, []),
  (93, .putfield 51, 2, [2, 12, 15, 2], 0, 0, (9, 144), true, []),
  (96, .aload_n 0, 0, [], 0, 0, (9, 144), false, []),
  (97, .iconst 1, 0, [], 1, 0, (9, 144), false, []),
  (98, .putfield 54, 2, [2, 13, 15, 0], 0, 0, (9, 144), false, []),
  (101, .aload_n 0, 0, [], 0, 0, (9, 144), false, []),
  (102, .bipush 11, 0, [], 11, 0, (9, 144), false, []),
  (104, .newarray .int, 4, [0, 11], 0, 0, (9, 144), false, []),
  (106, .putfield 57, 2, [2, 14, 15, 2], 0, 0, (10, 155), true, [0]),
  (109, .return_, 5, [], 0, 0, (10, 155), false, [])]
def eX2_init : List zm_M := []
noncomputable def vX2_init : List (zm_M × zm_S) := []
noncomputable def sX2_init : zm_S := zsem vX2_init rX2_init 1
set_option maxRecDepth 100000 in
theorem aX2_init : zall RX2 mX2_init eX2_init rX2_init = true := by decide +kernel
set_option maxRecDepth 100000 in
theorem wX2_init : ∀ w ∈ zwds RX2 mX2_init eX2_init rX2_init, w ∈ gT := zwd_of [93, 69, 70, 94, 160, 98, 87, 99, 87, 102, 105, 87, 108, 87, 110, 87, 112, 87, 114, 161, 116, 119, 121, 87, 124, 126, 87, 128] (by decide +kernel) (by decide +kernel) (z7_no (by decide +kernel))
set_option maxRecDepth 100000 in
theorem xX2_init : ∀ w ∈ zwxs RX2 mX2_init eX2_init rX2_init, zspc w = true ∧ w ∈ lw_tbl := by decide +kernel
theorem tX2_init {sc : Nat × (Nat → Int32)} {l : Launch} (hlt : l.stackTraces = false) : MetA sc l mX2_init (sX2_init) := zmet (M := mX2_init) (own := RX2) (envM := eX2_init) hlt rfl (by decide +kernel) (by decide +kernel) rfl (fun j q hq => by cases hq) aX2_init wX2_init xX2_init rfl
def mX1_init : zm_M := (yX1_init, cX1_init, 2, none, (2, 78, 1196, 32), 0, [], (78, 1196))
set_option maxRecDepth 100000 in
def rX1_init : List zm_R := [(0, .aload_n 0, 0, [], 0, 0, (0, 0), false, []),
  (1, .invokespecial 3, 10, [], 0, 0, (0, 0), false, []),
  (4, .aload_n 0, 0, [], 0, 0, (0, 0), false, []),
  (5, .bipush 6, 0, [], 6, 0, (0, 0), false, []),
  (7, .anewarray 9, 4, [5, 6], 0, 0, (0, 0), false, []),
  (10, .putfield 11, 2, [1, 0, 3, 2], 0, 0, (1, 6), true, [1]),
  (13, .aload_n 0, 0, [], 0, 0, (1, 6), false, []),
  (14, .iconst 0, 0, [], 0, 0, (1, 6), false, []),
  (15, .putfield 17, 2, [1, 1, 3, 0], 0, 0, (1, 6), false, []),
  (18, .aload_n 0, 0, [], 0, 0, (1, 6), false, []),
  (19, .iconst 0, 0, [], 0, 0, (1, 6), false, []),
  (20, .putfield 21, 2, [1, 2, 3, 0], 0, 0, (1, 6), false, []),
  (23, .iconst 0, 0, [], 0, 0, (1, 6), false, []),
  (24, .istore_n 1, 0, [], 0, 0, (1, 6), false, []),
  (25, .iload_n 1, 0, [], 0, 0, (1, 6), false, []),
  (26, .bipush 6, 0, [], 6, 0, (1, 6), false, []),
  (28, .if_icmp .ge 22, 1, [99], 0, 0, (1, 6), false, []),
  (31, .aload_n 0, 0, [], 0, 0, (1, 6), false, []),
  (32, .getfield 11, 2, [1, 0, 3, 2], 0, 0, (1, 6), false, []),
  (35, .iload_n 1, 0, [], 0, 0, (1, 6), false, []),
  (36, .new 9, 4, [2, 15], 0, 0, (1, 6), false, []),
  (39, .dup, 0, [], 0, 0, (2, 21), true, []),
  (40, .invokespecial 24, 6, [4, 0, 1, 0, 0, 2], 0, 0, (2, 21), false, []),
  (43, .aastore, 3, [5], 0, 0, (12, 176), true, []),
  (44, .iinc 1 1, 0, [], 1, 0, (12, 176), false, []),
  (47, .goto (-22), 1, [26], 0, 0, (12, 176), false, []),
  (25, .iload_n 1, 0, [], 0, 0, (12, 176), false, []),
  (26, .bipush 6, 0, [], 6, 0, (12, 176), false, []),
  (28, .if_icmp .ge 22, 1, [99], 0, 0, (12, 176), false, []),
  (31, .aload_n 0, 0, [], 0, 0, (12, 176), false, []),
  (32, .getfield 11, 2, [1, 0, 3, 2], 0, 0, (12, 176), false, []),
  (35, .iload_n 1, 0, [], 0, 0, (12, 176), false, []),
  (36, .new 9, 4, [2, 15], 0, 0, (12, 176), false, []),
  (39, .dup, 0, [], 0, 0, (13, 191), true, []),
  (40, .invokespecial 24, 6, [4, 0, 1, 0, 0, 2], 0, 0, (13, 191), false, []),
  (43, .aastore, 3, [5], 0, 0, (23, 346), true, []),
  (44, .iinc 1 1, 0, [], 1, 0, (23, 346), false, []),
  (47, .goto (-22), 1, [38], 0, 0, (23, 346), false, []),
  (25, .iload_n 1, 0, [], 0, 0, (23, 346), false, []),
  (26, .bipush 6, 0, [], 6, 0, (23, 346), false, []),
  (28, .if_icmp .ge 22, 1, [99], 0, 0, (23, 346), false, []),
  (31, .aload_n 0, 0, [], 0, 0, (23, 346), false, []),
  (32, .getfield 11, 2, [1, 0, 3, 2], 0, 0, (23, 346), false, []),
  (35, .iload_n 1, 0, [], 0, 0, (23, 346), false, []),
  (36, .new 9, 4, [2, 15], 0, 0, (23, 346), false, []),
  (39, .dup, 0, [], 0, 0, (24, 361), true, []),
  (40, .invokespecial 24, 6, [4, 0, 1, 0, 0, 2], 0, 0, (24, 361), false, []),
  (43, .aastore, 3, [5], 0, 0, (34, 516), true, []),
  (44, .iinc 1 1, 0, [], 1, 0, (34, 516), false, []),
  (47, .goto (-22), 1, [50], 0, 0, (34, 516), false, []),
  (25, .iload_n 1, 0, [], 0, 0, (34, 516), false, []),
  (26, .bipush 6, 0, [], 6, 0, (34, 516), false, []),
  (28, .if_icmp .ge 22, 1, [99], 0, 0, (34, 516), false, []),
  (31, .aload_n 0, 0, [], 0, 0, (34, 516), false, []),
  (32, .getfield 11, 2, [1, 0, 3, 2], 0, 0, (34, 516), false, []),
  (35, .iload_n 1, 0, [], 0, 0, (34, 516), false, []),
  (36, .new 9, 4, [2, 15], 0, 0, (34, 516), false, []),
  (39, .dup, 0, [], 0, 0, (35, 531), true, []),
  (40, .invokespecial 24, 6, [4, 0, 1, 0, 0, 2], 0, 0, (35, 531), false, []),
  (43, .aastore, 3, [5], 0, 0, (45, 686), true, []),
  (44, .iinc 1 1, 0, [], 1, 0, (45, 686), false, []),
  (47, .goto (-22), 1, [62], 0, 0, (45, 686), false, []),
  (25, .iload_n 1, 0, [], 0, 0, (45, 686), false, []),
  (26, .bipush 6, 0, [], 6, 0, (45, 686), false, []),
  (28, .if_icmp .ge 22, 1, [99], 0, 0, (45, 686), false, []),
  (31, .aload_n 0, 0, [], 0, 0, (45, 686), false, []),
  (32, .getfield 11, 2, [1, 0, 3, 2], 0, 0, (45, 686), false, []),
  (35, .iload_n 1, 0, [], 0, 0, (45, 686), false, []),
  (36, .new 9, 4, [2, 15], 0, 0, (45, 686), false, []),
  (39, .dup, 0, [], 0, 0, (46, 701), true, []),
  (40, .invokespecial 24, 6, [4, 0, 1, 0, 0, 2], 0, 0, (46, 701), false, []),
  (43, .aastore, 3, [5], 0, 0, (56, 856), true, []),
  (44, .iinc 1 1, 0, [], 1, 0, (56, 856), false, []),
  (47, .goto (-22), 1, [74], 0, 0, (56, 856), false, []),
  (25, .iload_n 1, 0, [], 0, 0, (56, 856), false, []),
  (26, .bipush 6, 0, [], 6, 0, (56, 856), false, []),
  (28, .if_icmp .ge 22, 1, [99], 0, 0, (56, 856), false, []),
  (31, .aload_n 0, 0, [], 0, 0, (56, 856), false, []),
  (32, .getfield 11, 2, [1, 0, 3, 2], 0, 0, (56, 856), false, []),
  (35, .iload_n 1, 0, [], 0, 0, (56, 856), false, []),
  (36, .new 9, 4, [2, 15], 0, 0, (56, 856), false, []),
  (39, .dup, 0, [], 0, 0, (57, 871), true, []),
  (40, .invokespecial 24, 6, [4, 0, 1, 0, 0, 2], 0, 0, (57, 871), false, []),
  (43, .aastore, 3, [5], 0, 0, (67, 1026), true, []),
  (44, .iinc 1 1, 0, [], 1, 0, (67, 1026), false, []),
  (47, .goto (-22), 1, [86], 0, 0, (67, 1026), false, []),
  (25, .iload_n 1, 0, [], 0, 0, (67, 1026), false, []),
  (26, .bipush 6, 0, [], 6, 0, (67, 1026), false, []),
  (28, .if_icmp .ge 22, 1, [99], 0, 0, (67, 1026), false, []),
  (31, .aload_n 0, 0, [], 0, 0, (67, 1026), false, []),
  (32, .getfield 11, 2, [1, 0, 3, 2], 0, 0, (67, 1026), false, []),
  (35, .iload_n 1, 0, [], 0, 0, (67, 1026), false, []),
  (36, .new 9, 4, [2, 15], 0, 0, (67, 1026), false, []),
  (39, .dup, 0, [], 0, 0, (68, 1041), true, [0]),
  (40, .invokespecial 24, 6, [4, 0, 1, 0, 0, 2], 0, 0, (68, 1041), false, []),
  (43, .aastore, 3, [5], 0, 0, (78, 1196), true, [0]),
  (44, .iinc 1 1, 0, [], 1, 0, (78, 1196), false, []),
  (47, .goto (-22), 1, [98], 0, 0, (78, 1196), false, []),
  (25, .iload_n 1, 12, [], 0, 0, (78, 1196), false, []),
  (50, .return_, 5, [], 0, 0, (67, 1026), false, [])]
def eX1_init : List zm_M := [mX2_init]
noncomputable def vX1_init : List (zm_M × zm_S) := [(mX2_init, sX2_init)]
noncomputable def sX1_init : zm_S := zsem vX1_init rX1_init 2
set_option maxRecDepth 100000 in
theorem aX1_init : zall RX1 mX1_init eX1_init rX1_init = true := by decide +kernel
set_option maxRecDepth 100000 in
theorem wX1_init : ∀ w ∈ zwds RX1 mX1_init eX1_init rX1_init, w ∈ gT := zwd_of [167, 69, 70, 168, 171, 172, 173, 171, 168, 89, 40, 91, 40, 92, 171, 168, 89, 40, 91, 40, 92, 171, 168, 89, 40, 91, 40, 92, 171, 168, 89, 40, 91, 40, 92, 171, 168, 89, 40, 91, 40, 92, 171, 168, 89, 40, 91, 40, 92, 171, 168, 89, 40, 91, 40, 92] (by decide +kernel) (by decide +kernel) (z7_no (by decide +kernel))
set_option maxRecDepth 100000 in
theorem xX1_init : ∀ w ∈ zwxs RX1 mX1_init eX1_init rX1_init, zspc w = true ∧ w ∈ lw_tbl := by decide +kernel
theorem tX1_init {sc : Nat × (Nat → Int32)} {l : Launch} (hlt : l.stackTraces = false) : MetA sc l mX1_init (sX1_init) := zmet (M := mX1_init) (own := RX1) (envM := eX1_init) hlt rfl (by decide +kernel) (by decide +kernel) rfl (fun j q hq => by
  match j, hq with
  | 0, hq => cases hq; exact tX2_init hlt
  | n + 1, hq => cases hq) aX1_init wX1_init xX1_init rfl
def mX2_copyFrom : zm_M := (yX2_copyFrom, cX2_copyFrom, 2, none, (1, 0, 0, 40), 1, [], (0, 0))
set_option maxRecDepth 100000 in
def rX2_copyFrom : List zm_R := [(0, .aload_n 0, 0, [], 0, 0, (0, 0), false, []),
  (1, .aload_n 1, 0, [], 0, 0, (0, 0), false, []),
  (2, .getfield 9, 2, [2, 0, 15, 0], 0, 0, (0, 0), false, []),
  (5, .putfield 9, 2, [2, 0, 15, 0], 0, 0, (0, 0), false, []),
  (8, .aload_n 1, 0, [], 0, 0, (0, 0), false, []),
  (9, .getfield 15, 2, [2, 1, 15, 2], 0, 0, (0, 0), false, []),
  (12, .iconst 0, 0, [], 0, 0, (0, 0), false, []),
  (13, .aload_n 0, 0, [], 0, 0, (0, 0), false, []),
  (14, .getfield 15, 2, [2, 1, 15, 2], 0, 0, (0, 0), false, []),
  (17, .iconst 0, 0, [], 0, 0, (0, 0), false, []),
  (18, .bipush 11, 0, [], 11, 0, (0, 0), false, []),
  (20, .invokestatic 60, 8, [1], 0, 0, (0, 0), false, []),
  (23, .aload_n 1, 0, [], 0, 0, (0, 0), true, []),
  (24, .getfield 19, 2, [2, 2, 15, 2], 0, 0, (0, 0), false, []),
  (27, .iconst 0, 0, [], 0, 0, (0, 0), false, []),
  (28, .aload_n 0, 0, [], 0, 0, (0, 0), false, []),
  (29, .getfield 19, 2, [2, 2, 15, 2], 0, 0, (0, 0), false, []),
  (32, .iconst 0, 0, [], 0, 0, (0, 0), false, []),
  (33, .bipush 11, 0, [], 11, 0, (0, 0), false, []),
  (35, .invokestatic 60, 8, [0], 0, 0, (0, 0), false, []),
  (38, .aload_n 1, 0, [], 0, 0, (0, 0), true, []),
  (39, .getfield 23, 2, [2, 3, 15, 2], 0, 0, (0, 0), false, []),
  (42, .iconst 0, 0, [], 0, 0, (0, 0), false, []),
  (43, .aload_n 0, 0, [], 0, 0, (0, 0), false, []),
  (44, .getfield 23, 2, [2, 3, 15, 2], 0, 0, (0, 0), false, []),
  (47, .iconst 0, 0, [], 0, 0, (0, 0), false, []),
  (48, .bipush 11, 0, [], 11, 0, (0, 0), false, []),
  (50, .invokestatic 60, 8, [0], 0, 0, (0, 0), false, []),
  (53, .aload_n 0, 0, [], 0, 0, (0, 0), true, []),
  (54, .aload_n 1, 0, [], 0, 0, (0, 0), false, []),
  (55, .getfield 26, 2, [2, 4, 15, 0], 0, 0, (0, 0), false, []),
  (58, .putfield 26, 2, [2, 4, 15, 0], 0, 0, (0, 0), false, []),
  (61, .aload_n 1, 0, [], 0, 0, (0, 0), false, []),
  (62, .getfield 29, 2, [2, 5, 15, 2], 0, 0, (0, 0), false, []),
  (65, .iconst 0, 0, [], 0, 0, (0, 0), false, []),
  (66, .aload_n 0, 0, [], 0, 0, (0, 0), false, []),
  (67, .getfield 29, 2, [2, 5, 15, 2], 0, 0, (0, 0), false, []),
  (70, .iconst 0, 0, [], 0, 0, (0, 0), false, []),
  (71, .bipush 20, 0, [], 20, 0, (0, 0), false, []),
  (73, .invokestatic 60, 8, [0], 0, 0, (0, 0), false, []),
  (76, .aload_n 1, 0, [], 0, 0, (0, 0), true, []),
  (77, .getfield 32, 2, [2, 6, 15, 2], 0, 0, (0, 0), false, []),
  (80, .iconst 0, 0, [], 0, 0, (0, 0), false, []),
  (81, .aload_n 0, 0, [], 0, 0, (0, 0), false, []),
  (82, .getfield 32, 2, [2, 6, 15, 2], 0, 0, (0, 0), false, []),
  (85, .iconst 0, 0, [], 0, 0, (0, 0), false, []),
  (86, .bipush 20, 0, [], 20, 0, (0, 0), false, []),
  (88, .invokestatic 60, 8, [0], 0, 0, (0, 0), false, []),
  (91, .aload_n 1, 0, [], 0, 0, (0, 0), true, []),
  (92, .getfield 35, 2, [2, 7, 15, 2], 0, 0, (0, 0), false, []),
  (95, .iconst 0, 0, [], 0, 0, (0, 0), false, []),
  (96, .aload_n 0, 0, [], 0, 0, (0, 0), false, []),
  (97, .getfield 35, 2, [2, 7, 15, 2], 0, 0, (0, 0), false, []),
  (100, .iconst 0, 0, [], 0, 0, (0, 0), false, []),
  (101, .bipush 20, 0, [], 20, 0, (0, 0), false, []),
  (103, .invokestatic 60, 8, [0], 0, 0, (0, 0), false, []),
  (106, .aload_n 1, 0, [], 0, 0, (0, 0), true, []),
  (107, .getfield 38, 2, [2, 8, 15, 2], 0, 0, (0, 0), false, []),
  (110, .iconst 0, 0, [], 0, 0, (0, 0), false, []),
  (111, .aload_n 0, 0, [], 0, 0, (0, 0), false, []),
  (112, .getfield 38, 2, [2, 8, 15, 2], 0, 0, (0, 0), false, []),
  (115, .iconst 0, 0, [], 0, 0, (0, 0), false, []),
  (116, .bipush 20, 0, [], 20, 0, (0, 0), false, []),
  (118, .invokestatic 60, 8, [0], 0, 0, (0, 0), false, []),
  (121, .aload_n 1, 0, [], 0, 0, (0, 0), true, []),
  (122, .getfield 41, 2, [2, 9, 15, 2], 0, 0, (0, 0), false, []),
  (125, .iconst 0, 0, [], 0, 0, (0, 0), false, []),
  (126, .aload_n 0, 0, [], 0, 0, (0, 0), false, []),
  (127, .getfield 41, 2, [2, 9, 15, 2], 0, 0, (0, 0), false, []),
  (130, .iconst 0, 0, [], 0, 0, (0, 0), false, []),
  (131, .bipush 20, 0, [], 20, 0, (0, 0), false, []),
  (133, .invokestatic 60, 8, [3], 0, 0, (0, 0), false, []),
  (136, .aload_n 0, 0, [], 0, 0, (0, 0), true, []),
  (137, .aload_n 1, 0, [], 0, 0, (0, 0), false, []),
  (138, .getfield 45, 2, [2, 10, 15, 0], 0, 0, (0, 0), false, []),
  (141, .putfield 45, 2, [2, 10, 15, 0], 0, 0, (0, 0), false, []),
  (144, .aload_n 0, 0, [], 0, 0, (0, 0), false, []),
  (145, .aload_n 1, 0, [], 0, 0, (0, 0), false, []),
  (146, .getfield 48, 2, [2, 11, 15, 0], 0, 0, (0, 0), false, []),
  (149, .putfield 48, 2, [2, 11, 15, 0], 0, 0, (0, 0), false, []),
  (152, .aload_n 1, 0, [], 0, 0, (0, 0), false, []),
  (153, .getfield 51, 2, [2, 12, 15, 2], 0, 0, (0, 0), false, []),
  (156, .iconst 0, 0, [], 0, 0, (0, 0), false, []),
  (157, .aload_n 0, 0, [], 0, 0, (0, 0), false, []),
  (158, .getfield 51, 2, [2, 12, 15, 2], 0, 0, (0, 0), false, []),
  (161, .iconst 0, 0, [], 0, 0, (0, 0), false, []),
  (162, .bipush 11, 0, [], 11, 0, (0, 0), false, []),
  (164, .invokestatic 60, 8, [0], 0, 0, (0, 0), false, []),
  (167, .aload_n 0, 0, [], 0, 0, (0, 0), true, []),
  (168, .aload_n 1, 0, [], 0, 0, (0, 0), false, []),
  (169, .getfield 54, 2, [2, 13, 15, 0], 0, 0, (0, 0), false, []),
  (172, .putfield 54, 2, [2, 13, 15, 0], 0, 0, (0, 0), false, []),
  (175, .return_, 5, [], 0, 0, (0, 0), false, [])]
def eX2_copyFrom : List zm_M := []
noncomputable def vX2_copyFrom : List (zm_M × zm_S) := []
noncomputable def sX2_copyFrom : zm_S := zsem vX2_copyFrom rX2_copyFrom 2
set_option maxRecDepth 100000 in
theorem aX2_copyFrom : zall RX2 mX2_copyFrom eX2_copyFrom rX2_copyFrom = true := by decide +kernel
set_option maxRecDepth 100000 in
theorem wX2_copyFrom : ∀ w ∈ zwds RX2 mX2_copyFrom eX2_copyFrom rX2_copyFrom, w ∈ gT := zwd_of [94, 94, 98, 98, 441, 443, 442, 50, 99, 99, 441, 443, 442, 50, 102, 102, 441, 443, 442, 50, 105, 105, 108, 108, 441, 443, 442, 50, 110, 110, 441, 443, 442, 50, 112, 112, 441, 443, 442, 50, 114, 114, 441, 443, 442, 50, 116, 116, 441, 443, 442, 50, 119, 119, 121, 121, 124, 124, 441, 443, 442, 50, 126, 126] (by decide +kernel) (by decide +kernel) (z7_no (by decide +kernel))
set_option maxRecDepth 100000 in
theorem xX2_copyFrom : ∀ w ∈ zwxs RX2 mX2_copyFrom eX2_copyFrom rX2_copyFrom, zspc w = true ∧ w ∈ lw_tbl := by decide +kernel
theorem tX2_copyFrom {sc : Nat × (Nat → Int32)} {l : Launch} (hlt : l.stackTraces = false) : MetA sc l mX2_copyFrom (sX2_copyFrom) := zmet (M := mX2_copyFrom) (own := RX2) (envM := eX2_copyFrom) hlt rfl (by decide +kernel) (by decide +kernel) rfl (fun j q hq => by cases hq) aX2_copyFrom wX2_copyFrom xX2_copyFrom rfl
def mX1_push : zm_M := (yX1_push, cX1_push, 2, none, (2, 0, 0, 61), 1, [], (0, 0))
set_option maxRecDepth 100000 in
def rX1_push : List zm_R := [(0, .aload_n 0, 0, [], 0, 0, (0, 0), false, []),
  (1, .getfield 11, 2, [1, 0, 3, 2], 0, 0, (0, 0), false, []),
  (4, .aload_n 0, 0, [], 0, 0, (0, 0), false, []),
  (5, .getfield 17, 2, [1, 1, 3, 0], 0, 0, (0, 0), false, []),
  (8, .aaload, 3, [5], 0, 0, (0, 0), false, []),
  (9, .aload_n 1, 0, [], 0, 0, (0, 0), false, []),
  (10, .invokevirtual 25, 6, [0, 0, 2, 0, 0, 2], 0, 0, (0, 0), false, []),
  (13, .aload_n 0, 0, [], 0, 0, (0, 0), false, []),
  (14, .aload_n 0, 0, [], 0, 0, (0, 0), false, []),
  (15, .getfield 17, 2, [1, 1, 3, 0], 0, 0, (0, 0), false, []),
  (18, .iconst 1, 0, [], 1, 0, (0, 0), false, []),
  (19, .iadd, 0, [], 0, 0, (0, 0), false, []),
  (20, .bipush 6, 0, [], 6, 0, (0, 0), false, []),
  (22, .irem, 11, [], 0, 0, (0, 0), false, []),
  (23, .putfield 17, 2, [1, 1, 3, 0], 0, 0, (0, 0), false, []),
  (26, .aload_n 0, 0, [], 0, 0, (0, 0), false, []),
  (27, .getfield 21, 2, [1, 2, 3, 0], 0, 0, (0, 0), false, []),
  (30, .bipush 6, 0, [], 6, 0, (0, 0), false, []),
  (32, .if_icmp .ge 13, 1, [25], 0, 0, (0, 0), false, []),
  (35, .aload_n 0, 0, [], 0, 0, (0, 0), false, []),
  (36, .dup, 0, [], 0, 0, (0, 0), false, []),
  (37, .getfield 21, 2, [1, 2, 3, 0], 0, 0, (0, 0), false, []),
  (40, .iconst 1, 0, [], 1, 0, (0, 0), false, []),
  (41, .iadd, 0, [], 0, 0, (0, 0), false, []),
  (42, .putfield 21, 2, [1, 2, 3, 0], 0, 0, (0, 0), false, []),
  (45, .return_, 5, [], 0, 0, (0, 0), false, [])]
def eX1_push : List zm_M := [mX2_copyFrom]
noncomputable def vX1_push : List (zm_M × zm_S) := [(mX2_copyFrom, sX2_copyFrom)]
noncomputable def sX1_push : zm_S := zsem vX1_push rX1_push 2
set_option maxRecDepth 100000 in
theorem aX1_push : zall RX1 mX1_push eX1_push rX1_push = true := by decide +kernel
set_option maxRecDepth 100000 in
theorem wX1_push : ∀ w ∈ zwds RX1 mX1_push eX1_push rX1_push, w ∈ gT := zwd_of [171, 172, 437, 438, 439, 40, 440, 172, 172, 173, 173, 173] (by decide +kernel) (by decide +kernel) (z7_no (by decide +kernel))
set_option maxRecDepth 100000 in
theorem xX1_push : ∀ w ∈ zwxs RX1 mX1_push eX1_push rX1_push, zspc w = true ∧ w ∈ lw_tbl := by decide +kernel
theorem tX1_push {sc : Nat × (Nat → Int32)} {l : Launch} (hlt : l.stackTraces = false) : MetA sc l mX1_push (sX1_push) := zmet (M := mX1_push) (own := RX1) (envM := eX1_push) hlt rfl (by decide +kernel) (by decide +kernel) rfl (fun j q hq => by
  match j, hq with
  | 0, hq => cases hq; exact tX2_copyFrom hlt
  | n + 1, hq => cases hq) aX1_push wX1_push xX1_push rfl
def mX1_pop : zm_M := (yX1_pop, cX1_pop, 2, none, (2, 0, 0, 61), 1, [], (0, 0))
set_option maxRecDepth 100000 in
def rX1_pop : List zm_R := [(0, .aload_n 0, 0, [], 0, 0, (0, 0), false, []),
  (1, .aload_n 0, 0, [], 0, 0, (0, 0), false, []),
  (2, .getfield 17, 2, [1, 1, 3, 0], 0, 0, (0, 0), false, []),
  (5, .bipush 6, 0, [], 6, 0, (0, 0), false, []),
  (7, .iadd, 0, [], 0, 0, (0, 0), false, []),
  (8, .iconst 1, 0, [], 1, 0, (0, 0), false, []),
  (9, .isub, 0, [], 0, 0, (0, 0), false, []),
  (10, .bipush 6, 0, [], 6, 0, (0, 0), false, []),
  (12, .irem, 11, [], 0, 0, (0, 0), false, []),
  (13, .putfield 17, 2, [1, 1, 3, 0], 0, 0, (0, 0), false, []),
  (16, .aload_n 1, 0, [], 0, 0, (0, 0), false, []),
  (17, .aload_n 0, 0, [], 0, 0, (0, 0), false, []),
  (18, .getfield 11, 2, [1, 0, 3, 2], 0, 0, (0, 0), false, []),
  (21, .aload_n 0, 0, [], 0, 0, (0, 0), false, []),
  (22, .getfield 17, 2, [1, 1, 3, 0], 0, 0, (0, 0), false, []),
  (25, .aaload, 3, [5], 0, 0, (0, 0), false, []),
  (26, .invokevirtual 25, 6, [0, 0, 2, 0, 0, 2], 0, 0, (0, 0), false, []),
  (29, .aload_n 0, 0, [], 0, 0, (0, 0), false, []),
  (30, .dup, 0, [], 0, 0, (0, 0), false, []),
  (31, .getfield 21, 2, [1, 2, 3, 0], 0, 0, (0, 0), false, []),
  (34, .iconst 1, 0, [], 1, 0, (0, 0), false, []),
  (35, .isub, 0, [], 0, 0, (0, 0), false, []),
  (36, .putfield 21, 2, [1, 2, 3, 0], 0, 0, (0, 0), false, []),
  (39, .return_, 5, [], 0, 0, (0, 0), false, [])]
def eX1_pop : List zm_M := [mX2_copyFrom]
noncomputable def vX1_pop : List (zm_M × zm_S) := [(mX2_copyFrom, sX2_copyFrom)]
noncomputable def sX1_pop : zm_S := zsem vX1_pop rX1_pop 2
set_option maxRecDepth 100000 in
theorem aX1_pop : zall RX1 mX1_pop eX1_pop rX1_pop = true := by decide +kernel
set_option maxRecDepth 100000 in
theorem wX1_pop : ∀ w ∈ zwds RX1 mX1_pop eX1_pop rX1_pop, w ∈ gT := zwd_of [172, 172, 171, 172, 437, 438, 439, 40, 440, 173, 173] (by decide +kernel) (by decide +kernel) (z7_no (by decide +kernel))
set_option maxRecDepth 100000 in
theorem xX1_pop : ∀ w ∈ zwxs RX1 mX1_pop eX1_pop rX1_pop, zspc w = true ∧ w ∈ lw_tbl := by decide +kernel
theorem tX1_pop {sc : Nat × (Nat → Int32)} {l : Launch} (hlt : l.stackTraces = false) : MetA sc l mX1_pop (sX1_pop) := zmet (M := mX1_pop) (own := RX1) (envM := eX1_pop) hlt rfl (by decide +kernel) (by decide +kernel) rfl (fun j q hq => by
  match j, hq with
  | 0, hq => cases hq; exact tX2_copyFrom hlt
  | n + 1, hq => cases hq) aX1_pop wX1_pop xX1_pop rfl
def mX2_beginAt : zm_M := (yX2_beginAt, cX2_beginAt, 2, none, (0, 0, 0, 0), 1, [], (0, 0))
set_option maxRecDepth 100000 in
def rX2_beginAt : List zm_R := [(0, .aload_n 0, 0, [], 0, 0, (0, 0), false, []),
  (1, .iload_n 1, 0, [], 0, 0, (0, 0), false, []),
  (2, .putfield 45, 2, [2, 10, 15, 0], 0, 0, (0, 0), false, []),
  (5, .aload_n 0, 0, [], 0, 0, (0, 0), false, []),
  (6, .getfield 51, 2, [2, 12, 15, 2], 0, 0, (0, 0), false, []),
  (9, .iconst 0, 0, [], 0, 0, (0, 0), false, []),
  (10, .iload_n 1, 0, [], 0, 0, (0, 0), false, []),
  (11, .iastore, 3, [0], 0, 0, (0, 0), false, []),
  (12, .aload_n 0, 0, [], 0, 0, (0, 0), false, []),
  (13, .iconst 1, 0, [], 1, 0, (0, 0), false, []),
  (14, .putfield 54, 2, [2, 13, 15, 0], 0, 0, (0, 0), false, []),
  (17, .return_, 5, [], 0, 0, (0, 0), false, [])]
def eX2_beginAt : List zm_M := []
noncomputable def vX2_beginAt : List (zm_M × zm_S) := []
noncomputable def sX2_beginAt : zm_S := zsem vX2_beginAt rX2_beginAt 2
set_option maxRecDepth 100000 in
theorem aX2_beginAt : zall RX2 mX2_beginAt eX2_beginAt rX2_beginAt = true := by decide +kernel
set_option maxRecDepth 100000 in
theorem wX2_beginAt : ∀ w ∈ zwds RX2 mX2_beginAt eX2_beginAt rX2_beginAt, w ∈ gT := zwd_of [119, 124, 126] (by decide +kernel) (by decide +kernel) (z7_no (by decide +kernel))
set_option maxRecDepth 100000 in
theorem xX2_beginAt : ∀ w ∈ zwxs RX2 mX2_beginAt eX2_beginAt rX2_beginAt, zspc w = true ∧ w ∈ lw_tbl := by decide +kernel
theorem tX2_beginAt {sc : Nat × (Nat → Int32)} {l : Launch} (hlt : l.stackTraces = false) : MetA sc l mX2_beginAt (sX2_beginAt) := zmet (M := mX2_beginAt) (own := RX2) (envM := eX2_beginAt) hlt rfl (by decide +kernel) (by decide +kernel) rfl (fun j q hq => by cases hq) aX2_beginAt wX2_beginAt xX2_beginAt rfl
def mX2_clear : zm_M := (yX2_clear, cX2_clear, 1, none, (1, 0, 0, 21), 0, [], (0, 0))
set_option maxRecDepth 100000 in
def rX2_clear : List zm_R := [(0, .aload_n 0, 0, [], 0, 0, (0, 0), false, []),
  (1, .iconst 0, 0, [], 0, 0, (0, 0), false, []),
  (2, .putfield 9, 2, [2, 0, 15, 0], 0, 0, (0, 0), false, []),
  (5, .aload_n 0, 0, [], 0, 0, (0, 0), false, []),
  (6, .iconst 0, 0, [], 0, 0, (0, 0), false, []),
  (7, .putfield 26, 2, [2, 4, 15, 0], 0, 0, (0, 0), false, []),
  (10, .aload_n 0, 0, [], 0, 0, (0, 0), false, []),
  (11, .iconst (-1), 0, [], (-1), 0, (0, 0), false, []),
  (12, .putfield 48, 2, [2, 11, 15, 0], 0, 0, (0, 0), false, []),
  (15, .aload_n 0, 0, [], 0, 0, (0, 0), false, []),
  (16, .iconst 0, 0, [], 0, 0, (0, 0), false, []),
  (17, .invokevirtual 66, 6, [0, 0, 2, 0, 0, 2], 0, 0, (0, 0), false, []),
  (20, .return_, 5, [], 0, 0, (0, 0), false, [])]
def eX2_clear : List zm_M := [mX2_beginAt]
noncomputable def vX2_clear : List (zm_M × zm_S) := [(mX2_beginAt, sX2_beginAt)]
noncomputable def sX2_clear : zm_S := zsem vX2_clear rX2_clear 1
set_option maxRecDepth 100000 in
theorem aX2_clear : zall RX2 mX2_clear eX2_clear rX2_clear = true := by decide +kernel
set_option maxRecDepth 100000 in
theorem wX2_clear : ∀ w ∈ zwds RX2 mX2_clear eX2_clear rX2_clear, w ∈ gT := zwd_of [94, 105, 121, 830, 831, 832, 40, 833] (by decide +kernel) (by decide +kernel) (z7_no (by decide +kernel))
set_option maxRecDepth 100000 in
theorem xX2_clear : ∀ w ∈ zwxs RX2 mX2_clear eX2_clear rX2_clear, zspc w = true ∧ w ∈ lw_tbl := by decide +kernel
theorem tX2_clear {sc : Nat × (Nat → Int32)} {l : Launch} (hlt : l.stackTraces = false) : MetA sc l mX2_clear (sX2_clear) := zmet (M := mX2_clear) (own := RX2) (envM := eX2_clear) hlt rfl (by decide +kernel) (by decide +kernel) rfl (fun j q hq => by
  match j, hq with
  | 0, hq => cases hq; exact tX2_beginAt hlt
  | n + 1, hq => cases hq) aX2_clear wX2_clear xX2_clear rfl
def mX2_addRoom : zm_M := (yX2_addRoom, cX2_addRoom, 4, (some .int), (0, 0, 0, 0), 1, [], (0, 0))
set_option maxRecDepth 100000 in
def rX2_addRoom : List zm_R := [(0, .aload_n 0, 0, [], 0, 0, (0, 0), false, []),
  (1, .getfield 9, 2, [2, 0, 15, 0], 0, 0, (0, 0), false, []),
  (4, .bipush 11, 0, [], 11, 0, (0, 0), false, []),
  (6, .if_icmp .ge 17, 1, [12], 0, 0, (0, 0), false, []),
  (9, .aload_n 0, 0, [], 0, 0, (0, 0), false, []),
  (10, .dup, 0, [], 0, 0, (0, 0), false, []),
  (11, .getfield 9, 2, [2, 0, 15, 0], 0, 0, (0, 0), false, []),
  (14, .dup_x1, 0, [], 0, 0, (0, 0), false, []),
  (15, .iconst 1, 0, [], 1, 0, (0, 0), false, []),
  (16, .iadd, 0, [], 0, 0, (0, 0), false, []),
  (17, .putfield 9, 2, [2, 0, 15, 0], 0, 0, (0, 0), false, []),
  (20, .goto 5, 1, [13], 0, 0, (0, 0), false, []),
  (23, .bipush 10, 0, [], 10, 0, (0, 0), false, []),
  (25, .istore_n 3, 0, [], 0, 0, (0, 0), false, []),
  (26, .aload_n 0, 0, [], 0, 0, (0, 0), false, []),
  (27, .getfield 15, 2, [2, 1, 15, 2], 0, 0, (0, 0), false, []),
  (30, .iload_n 3, 0, [], 0, 0, (0, 0), false, []),
  (31, .lload_n 1, 0, [], 0, 0, (0, 0), false, []),
  (32, .lastore, 3, [1], 0, 0, (0, 0), false, []),
  (33, .aload_n 0, 0, [], 0, 0, (0, 0), false, []),
  (34, .getfield 19, 2, [2, 2, 15, 2], 0, 0, (0, 0), false, []),
  (37, .iload_n 3, 0, [], 0, 0, (0, 0), false, []),
  (38, .iconst 0, 0, [], 0, 0, (0, 0), false, []),
  (39, .iastore, 3, [0], 0, 0, (0, 0), false, []),
  (40, .aload_n 0, 0, [], 0, 0, (0, 0), false, []),
  (41, .getfield 23, 2, [2, 3, 15, 2], 0, 0, (0, 0), false, []),
  (44, .iload_n 3, 0, [], 0, 0, (0, 0), false, []),
  (45, .iconst 0, 0, [], 0, 0, (0, 0), false, []),
  (46, .iastore, 3, [0], 0, 0, (0, 0), false, []),
  (47, .iload_n 3, 0, [], 0, 0, (0, 0), false, []),
  (48, .ireturn, 5, [0], 0, 0, (0, 0), false, [])]
def eX2_addRoom : List zm_M := []
noncomputable def vX2_addRoom : List (zm_M × zm_S) := []
noncomputable def sX2_addRoom : zm_S := zsem vX2_addRoom rX2_addRoom 4
set_option maxRecDepth 100000 in
theorem aX2_addRoom : zall RX2 mX2_addRoom eX2_addRoom rX2_addRoom = true := by decide +kernel
set_option maxRecDepth 100000 in
theorem wX2_addRoom : ∀ w ∈ zwds RX2 mX2_addRoom eX2_addRoom rX2_addRoom, w ∈ gT := zwd_of [94, 94, 94, 98, 99, 102] (by decide +kernel) (by decide +kernel) (z7_no (by decide +kernel))
set_option maxRecDepth 100000 in
theorem xX2_addRoom : ∀ w ∈ zwxs RX2 mX2_addRoom eX2_addRoom rX2_addRoom, zspc w = true ∧ w ∈ lw_tbl := by decide +kernel
theorem tX2_addRoom {sc : Nat × (Nat → Int32)} {l : Launch} (hlt : l.stackTraces = false) : MetA sc l mX2_addRoom (sX2_addRoom) := zmet (M := mX2_addRoom) (own := RX2) (envM := eX2_addRoom) hlt rfl (by decide +kernel) (by decide +kernel) rfl (fun j q hq => by cases hq) aX2_addRoom wX2_addRoom xX2_addRoom rfl
def mX2_lock : zm_M := (yX2_lock, cX2_lock, 4, none, (0, 0, 0, 0), 3, [], (0, 0))
set_option maxRecDepth 100000 in
def rX2_lock : List zm_R := [(0, .aload_n 0, 0, [], 0, 0, (0, 0), false, []),
  (1, .getfield 35, 2, [2, 7, 15, 2], 0, 0, (0, 0), false, []),
  (4, .iload_n 1, 0, [], 0, 0, (0, 0), false, []),
  (5, .iload_n 2, 0, [], 0, 0, (0, 0), false, []),
  (6, .iastore, 3, [0], 0, 0, (0, 0), false, []),
  (7, .aload_n 0, 0, [], 0, 0, (0, 0), false, []),
  (8, .getfield 38, 2, [2, 8, 15, 2], 0, 0, (0, 0), false, []),
  (11, .iload_n 1, 0, [], 0, 0, (0, 0), false, []),
  (12, .iload_n 3, 0, [], 0, 0, (0, 0), false, []),
  (13, .iastore, 3, [0], 0, 0, (0, 0), false, []),
  (14, .return_, 5, [], 0, 0, (0, 0), false, [])]
def eX2_lock : List zm_M := []
noncomputable def vX2_lock : List (zm_M × zm_S) := []
noncomputable def sX2_lock : zm_S := zsem vX2_lock rX2_lock 4
set_option maxRecDepth 100000 in
theorem aX2_lock : zall RX2 mX2_lock eX2_lock rX2_lock = true := by decide +kernel
set_option maxRecDepth 100000 in
theorem wX2_lock : ∀ w ∈ zwds RX2 mX2_lock eX2_lock rX2_lock, w ∈ gT := zwd_of [112, 114] (by decide +kernel) (by decide +kernel) (z7_no (by decide +kernel))
set_option maxRecDepth 100000 in
theorem xX2_lock : ∀ w ∈ zwxs RX2 mX2_lock eX2_lock rX2_lock, zspc w = true ∧ w ∈ lw_tbl := by decide +kernel
theorem tX2_lock {sc : Nat × (Nat → Int32)} {l : Launch} (hlt : l.stackTraces = false) : MetA sc l mX2_lock (sX2_lock) := zmet (M := mX2_lock) (own := RX2) (envM := eX2_lock) hlt rfl (by decide +kernel) (by decide +kernel) rfl (fun j q hq => by cases hq) aX2_lock wX2_lock xX2_lock rfl
def mX2_build : zm_M := (yX2_build, cX2_build, 4, (some .int), (1, 0, 0, 23), 2, [], (0, 0))
set_option maxRecDepth 100000 in
def rX2_build : List zm_R := [(0, .aload_n 0, 0, [], 0, 0, (0, 0), false, []),
  (1, .getfield 26, 2, [2, 4, 15, 0], 0, 0, (0, 0), false, []),
  (4, .bipush 20, 0, [], 20, 0, (0, 0), false, []),
  (6, .if_icmp .ge 17, 1, [12], 0, 0, (0, 0), false, []),
  (9, .aload_n 0, 0, [], 0, 0, (0, 0), false, []),
  (10, .dup, 0, [], 0, 0, (0, 0), false, []),
  (11, .getfield 26, 2, [2, 4, 15, 0], 0, 0, (0, 0), false, []),
  (14, .dup_x1, 0, [], 0, 0, (0, 0), false, []),
  (15, .iconst 1, 0, [], 1, 0, (0, 0), false, []),
  (16, .iadd, 0, [], 0, 0, (0, 0), false, []),
  (17, .putfield 26, 2, [2, 4, 15, 0], 0, 0, (0, 0), false, []),
  (20, .goto 5, 1, [13], 0, 0, (0, 0), false, []),
  (23, .bipush 19, 0, [], 19, 0, (0, 0), false, []),
  (25, .istore_n 3, 0, [], 0, 0, (0, 0), false, []),
  (26, .aload_n 0, 0, [], 0, 0, (0, 0), false, []),
  (27, .getfield 29, 2, [2, 5, 15, 2], 0, 0, (0, 0), false, []),
  (30, .iload_n 3, 0, [], 0, 0, (0, 0), false, []),
  (31, .iload_n 1, 0, [], 0, 0, (0, 0), false, []),
  (32, .iastore, 3, [0], 0, 0, (0, 0), false, []),
  (33, .aload_n 0, 0, [], 0, 0, (0, 0), false, []),
  (34, .getfield 32, 2, [2, 6, 15, 2], 0, 0, (0, 0), false, []),
  (37, .iload_n 3, 0, [], 0, 0, (0, 0), false, []),
  (38, .iload_n 2, 0, [], 0, 0, (0, 0), false, []),
  (39, .iastore, 3, [0], 0, 0, (0, 0), false, []),
  (40, .aload_n 0, 0, [], 0, 0, (0, 0), false, []),
  (41, .getfield 41, 2, [2, 9, 15, 2], 0, 0, (0, 0), false, []),
  (44, .iload_n 3, 0, [], 0, 0, (0, 0), false, []),
  (45, .iconst 0, 0, [], 0, 0, (0, 0), false, []),
  (46, .bastore, 3, [3], 0, 0, (0, 0), false, []),
  (47, .aload_n 0, 0, [], 0, 0, (0, 0), false, []),
  (48, .iload_n 3, 0, [], 0, 0, (0, 0), false, []),
  (49, .iconst 0, 0, [], 0, 0, (0, 0), false, []),
  (50, .iconst 0, 0, [], 0, 0, (0, 0), false, []),
  (51, .invokevirtual 70, 6, [0, 0, 4, 0, 0, 2], 0, 0, (0, 0), false, []),
  (54, .iload_n 3, 0, [], 0, 0, (0, 0), false, []),
  (55, .ireturn, 5, [0], 0, 0, (0, 0), false, [])]
def eX2_build : List zm_M := [mX2_lock]
noncomputable def vX2_build : List (zm_M × zm_S) := [(mX2_lock, sX2_lock)]
noncomputable def sX2_build : zm_S := zsem vX2_build rX2_build 4
set_option maxRecDepth 100000 in
theorem aX2_build : zall RX2 mX2_build eX2_build rX2_build = true := by decide +kernel
set_option maxRecDepth 100000 in
theorem wX2_build : ∀ w ∈ zwds RX2 mX2_build eX2_build rX2_build, w ∈ gT := zwd_of [105, 105, 105, 108, 110, 116, 916, 917, 918, 40, 919] (by decide +kernel) (by decide +kernel) (z7_no (by decide +kernel))
set_option maxRecDepth 100000 in
theorem xX2_build : ∀ w ∈ zwxs RX2 mX2_build eX2_build rX2_build, zspc w = true ∧ w ∈ lw_tbl := by decide +kernel
theorem tX2_build {sc : Nat × (Nat → Int32)} {l : Launch} (hlt : l.stackTraces = false) : MetA sc l mX2_build (sX2_build) := zmet (M := mX2_build) (own := RX2) (envM := eX2_build) hlt rfl (by decide +kernel) (by decide +kernel) rfl (fun j q hq => by
  match j, hq with
  | 0, hq => cases hq; exact tX2_lock hlt
  | n + 1, hq => cases hq) aX2_build wX2_build xX2_build rfl
def mX2_dropDoor : zm_M := (yX2_dropDoor, cX2_dropDoor, 3, none, (1, 0, 0, 23), 1, [], (0, 0))
set_option maxRecDepth 100000 in
def rX2_dropDoor : List zm_R := [(0, .iload_n 1, 0, [], 0, 0, (0, 0), false, []),
  (1, .istore_n 2, 0, [], 0, 0, (0, 0), false, []),
  (2, .iload_n 2, 0, [], 0, 0, (0, 0), true, [1]),
  (3, .iconst 1, 0, [], 1, 0, (0, 0), false, []),
  (4, .iadd, 0, [], 0, 0, (0, 0), false, []),
  (5, .aload_n 0, 0, [], 0, 0, (0, 0), false, []),
  (6, .getfield 26, 2, [2, 4, 15, 0], 0, 0, (0, 0), false, []),
  (9, .if_icmp .ge 72, 1, [55], 0, 0, (0, 0), false, []),
  (12, .aload_n 0, 0, [], 0, 0, (0, 0), false, []),
  (13, .getfield 29, 2, [2, 5, 15, 2], 0, 0, (0, 0), false, []),
  (16, .iload_n 2, 0, [], 0, 0, (0, 0), false, []),
  (17, .aload_n 0, 0, [], 0, 0, (0, 0), false, []),
  (18, .getfield 29, 2, [2, 5, 15, 2], 0, 0, (0, 0), false, []),
  (21, .iload_n 2, 0, [], 0, 0, (0, 0), false, []),
  (22, .iconst 1, 0, [], 1, 0, (0, 0), false, []),
  (23, .iadd, 0, [], 0, 0, (0, 0), false, []),
  (24, .iaload, 3, [0], 0, 0, (0, 0), false, []),
  (25, .iastore, 3, [0], 0, 0, (0, 0), false, []),
  (26, .aload_n 0, 0, [], 0, 0, (0, 0), false, []),
  (27, .getfield 32, 2, [2, 6, 15, 2], 0, 0, (0, 0), false, []),
  (30, .iload_n 2, 0, [], 0, 0, (0, 0), false, []),
  (31, .aload_n 0, 0, [], 0, 0, (0, 0), false, []),
  (32, .getfield 32, 2, [2, 6, 15, 2], 0, 0, (0, 0), false, []),
  (35, .iload_n 2, 0, [], 0, 0, (0, 0), false, []),
  (36, .iconst 1, 0, [], 1, 0, (0, 0), false, []),
  (37, .iadd, 0, [], 0, 0, (0, 0), false, []),
  (38, .iaload, 3, [0], 0, 0, (0, 0), false, []),
  (39, .iastore, 3, [0], 0, 0, (0, 0), false, []),
  (40, .aload_n 0, 0, [], 0, 0, (0, 0), false, []),
  (41, .getfield 41, 2, [2, 9, 15, 2], 0, 0, (0, 0), false, []),
  (44, .iload_n 2, 0, [], 0, 0, (0, 0), false, []),
  (45, .aload_n 0, 0, [], 0, 0, (0, 0), false, []),
  (46, .getfield 41, 2, [2, 9, 15, 2], 0, 0, (0, 0), false, []),
  (49, .iload_n 2, 0, [], 0, 0, (0, 0), false, []),
  (50, .iconst 1, 0, [], 1, 0, (0, 0), false, []),
  (51, .iadd, 0, [], 0, 0, (0, 0), false, []),
  (52, .baload, 3, [3], 0, 0, (0, 0), false, []),
  (53, .bastore, 3, [3], 0, 0, (0, 0), false, []),
  (54, .aload_n 0, 0, [], 0, 0, (0, 0), false, []),
  (55, .iload_n 2, 0, [], 0, 0, (0, 0), false, []),
  (56, .aload_n 0, 0, [], 0, 0, (0, 0), false, []),
  (57, .getfield 35, 2, [2, 7, 15, 2], 0, 0, (0, 0), false, []),
  (60, .iload_n 2, 0, [], 0, 0, (0, 0), false, []),
  (61, .iconst 1, 0, [], 1, 0, (0, 0), false, []),
  (62, .iadd, 0, [], 0, 0, (0, 0), false, []),
  (63, .iaload, 3, [0], 0, 0, (0, 0), false, []),
  (64, .aload_n 0, 0, [], 0, 0, (0, 0), false, []),
  (65, .getfield 38, 2, [2, 8, 15, 2], 0, 0, (0, 0), false, []),
  (68, .iload_n 2, 0, [], 0, 0, (0, 0), false, []),
  (69, .iconst 1, 0, [], 1, 0, (0, 0), false, []),
  (70, .iadd, 0, [], 0, 0, (0, 0), false, []),
  (71, .iaload, 3, [0], 0, 0, (0, 0), false, []),
  (72, .invokevirtual 70, 6, [0, 0, 4, 0, 0, 2], 0, 0, (0, 0), false, []),
  (75, .iinc 2 1, 0, [], 1, 0, (0, 0), false, []),
  (78, .goto (-76), 1, [2], 0, 0, (0, 0), false, []),
  (81, .aload_n 0, 0, [], 0, 0, (0, 0), false, []),
  (82, .dup, 0, [], 0, 0, (0, 0), false, []),
  (83, .getfield 26, 2, [2, 4, 15, 0], 0, 0, (0, 0), false, []),
  (86, .iconst 1, 0, [], 1, 0, (0, 0), false, []),
  (87, .isub, 0, [], 0, 0, (0, 0), false, []),
  (88, .putfield 26, 2, [2, 4, 15, 0], 0, 0, (0, 0), false, []),
  (91, .return_, 5, [], 0, 0, (0, 0), false, [])]
def eX2_dropDoor : List zm_M := [mX2_lock]
noncomputable def vX2_dropDoor : List (zm_M × zm_S) := [(mX2_lock, sX2_lock)]
noncomputable def sX2_dropDoor : zm_S := zsem vX2_dropDoor rX2_dropDoor 3
set_option maxRecDepth 100000 in
theorem aX2_dropDoor : zall RX2 mX2_dropDoor eX2_dropDoor rX2_dropDoor = true := by decide +kernel
set_option maxRecDepth 100000 in
theorem wX2_dropDoor : ∀ w ∈ zwds RX2 mX2_dropDoor eX2_dropDoor rX2_dropDoor, w ∈ gT := zwd_of [105, 108, 108, 110, 110, 116, 116, 112, 114, 916, 917, 918, 40, 919, 105, 105] (by decide +kernel) (by decide +kernel) (z7_no (by decide +kernel))
set_option maxRecDepth 100000 in
theorem xX2_dropDoor : ∀ w ∈ zwxs RX2 mX2_dropDoor eX2_dropDoor rX2_dropDoor, zspc w = true ∧ w ∈ lw_tbl := by decide +kernel
theorem tX2_dropDoor {sc : Nat × (Nat → Int32)} {l : Launch} (hlt : l.stackTraces = false) : MetA sc l mX2_dropDoor (sX2_dropDoor) := zmet (M := mX2_dropDoor) (own := RX2) (envM := eX2_dropDoor) hlt rfl (by decide +kernel) (by decide +kernel) rfl (fun j q hq => by
  match j, hq with
  | 0, hq => cases hq; exact tX2_lock hlt
  | n + 1, hq => cases hq) aX2_dropDoor wX2_dropDoor xX2_dropDoor rfl
def mX2_roomNamed : zm_M := (yX2_roomNamed, cX2_roomNamed, 4, (some .int), (0, 0, 0, 0), 1, [], (0, 0))
set_option maxRecDepth 100000 in
def rX2_roomNamed : List zm_R := [(0, .iconst 0, 0, [], 0, 0, (0, 0), false, []),
  (1, .istore_n 3, 0, [], 0, 0, (0, 0), false, []),
  (2, .iload_n 3, 0, [], 0, 0, (0, 0), true, [2]),
  (3, .aload_n 0, 0, [], 0, 0, (0, 0), false, []),
  (4, .getfield 9, 2, [2, 0, 15, 0], 0, 0, (0, 0), false, []),
  (7, .if_icmp .ge 22, 1, [17], 0, 0, (0, 0), false, []),
  (10, .aload_n 0, 0, [], 0, 0, (0, 0), false, []),
  (11, .getfield 15, 2, [2, 1, 15, 2], 0, 0, (0, 0), false, []),
  (14, .iload_n 3, 0, [], 0, 0, (0, 0), false, []),
  (15, .laload, 3, [1], 0, 0, (0, 0), false, []),
  (16, .lload_n 1, 0, [], 0, 0, (0, 0), false, []),
  (17, .lcmp, 0, [], 0, 0, (0, 0), false, []),
  (18, .ifCond .ne 5, 1, [15], 0, 0, (0, 0), false, []),
  (21, .iload_n 3, 0, [], 0, 0, (0, 0), false, []),
  (22, .ireturn, 5, [0], 0, 0, (0, 0), false, []),
  (23, .iinc 3 1, 0, [], 1, 0, (0, 0), false, []),
  (26, .goto (-24), 1, [2], 0, 0, (0, 0), false, []),
  (29, .iconst (-1), 0, [], (-1), 0, (0, 0), false, []),
  (30, .ireturn, 5, [0], 0, 0, (0, 0), false, [])]
def eX2_roomNamed : List zm_M := []
noncomputable def vX2_roomNamed : List (zm_M × zm_S) := []
noncomputable def sX2_roomNamed : zm_S := zsem vX2_roomNamed rX2_roomNamed 4
set_option maxRecDepth 100000 in
theorem aX2_roomNamed : zall RX2 mX2_roomNamed eX2_roomNamed rX2_roomNamed = true := by decide +kernel
set_option maxRecDepth 100000 in
theorem wX2_roomNamed : ∀ w ∈ zwds RX2 mX2_roomNamed eX2_roomNamed rX2_roomNamed, w ∈ gT := zwd_of [94, 98] (by decide +kernel) (by decide +kernel) (z7_no (by decide +kernel))
set_option maxRecDepth 100000 in
theorem xX2_roomNamed : ∀ w ∈ zwxs RX2 mX2_roomNamed eX2_roomNamed rX2_roomNamed, zspc w = true ∧ w ∈ lw_tbl := by decide +kernel
theorem tX2_roomNamed {sc : Nat × (Nat → Int32)} {l : Launch} (hlt : l.stackTraces = false) : MetA sc l mX2_roomNamed (sX2_roomNamed) := zmet (M := mX2_roomNamed) (own := RX2) (envM := eX2_roomNamed) hlt rfl (by decide +kernel) (by decide +kernel) rfl (fun j q hq => by cases hq) aX2_roomNamed wX2_roomNamed xX2_roomNamed rfl
def mX2_everyRoom : zm_M := (yX2_everyRoom, cX2_everyRoom, 1, (some .int), (0, 0, 0, 0), 0, [], (0, 0))
set_option maxRecDepth 100000 in
def rX2_everyRoom : List zm_R := [(0, .iconst 1, 0, [], 1, 0, (0, 0), false, []),
  (1, .aload_n 0, 0, [], 0, 0, (0, 0), false, []),
  (2, .getfield 9, 2, [2, 0, 15, 0], 0, 0, (0, 0), false, []),
  (5, .ishl, 0, [], 0, 0, (0, 0), false, []),
  (6, .iconst 1, 0, [], 1, 0, (0, 0), false, []),
  (7, .isub, 0, [], 0, 0, (0, 0), false, []),
  (8, .ireturn, 5, [0], 0, 0, (0, 0), false, [])]
def eX2_everyRoom : List zm_M := []
noncomputable def vX2_everyRoom : List (zm_M × zm_S) := []
noncomputable def sX2_everyRoom : zm_S := zsem vX2_everyRoom rX2_everyRoom 1
set_option maxRecDepth 100000 in
theorem aX2_everyRoom : zall RX2 mX2_everyRoom eX2_everyRoom rX2_everyRoom = true := by decide +kernel
set_option maxRecDepth 100000 in
theorem wX2_everyRoom : ∀ w ∈ zwds RX2 mX2_everyRoom eX2_everyRoom rX2_everyRoom, w ∈ gT := zwd_of [94] (by decide +kernel) (by decide +kernel) (z7_no (by decide +kernel))
set_option maxRecDepth 100000 in
theorem xX2_everyRoom : ∀ w ∈ zwxs RX2 mX2_everyRoom eX2_everyRoom rX2_everyRoom, zspc w = true ∧ w ∈ lw_tbl := by decide +kernel
theorem tX2_everyRoom {sc : Nat × (Nat → Int32)} {l : Launch} (hlt : l.stackTraces = false) : MetA sc l mX2_everyRoom (sX2_everyRoom) := zmet (M := mX2_everyRoom) (own := RX2) (envM := eX2_everyRoom) hlt rfl (by decide +kernel) (by decide +kernel) rfl (fun j q hq => by cases hq) aX2_everyRoom wX2_everyRoom xX2_everyRoom rfl
def mX5_has : zm_M := (yX5_has, cX5_has, 2, (some .boolean), (0, 0, 0, 0), 2, [], (0, 0))
set_option maxRecDepth 100000 in
def rX5_has : List zm_R := [(0, .iload_n 0, 0, [], 0, 0, (0, 0), false, []),
  (1, .iload_n 1, 0, [], 0, 0, (0, 0), false, []),
  (2, .ishr, 0, [], 0, 0, (0, 0), false, []),
  (3, .iconst 1, 0, [], 1, 0, (0, 0), false, []),
  (4, .iand, 0, [], 0, 0, (0, 0), false, []),
  (5, .ifCond .eq 7, 1, [8], 0, 0, (0, 0), false, []),
  (8, .iconst 1, 0, [], 1, 0, (0, 0), false, []),
  (9, .goto 4, 1, [9], 0, 0, (0, 0), false, []),
  (12, .iconst 0, 0, [], 0, 0, (0, 0), false, []),
  (13, .ireturn, 5, [1], 0, 0, (0, 0), false, [])]
def eX5_has : List zm_M := []
noncomputable def vX5_has : List (zm_M × zm_S) := []
noncomputable def sX5_has : zm_S := zsem vX5_has rX5_has 2
set_option maxRecDepth 100000 in
theorem aX5_has : zall RX5 mX5_has eX5_has rX5_has = true := by decide +kernel
set_option maxRecDepth 100000 in
theorem wX5_has : ∀ w ∈ zwds RX5 mX5_has eX5_has rX5_has, w ∈ gT := zwd_of [] (by decide +kernel) (by decide +kernel) (z7_no (by decide +kernel))
set_option maxRecDepth 100000 in
theorem xX5_has : ∀ w ∈ zwxs RX5 mX5_has eX5_has rX5_has, zspc w = true ∧ w ∈ lw_tbl := by decide +kernel
theorem tX5_has {sc : Nat × (Nat → Int32)} {l : Launch} (hlt : l.stackTraces = false) : MetA sc l mX5_has (sX5_has) := zmet (M := mX5_has) (own := RX5) (envM := eX5_has) hlt rfl (by decide +kernel) (by decide +kernel) rfl (fun j q hq => by cases hq) aX5_has wX5_has xX5_has rfl
def mX2_keysIn : zm_M := (yX2_keysIn, cX2_keysIn, 4, (some .int), (1, 0, 0, 21), 1, [], (0, 0))
set_option maxRecDepth 100000 in
def rX2_keysIn : List zm_R := [(0, .iconst 0, 0, [], 0, 0, (0, 0), false, []),
  (1, .istore_n 2, 0, [], 0, 0, (0, 0), false, []),
  (2, .iconst 0, 0, [], 0, 0, (0, 0), false, []),
  (3, .istore_n 3, 0, [], 0, 0, (0, 0), false, []),
  (4, .iload_n 3, 0, [], 0, 0, (0, 0), true, []),
  (5, .aload_n 0, 0, [], 0, 0, (0, 0), false, []),
  (6, .getfield 9, 2, [2, 0, 15, 0], 0, 0, (0, 0), false, []),
  (9, .if_icmp .ge 26, 1, [21], 0, 0, (0, 0), false, []),
  (12, .iload_n 1, 0, [], 0, 0, (0, 0), false, []),
  (13, .iload_n 3, 0, [], 0, 0, (0, 0), false, []),
  (14, .invokestatic 74, 6, [3, 0, 2, 1, 0, 5], 0, 0, (0, 0), false, []),
  (17, .ifCond .eq 12, 1, [19], 0, 0, (0, 0), false, []),
  (20, .iload_n 2, 0, [], 0, 0, (0, 0), false, []),
  (21, .aload_n 0, 0, [], 0, 0, (0, 0), false, []),
  (22, .getfield 19, 2, [2, 2, 15, 2], 0, 0, (0, 0), false, []),
  (25, .iload_n 3, 0, [], 0, 0, (0, 0), false, []),
  (26, .iaload, 3, [0], 0, 0, (0, 0), false, []),
  (27, .ior, 0, [], 0, 0, (0, 0), false, []),
  (28, .istore_n 2, 0, [], 0, 0, (0, 0), false, []),
  (29, .iinc 3 1, 0, [], 1, 0, (0, 0), false, []),
  (32, .goto (-28), 1, [4], 0, 0, (0, 0), false, []),
  (35, .iload_n 2, 0, [], 0, 0, (0, 0), false, []),
  (36, .ireturn, 5, [0], 0, 0, (0, 0), false, [])]
def eX2_keysIn : List zm_M := [mX5_has]
noncomputable def vX2_keysIn : List (zm_M × zm_S) := [(mX5_has, sX5_has)]
noncomputable def sX2_keysIn : zm_S := zsem vX2_keysIn rX2_keysIn 4
set_option maxRecDepth 100000 in
theorem aX2_keysIn : zall RX2 mX2_keysIn eX2_keysIn rX2_keysIn = true := by decide +kernel
set_option maxRecDepth 100000 in
theorem wX2_keysIn : ∀ w ∈ zwds RX2 mX2_keysIn eX2_keysIn rX2_keysIn, w ∈ gT := zwd_of [94, 265, 38, 266, 99] (by decide +kernel) (by decide +kernel) (z7_no (by decide +kernel))
set_option maxRecDepth 100000 in
theorem xX2_keysIn : ∀ w ∈ zwxs RX2 mX2_keysIn eX2_keysIn rX2_keysIn, zspc w = true ∧ w ∈ lw_tbl := by decide +kernel
theorem tX2_keysIn {sc : Nat × (Nat → Int32)} {l : Launch} (hlt : l.stackTraces = false) : MetA sc l mX2_keysIn (sX2_keysIn) := zmet (M := mX2_keysIn) (own := RX2) (envM := eX2_keysIn) hlt rfl (by decide +kernel) (by decide +kernel) rfl (fun j q hq => by
  match j, hq with
  | 0, hq => cases hq; exact tX5_has hlt
  | n + 1, hq => cases hq) aX2_keysIn wX2_keysIn xX2_keysIn rfl
def mX2_coinsIn : zm_M := (yX2_coinsIn, cX2_coinsIn, 4, (some .int), (1, 0, 0, 21), 1, [], (0, 0))
set_option maxRecDepth 100000 in
def rX2_coinsIn : List zm_R := [(0, .iconst 0, 0, [], 0, 0, (0, 0), false, []),
  (1, .istore_n 2, 0, [], 0, 0, (0, 0), false, []),
  (2, .iconst 0, 0, [], 0, 0, (0, 0), false, []),
  (3, .istore_n 3, 0, [], 0, 0, (0, 0), false, []),
  (4, .iload_n 3, 0, [], 0, 0, (0, 0), true, []),
  (5, .aload_n 0, 0, [], 0, 0, (0, 0), false, []),
  (6, .getfield 9, 2, [2, 0, 15, 0], 0, 0, (0, 0), false, []),
  (9, .if_icmp .ge 26, 1, [21], 0, 0, (0, 0), false, []),
  (12, .iload_n 1, 0, [], 0, 0, (0, 0), false, []),
  (13, .iload_n 3, 0, [], 0, 0, (0, 0), false, []),
  (14, .invokestatic 74, 6, [3, 0, 2, 1, 0, 5], 0, 0, (0, 0), false, []),
  (17, .ifCond .eq 12, 1, [19], 0, 0, (0, 0), false, []),
  (20, .iload_n 2, 0, [], 0, 0, (0, 0), false, []),
  (21, .aload_n 0, 0, [], 0, 0, (0, 0), false, []),
  (22, .getfield 23, 2, [2, 3, 15, 2], 0, 0, (0, 0), false, []),
  (25, .iload_n 3, 0, [], 0, 0, (0, 0), false, []),
  (26, .iaload, 3, [0], 0, 0, (0, 0), false, []),
  (27, .iadd, 0, [], 0, 0, (0, 0), false, []),
  (28, .istore_n 2, 0, [], 0, 0, (0, 0), false, []),
  (29, .iinc 3 1, 0, [], 1, 0, (0, 0), false, []),
  (32, .goto (-28), 1, [4], 0, 0, (0, 0), false, []),
  (35, .iload_n 2, 0, [], 0, 0, (0, 0), false, []),
  (36, .ireturn, 5, [0], 0, 0, (0, 0), false, [])]
def eX2_coinsIn : List zm_M := [mX5_has]
noncomputable def vX2_coinsIn : List (zm_M × zm_S) := [(mX5_has, sX5_has)]
noncomputable def sX2_coinsIn : zm_S := zsem vX2_coinsIn rX2_coinsIn 4
set_option maxRecDepth 100000 in
theorem aX2_coinsIn : zall RX2 mX2_coinsIn eX2_coinsIn rX2_coinsIn = true := by decide +kernel
set_option maxRecDepth 100000 in
theorem wX2_coinsIn : ∀ w ∈ zwds RX2 mX2_coinsIn eX2_coinsIn rX2_coinsIn, w ∈ gT := zwd_of [94, 265, 38, 266, 102] (by decide +kernel) (by decide +kernel) (z7_no (by decide +kernel))
set_option maxRecDepth 100000 in
theorem xX2_coinsIn : ∀ w ∈ zwxs RX2 mX2_coinsIn eX2_coinsIn rX2_coinsIn, zspc w = true ∧ w ∈ lw_tbl := by decide +kernel
theorem tX2_coinsIn {sc : Nat × (Nat → Int32)} {l : Launch} (hlt : l.stackTraces = false) : MetA sc l mX2_coinsIn (sX2_coinsIn) := zmet (M := mX2_coinsIn) (own := RX2) (envM := eX2_coinsIn) hlt rfl (by decide +kernel) (by decide +kernel) rfl (fun j q hq => by
  match j, hq with
  | 0, hq => cases hq; exact tX5_has hlt
  | n + 1, hq => cases hq) aX2_coinsIn wX2_coinsIn xX2_coinsIn rfl
def mX2_opens : zm_M := (yX2_opens, cX2_opens, 4, (some .boolean), (1, 0, 0, 21), 3, [], (0, 0))
set_option maxRecDepth 100000 in
def rX2_opens : List zm_R := [(0, .aload_n 0, 0, [], 0, 0, (0, 0), false, []),
  (1, .getfield 35, 2, [2, 7, 15, 2], 0, 0, (0, 0), false, []),
  (4, .iload_n 1, 0, [], 0, 0, (0, 0), false, []),
  (5, .iaload, 3, [0], 0, 0, (0, 0), false, []),
  (6, .iconst 1, 0, [], 1, 0, (0, 0), false, []),
  (7, .if_icmp .ne 14, 1, [13], 0, 0, (0, 0), false, []),
  (10, .iload_n 2, 0, [], 0, 0, (0, 0), false, []),
  (11, .aload_n 0, 0, [], 0, 0, (0, 0), false, []),
  (12, .getfield 38, 2, [2, 8, 15, 2], 0, 0, (0, 0), false, []),
  (15, .iload_n 1, 0, [], 0, 0, (0, 0), false, []),
  (16, .iaload, 3, [0], 0, 0, (0, 0), false, []),
  (17, .invokestatic 74, 6, [3, 0, 2, 1, 0, 5], 0, 0, (0, 0), false, []),
  (20, .ireturn, 5, [1], 0, 0, (0, 0), false, []),
  (21, .aload_n 0, 0, [], 0, 0, (0, 0), false, []),
  (22, .getfield 35, 2, [2, 7, 15, 2], 0, 0, (0, 0), false, []),
  (25, .iload_n 1, 0, [], 0, 0, (0, 0), false, []),
  (26, .iaload, 3, [0], 0, 0, (0, 0), false, []),
  (27, .ifCond .eq 13, 1, [24], 0, 0, (0, 0), false, []),
  (30, .iload_n 3, 0, [], 0, 0, (0, 0), false, []),
  (31, .aload_n 0, 0, [], 0, 0, (0, 0), false, []),
  (32, .getfield 38, 2, [2, 8, 15, 2], 0, 0, (0, 0), false, []),
  (35, .iload_n 1, 0, [], 0, 0, (0, 0), false, []),
  (36, .iaload, 3, [0], 0, 0, (0, 0), false, []),
  (37, .if_icmp .lt 7, 1, [26], 0, 0, (0, 0), false, []),
  (40, .iconst 1, 0, [], 1, 0, (0, 0), false, []),
  (41, .goto 4, 1, [27], 0, 0, (0, 0), false, []),
  (44, .iconst 0, 0, [], 0, 0, (0, 0), false, []),
  (45, .ireturn, 5, [1], 0, 0, (0, 0), false, [])]
def eX2_opens : List zm_M := [mX5_has]
noncomputable def vX2_opens : List (zm_M × zm_S) := [(mX5_has, sX5_has)]
noncomputable def sX2_opens : zm_S := zsem vX2_opens rX2_opens 4
set_option maxRecDepth 100000 in
theorem aX2_opens : zall RX2 mX2_opens eX2_opens rX2_opens = true := by decide +kernel
set_option maxRecDepth 100000 in
theorem wX2_opens : ∀ w ∈ zwds RX2 mX2_opens eX2_opens rX2_opens, w ∈ gT := zwd_of [112, 114, 265, 38, 266, 112, 114] (by decide +kernel) (by decide +kernel) (z7_no (by decide +kernel))
set_option maxRecDepth 100000 in
theorem xX2_opens : ∀ w ∈ zwxs RX2 mX2_opens eX2_opens rX2_opens, zspc w = true ∧ w ∈ lw_tbl := by decide +kernel
theorem tX2_opens {sc : Nat × (Nat → Int32)} {l : Launch} (hlt : l.stackTraces = false) : MetA sc l mX2_opens (sX2_opens) := zmet (M := mX2_opens) (own := RX2) (envM := eX2_opens) hlt rfl (by decide +kernel) (by decide +kernel) rfl (fun j q hq => by
  match j, hq with
  | 0, hq => cases hq; exact tX5_has hlt
  | n + 1, hq => cases hq) aX2_opens wX2_opens xX2_opens rfl
def mX2_openDoors : zm_M := (yX2_openDoors, cX2_openDoors, 6, (some .int), (2, 0, 0, 44), 1, [], (0, 0))
set_option maxRecDepth 100000 in
def rX2_openDoors : List zm_R := [(0, .aload_n 0, 0, [], 0, 0, (0, 0), false, []),
  (1, .iload_n 1, 0, [], 0, 0, (0, 0), false, []),
  (2, .invokevirtual 78, 6, [0, 0, 2, 1, 0, 2], 0, 0, (0, 0), false, []),
  (5, .istore_n 2, 0, [], 0, 0, (0, 0), false, []),
  (6, .aload_n 0, 0, [], 0, 0, (0, 0), false, []),
  (7, .iload_n 1, 0, [], 0, 0, (0, 0), false, []),
  (8, .invokevirtual 82, 6, [0, 1, 2, 1, 0, 2], 0, 0, (0, 0), false, []),
  (11, .istore_n 3, 0, [], 0, 0, (0, 0), false, []),
  (12, .iconst 0, 0, [], 0, 0, (0, 0), false, []),
  (13, .istore 4, 0, [], 0, 0, (0, 0), false, []),
  (15, .iconst 0, 0, [], 0, 0, (0, 0), false, []),
  (16, .istore 5, 0, [], 0, 0, (0, 0), false, []),
  (18, .iload 5, 0, [], 0, 0, (0, 0), true, [1]),
  (20, .aload_n 0, 0, [], 0, 0, (0, 0), false, []),
  (21, .getfield 26, 2, [2, 4, 15, 0], 0, 0, (0, 0), false, []),
  (24, .if_icmp .ge 29, 1, [30], 0, 0, (0, 0), false, []),
  (27, .aload_n 0, 0, [], 0, 0, (0, 0), false, []),
  (28, .iload 5, 0, [], 0, 0, (0, 0), false, []),
  (30, .iload_n 2, 0, [], 0, 0, (0, 0), false, []),
  (31, .iload_n 3, 0, [], 0, 0, (0, 0), false, []),
  (32, .invokevirtual 85, 6, [0, 2, 4, 1, 0, 2], 0, 0, (0, 0), false, []),
  (35, .ifCond .eq 12, 1, [28], 0, 0, (0, 0), false, []),
  (38, .iload 4, 0, [], 0, 0, (0, 0), false, []),
  (40, .iconst 1, 0, [], 1, 0, (0, 0), false, []),
  (41, .iload 5, 0, [], 0, 0, (0, 0), false, []),
  (43, .ishl, 0, [], 0, 0, (0, 0), false, []),
  (44, .ior, 0, [], 0, 0, (0, 0), false, []),
  (45, .istore 4, 0, [], 0, 0, (0, 0), false, []),
  (47, .iinc 5 1, 0, [], 1, 0, (0, 0), false, []),
  (50, .goto (-32), 1, [12], 0, 0, (0, 0), false, []),
  (53, .iload 4, 0, [], 0, 0, (0, 0), false, []),
  (55, .ireturn, 5, [0], 0, 0, (0, 0), false, [])]
def eX2_openDoors : List zm_M := [mX2_keysIn, mX2_coinsIn, mX2_opens]
noncomputable def vX2_openDoors : List (zm_M × zm_S) := [(mX2_keysIn, sX2_keysIn), (mX2_coinsIn, sX2_coinsIn), (mX2_opens, sX2_opens)]
noncomputable def sX2_openDoors : zm_S := zsem vX2_openDoors rX2_openDoors 6
set_option maxRecDepth 100000 in
theorem aX2_openDoors : zall RX2 mX2_openDoors eX2_openDoors rX2_openDoors = true := by decide +kernel
set_option maxRecDepth 100000 in
theorem wX2_openDoors : ∀ w ∈ zwds RX2 mX2_openDoors eX2_openDoors rX2_openDoors, w ∈ gT := zwd_of [371, 261, 262, 40, 263, 372, 268, 269, 40, 270, 105, 374, 376, 7, 40, 377] (by decide +kernel) (by decide +kernel) (z7_no (by decide +kernel))
set_option maxRecDepth 100000 in
theorem xX2_openDoors : ∀ w ∈ zwxs RX2 mX2_openDoors eX2_openDoors rX2_openDoors, zspc w = true ∧ w ∈ lw_tbl := by decide +kernel
theorem tX2_openDoors {sc : Nat × (Nat → Int32)} {l : Launch} (hlt : l.stackTraces = false) : MetA sc l mX2_openDoors (sX2_openDoors) := zmet (M := mX2_openDoors) (own := RX2) (envM := eX2_openDoors) hlt rfl (by decide +kernel) (by decide +kernel) rfl (fun j q hq => by
  match j, hq with
  | 0, hq => cases hq; exact tX2_keysIn hlt
  | 1, hq => cases hq; exact tX2_coinsIn hlt
  | 2, hq => cases hq; exact tX2_opens hlt
  | n + 3, hq => cases hq) aX2_openDoors wX2_openDoors xX2_openDoors rfl
def mX2_doorsFrom : zm_M := (yX2_doorsFrom, cX2_doorsFrom, 4, (some .int), (0, 0, 0, 0), 1, [], (0, 0))
set_option maxRecDepth 100000 in
def rX2_doorsFrom : List zm_R := [(0, .iconst 0, 0, [], 0, 0, (0, 0), false, []),
  (1, .istore_n 2, 0, [], 0, 0, (0, 0), false, []),
  (2, .iconst 0, 0, [], 0, 0, (0, 0), false, []),
  (3, .istore_n 3, 0, [], 0, 0, (0, 0), false, []),
  (4, .iload_n 3, 0, [], 0, 0, (0, 0), true, []),
  (5, .aload_n 0, 0, [], 0, 0, (0, 0), false, []),
  (6, .getfield 26, 2, [2, 4, 15, 0], 0, 0, (0, 0), false, []),
  (9, .if_icmp .ge 44, 1, [33], 0, 0, (0, 0), false, []),
  (12, .aload_n 0, 0, [], 0, 0, (0, 0), false, []),
  (13, .getfield 29, 2, [2, 5, 15, 2], 0, 0, (0, 0), false, []),
  (16, .iload_n 3, 0, [], 0, 0, (0, 0), false, []),
  (17, .iaload, 3, [0], 0, 0, (0, 0), false, []),
  (18, .iload_n 1, 0, [], 0, 0, (0, 0), false, []),
  (19, .if_icmp .eq 22, 1, [25], 0, 0, (0, 0), false, []),
  (22, .aload_n 0, 0, [], 0, 0, (0, 0), false, []),
  (23, .getfield 32, 2, [2, 6, 15, 2], 0, 0, (0, 0), false, []),
  (26, .iload_n 3, 0, [], 0, 0, (0, 0), false, []),
  (27, .iaload, 3, [0], 0, 0, (0, 0), false, []),
  (28, .iload_n 1, 0, [], 0, 0, (0, 0), false, []),
  (29, .if_icmp .ne 18, 1, [31], 0, 0, (0, 0), false, []),
  (32, .aload_n 0, 0, [], 0, 0, (0, 0), false, []),
  (33, .getfield 41, 2, [2, 9, 15, 2], 0, 0, (0, 0), false, []),
  (36, .iload_n 3, 0, [], 0, 0, (0, 0), false, []),
  (37, .baload, 3, [3], 0, 0, (0, 0), false, []),
  (38, .ifCond .ne 9, 1, [31], 0, 0, (0, 0), false, []),
  (41, .iload_n 2, 0, [], 0, 0, (0, 0), false, []),
  (42, .iconst 1, 0, [], 1, 0, (0, 0), false, []),
  (43, .iload_n 3, 0, [], 0, 0, (0, 0), false, []),
  (44, .ishl, 0, [], 0, 0, (0, 0), false, []),
  (45, .ior, 0, [], 0, 0, (0, 0), false, []),
  (46, .istore_n 2, 0, [], 0, 0, (0, 0), false, []),
  (47, .iinc 3 1, 0, [], 1, 0, (0, 0), false, []),
  (50, .goto (-46), 1, [4], 0, 0, (0, 0), false, []),
  (53, .iload_n 2, 0, [], 0, 0, (0, 0), false, []),
  (54, .ireturn, 5, [0], 0, 0, (0, 0), false, [])]
def eX2_doorsFrom : List zm_M := []
noncomputable def vX2_doorsFrom : List (zm_M × zm_S) := []
noncomputable def sX2_doorsFrom : zm_S := zsem vX2_doorsFrom rX2_doorsFrom 4
set_option maxRecDepth 100000 in
theorem aX2_doorsFrom : zall RX2 mX2_doorsFrom eX2_doorsFrom rX2_doorsFrom = true := by decide +kernel
set_option maxRecDepth 100000 in
theorem wX2_doorsFrom : ∀ w ∈ zwds RX2 mX2_doorsFrom eX2_doorsFrom rX2_doorsFrom, w ∈ gT := zwd_of [105, 108, 110, 116] (by decide +kernel) (by decide +kernel) (z7_no (by decide +kernel))
set_option maxRecDepth 100000 in
theorem xX2_doorsFrom : ∀ w ∈ zwxs RX2 mX2_doorsFrom eX2_doorsFrom rX2_doorsFrom, zspc w = true ∧ w ∈ lw_tbl := by decide +kernel
theorem tX2_doorsFrom {sc : Nat × (Nat → Int32)} {l : Launch} (hlt : l.stackTraces = false) : MetA sc l mX2_doorsFrom (sX2_doorsFrom) := zmet (M := mX2_doorsFrom) (own := RX2) (envM := eX2_doorsFrom) hlt rfl (by decide +kernel) (by decide +kernel) rfl (fun j q hq => by cases hq) aX2_doorsFrom wX2_doorsFrom xX2_doorsFrom rfl
def mX2_doorsInto : zm_M := (yX2_doorsInto, cX2_doorsInto, 4, (some .int), (0, 0, 0, 0), 1, [], (0, 0))
set_option maxRecDepth 100000 in
def rX2_doorsInto : List zm_R := [(0, .iconst 0, 0, [], 0, 0, (0, 0), false, []),
  (1, .istore_n 2, 0, [], 0, 0, (0, 0), false, []),
  (2, .iconst 0, 0, [], 0, 0, (0, 0), false, []),
  (3, .istore_n 3, 0, [], 0, 0, (0, 0), false, []),
  (4, .iload_n 3, 0, [], 0, 0, (0, 0), true, []),
  (5, .aload_n 0, 0, [], 0, 0, (0, 0), false, []),
  (6, .getfield 26, 2, [2, 4, 15, 0], 0, 0, (0, 0), false, []),
  (9, .if_icmp .ge 44, 1, [33], 0, 0, (0, 0), false, []),
  (12, .aload_n 0, 0, [], 0, 0, (0, 0), false, []),
  (13, .getfield 32, 2, [2, 6, 15, 2], 0, 0, (0, 0), false, []),
  (16, .iload_n 3, 0, [], 0, 0, (0, 0), false, []),
  (17, .iaload, 3, [0], 0, 0, (0, 0), false, []),
  (18, .iload_n 1, 0, [], 0, 0, (0, 0), false, []),
  (19, .if_icmp .eq 22, 1, [25], 0, 0, (0, 0), false, []),
  (22, .aload_n 0, 0, [], 0, 0, (0, 0), false, []),
  (23, .getfield 29, 2, [2, 5, 15, 2], 0, 0, (0, 0), false, []),
  (26, .iload_n 3, 0, [], 0, 0, (0, 0), false, []),
  (27, .iaload, 3, [0], 0, 0, (0, 0), false, []),
  (28, .iload_n 1, 0, [], 0, 0, (0, 0), false, []),
  (29, .if_icmp .ne 18, 1, [31], 0, 0, (0, 0), false, []),
  (32, .aload_n 0, 0, [], 0, 0, (0, 0), false, []),
  (33, .getfield 41, 2, [2, 9, 15, 2], 0, 0, (0, 0), false, []),
  (36, .iload_n 3, 0, [], 0, 0, (0, 0), false, []),
  (37, .baload, 3, [3], 0, 0, (0, 0), false, []),
  (38, .ifCond .ne 9, 1, [31], 0, 0, (0, 0), false, []),
  (41, .iload_n 2, 0, [], 0, 0, (0, 0), false, []),
  (42, .iconst 1, 0, [], 1, 0, (0, 0), false, []),
  (43, .iload_n 3, 0, [], 0, 0, (0, 0), false, []),
  (44, .ishl, 0, [], 0, 0, (0, 0), false, []),
  (45, .ior, 0, [], 0, 0, (0, 0), false, []),
  (46, .istore_n 2, 0, [], 0, 0, (0, 0), false, []),
  (47, .iinc 3 1, 0, [], 1, 0, (0, 0), false, []),
  (50, .goto (-46), 1, [4], 0, 0, (0, 0), false, []),
  (53, .iload_n 2, 0, [], 0, 0, (0, 0), false, []),
  (54, .ireturn, 5, [0], 0, 0, (0, 0), false, [])]
def eX2_doorsInto : List zm_M := []
noncomputable def vX2_doorsInto : List (zm_M × zm_S) := []
noncomputable def sX2_doorsInto : zm_S := zsem vX2_doorsInto rX2_doorsInto 4
set_option maxRecDepth 100000 in
theorem aX2_doorsInto : zall RX2 mX2_doorsInto eX2_doorsInto rX2_doorsInto = true := by decide +kernel
set_option maxRecDepth 100000 in
theorem wX2_doorsInto : ∀ w ∈ zwds RX2 mX2_doorsInto eX2_doorsInto rX2_doorsInto, w ∈ gT := zwd_of [105, 110, 108, 116] (by decide +kernel) (by decide +kernel) (z7_no (by decide +kernel))
set_option maxRecDepth 100000 in
theorem xX2_doorsInto : ∀ w ∈ zwxs RX2 mX2_doorsInto eX2_doorsInto rX2_doorsInto, zspc w = true ∧ w ∈ lw_tbl := by decide +kernel
theorem tX2_doorsInto {sc : Nat × (Nat → Int32)} {l : Launch} (hlt : l.stackTraces = false) : MetA sc l mX2_doorsInto (sX2_doorsInto) := zmet (M := mX2_doorsInto) (own := RX2) (envM := eX2_doorsInto) hlt rfl (by decide +kernel) (by decide +kernel) rfl (fun j q hq => by cases hq) aX2_doorsInto wX2_doorsInto xX2_doorsInto rfl
def mX2_anyToll : zm_M := (yX2_anyToll, cX2_anyToll, 3, (some .boolean), (1, 0, 0, 21), 1, [], (0, 0))
set_option maxRecDepth 100000 in
def rX2_anyToll : List zm_R := [(0, .iconst 0, 0, [], 0, 0, (0, 0), false, []),
  (1, .istore_n 2, 0, [], 0, 0, (0, 0), false, []),
  (2, .iload_n 2, 0, [], 0, 0, (0, 0), true, []),
  (3, .aload_n 0, 0, [], 0, 0, (0, 0), false, []),
  (4, .getfield 26, 2, [2, 4, 15, 0], 0, 0, (0, 0), false, []),
  (7, .if_icmp .ge 29, 1, [20], 0, 0, (0, 0), false, []),
  (10, .iload_n 1, 0, [], 0, 0, (0, 0), false, []),
  (11, .iload_n 2, 0, [], 0, 0, (0, 0), false, []),
  (12, .invokestatic 74, 6, [3, 0, 2, 1, 0, 5], 0, 0, (0, 0), false, []),
  (15, .ifCond .eq 15, 1, [18], 0, 0, (0, 0), false, []),
  (18, .aload_n 0, 0, [], 0, 0, (0, 0), false, []),
  (19, .getfield 35, 2, [2, 7, 15, 2], 0, 0, (0, 0), false, []),
  (22, .iload_n 2, 0, [], 0, 0, (0, 0), false, []),
  (23, .iaload, 3, [0], 0, 0, (0, 0), false, []),
  (24, .iconst 2, 0, [], 2, 0, (0, 0), false, []),
  (25, .if_icmp .ne 5, 1, [18], 0, 0, (0, 0), false, []),
  (28, .iconst 1, 0, [], 1, 0, (0, 0), false, []),
  (29, .ireturn, 5, [1], 0, 0, (0, 0), false, []),
  (30, .iinc 2 1, 0, [], 1, 0, (0, 0), false, []),
  (33, .goto (-31), 1, [2], 0, 0, (0, 0), false, []),
  (36, .iconst 0, 0, [], 0, 0, (0, 0), false, []),
  (37, .ireturn, 5, [1], 0, 0, (0, 0), false, [])]
def eX2_anyToll : List zm_M := [mX5_has]
noncomputable def vX2_anyToll : List (zm_M × zm_S) := [(mX5_has, sX5_has)]
noncomputable def sX2_anyToll : zm_S := zsem vX2_anyToll rX2_anyToll 3
set_option maxRecDepth 100000 in
theorem aX2_anyToll : zall RX2 mX2_anyToll eX2_anyToll rX2_anyToll = true := by decide +kernel
set_option maxRecDepth 100000 in
theorem wX2_anyToll : ∀ w ∈ zwds RX2 mX2_anyToll eX2_anyToll rX2_anyToll, w ∈ gT := zwd_of [105, 265, 38, 266, 112] (by decide +kernel) (by decide +kernel) (z7_no (by decide +kernel))
set_option maxRecDepth 100000 in
theorem xX2_anyToll : ∀ w ∈ zwxs RX2 mX2_anyToll eX2_anyToll rX2_anyToll, zspc w = true ∧ w ∈ lw_tbl := by decide +kernel
theorem tX2_anyToll {sc : Nat × (Nat → Int32)} {l : Launch} (hlt : l.stackTraces = false) : MetA sc l mX2_anyToll (sX2_anyToll) := zmet (M := mX2_anyToll) (own := RX2) (envM := eX2_anyToll) hlt rfl (by decide +kernel) (by decide +kernel) rfl (fun j q hq => by
  match j, hq with
  | 0, hq => cases hq; exact tX5_has hlt
  | n + 1, hq => cases hq) aX2_anyToll wX2_anyToll xX2_anyToll rfl
def mJ7_fill_53178 : zm_M := (yJ7_fill_53178, cJ7_fill_53178, 4, none, (0, 0, 0, 0), 2, [], (0, 0))
set_option maxRecDepth 100000 in
def rJ7_fill_53178 : List zm_R := [(0, .iconst 0, 0, [], 0, 0, (0, 0), false, []),
  (1, .istore_n 2, 0, [], 0, 0, (0, 0), false, []),
  (2, .aload_n 0, 0, [], 0, 0, (0, 0), false, []),
  (3, .arraylength, 3, [0], 0, 0, (0, 0), false, []),
  (4, .istore_n 3, 0, [], 0, 0, (0, 0), false, []),
  (5, .iload_n 2, 0, [], 0, 0, (0, 0), true, []),
  (6, .iload_n 3, 0, [], 0, 0, (0, 0), false, []),
  (7, .if_icmp .ge 13, 1, [14], 0, 0, (0, 0), false, []),
  (10, .aload_n 0, 0, [], 0, 0, (0, 0), false, []),
  (11, .iload_n 2, 0, [], 0, 0, (0, 0), false, []),
  (12, .iload_n 1, 0, [], 0, 0, (0, 0), false, []),
  (13, .iastore, 3, [0], 0, 0, (0, 0), false, []),
  (14, .iinc 2 1, 0, [], 1, 0, (0, 0), false, []),
  (17, .goto (-12), 1, [5], 0, 0, (0, 0), false, []),
  (20, .return_, 5, [], 0, 0, (0, 0), false, [])]
def eJ7_fill_53178 : List zm_M := []
noncomputable def vJ7_fill_53178 : List (zm_M × zm_S) := []
noncomputable def sJ7_fill_53178 : zm_S := zsem vJ7_fill_53178 rJ7_fill_53178 4
set_option maxRecDepth 100000 in
theorem aJ7_fill_53178 : zall RJ7 mJ7_fill_53178 eJ7_fill_53178 rJ7_fill_53178 = true := by decide +kernel
set_option maxRecDepth 100000 in
theorem wJ7_fill_53178 : ∀ w ∈ zwds RJ7 mJ7_fill_53178 eJ7_fill_53178 rJ7_fill_53178, w ∈ gT := zwd_of [] (by decide +kernel) (by decide +kernel) (z7_no (by decide +kernel))
set_option maxRecDepth 100000 in
theorem xJ7_fill_53178 : ∀ w ∈ zwxs RJ7 mJ7_fill_53178 eJ7_fill_53178 rJ7_fill_53178, zspc w = true ∧ w ∈ lw_tbl := by decide +kernel
theorem tJ7_fill_53178 {sc : Nat × (Nat → Int32)} {l : Launch} (hlt : l.stackTraces = false) : MetA sc l mJ7_fill_53178 (sJ7_fill_53178) := zmet (M := mJ7_fill_53178) (own := RJ7) (envM := eJ7_fill_53178) hlt rfl (by decide +kernel) (by decide +kernel) rfl (fun j q hq => by cases hq) aJ7_fill_53178 wJ7_fill_53178 xJ7_fill_53178 rfl
def mX2_leads : zm_M := (yX2_leads, cX2_leads, 5, (some (.array .int)), (2, 0, 0, 44), 1, [], (0, 0))
set_option maxRecDepth 100000 in
def rX2_leads : List zm_R := [(0, .aload_n 0, 0, [], 0, 0, (0, 0), false, []),
  (1, .iload_n 1, 0, [], 0, 0, (0, 0), false, []),
  (2, .invokevirtual 78, 6, [0, 0, 2, 1, 0, 2], 0, 0, (0, 0), false, []),
  (5, .istore_n 2, 0, [], 0, 0, (0, 0), false, []),
  (6, .aload_n 0, 0, [], 0, 0, (0, 0), false, []),
  (7, .iload_n 1, 0, [], 0, 0, (0, 0), false, []),
  (8, .invokevirtual 82, 6, [0, 1, 2, 1, 0, 2], 0, 0, (0, 0), false, []),
  (11, .istore_n 3, 0, [], 0, 0, (0, 0), false, []),
  (12, .aload_n 0, 0, [], 0, 0, (0, 0), false, []),
  (13, .getfield 57, 2, [2, 14, 15, 2], 0, 0, (0, 0), false, []),
  (16, .iconst 0, 0, [], 0, 0, (0, 0), false, []),
  (17, .invokestatic 89, 6, [1, 2, 2, 0, 0, 0], 0, 0, (0, 0), false, []),
  (20, .iconst 0, 0, [], 0, 0, (0, 0), false, []),
  (21, .istore 4, 0, [], 0, 0, (0, 0), false, []),
  (23, .iload 4, 0, [], 0, 0, (0, 0), true, [1]),
  (25, .aload_n 0, 0, [], 0, 0, (0, 0), false, []),
  (26, .getfield 26, 2, [2, 4, 15, 0], 0, 0, (0, 0), false, []),
  (29, .if_icmp .ge 81, 1, [64], 0, 0, (0, 0), false, []),
  (32, .aload_n 0, 0, [], 0, 0, (0, 0), false, []),
  (33, .iload 4, 0, [], 0, 0, (0, 0), false, []),
  (35, .iload_n 2, 0, [], 0, 0, (0, 0), false, []),
  (36, .iload_n 3, 0, [], 0, 0, (0, 0), false, []),
  (37, .invokevirtual 85, 6, [0, 3, 4, 1, 0, 2], 0, 0, (0, 0), false, []),
  (40, .ifCond .ne 6, 1, [25], 0, 0, (0, 0), false, []),
  (43, .goto 61, 1, [62], 0, 0, (0, 0), false, []),
  (46, .aload_n 0, 0, [], 0, 0, (0, 0), false, []),
  (47, .getfield 57, 2, [2, 14, 15, 2], 0, 0, (0, 0), false, []),
  (50, .aload_n 0, 0, [], 0, 0, (0, 0), false, []),
  (51, .getfield 29, 2, [2, 5, 15, 2], 0, 0, (0, 0), false, []),
  (54, .iload 4, 0, [], 0, 0, (0, 0), false, []),
  (56, .iaload, 3, [0], 0, 0, (0, 0), false, []),
  (57, .dup2, 0, [], 0, 0, (0, 0), false, []),
  (58, .iaload, 3, [0], 0, 0, (0, 0), false, []),
  (59, .iconst 1, 0, [], 1, 0, (0, 0), false, []),
  (60, .aload_n 0, 0, [], 0, 0, (0, 0), false, []),
  (61, .getfield 32, 2, [2, 6, 15, 2], 0, 0, (0, 0), false, []),
  (64, .iload 4, 0, [], 0, 0, (0, 0), false, []),
  (66, .iaload, 3, [0], 0, 0, (0, 0), false, []),
  (67, .ishl, 0, [], 0, 0, (0, 0), false, []),
  (68, .ior, 0, [], 0, 0, (0, 0), false, []),
  (69, .iastore, 3, [0], 0, 0, (0, 0), false, []),
  (70, .aload_n 0, 0, [], 0, 0, (0, 0), false, []),
  (71, .getfield 41, 2, [2, 9, 15, 2], 0, 0, (0, 0), false, []),
  (74, .iload 4, 0, [], 0, 0, (0, 0), false, []),
  (76, .baload, 3, [3], 0, 0, (0, 0), false, []),
  (77, .ifCond .ne 27, 1, [62], 0, 0, (0, 0), false, []),
  (80, .aload_n 0, 0, [], 0, 0, (0, 0), false, []),
  (81, .getfield 57, 2, [2, 14, 15, 2], 0, 0, (0, 0), false, []),
  (84, .aload_n 0, 0, [], 0, 0, (0, 0), false, []),
  (85, .getfield 32, 2, [2, 6, 15, 2], 0, 0, (0, 0), false, []),
  (88, .iload 4, 0, [], 0, 0, (0, 0), false, []),
  (90, .iaload, 3, [0], 0, 0, (0, 0), false, []),
  (91, .dup2, 0, [], 0, 0, (0, 0), false, []),
  (92, .iaload, 3, [0], 0, 0, (0, 0), false, []),
  (93, .iconst 1, 0, [], 1, 0, (0, 0), false, []),
  (94, .aload_n 0, 0, [], 0, 0, (0, 0), false, []),
  (95, .getfield 29, 2, [2, 5, 15, 2], 0, 0, (0, 0), false, []),
  (98, .iload 4, 0, [], 0, 0, (0, 0), false, []),
  (100, .iaload, 3, [0], 0, 0, (0, 0), false, []),
  (101, .ishl, 0, [], 0, 0, (0, 0), false, []),
  (102, .ior, 0, [], 0, 0, (0, 0), false, []),
  (103, .iastore, 3, [0], 0, 0, (0, 0), false, []),
  (104, .iinc 4 1, 0, [], 1, 0, (0, 0), false, []),
  (107, .goto (-84), 1, [14], 0, 0, (0, 0), false, []),
  (110, .aload_n 0, 0, [], 0, 0, (0, 0), false, []),
  (111, .getfield 57, 2, [2, 14, 15, 2], 0, 0, (0, 0), false, []),
  (114, .areturn, 5, [], 0, 0, (0, 0), false, [])]
def eX2_leads : List zm_M := [mX2_keysIn, mX2_coinsIn, mJ7_fill_53178, mX2_opens]
noncomputable def vX2_leads : List (zm_M × zm_S) := [(mX2_keysIn, sX2_keysIn), (mX2_coinsIn, sX2_coinsIn), (mJ7_fill_53178, sJ7_fill_53178), (mX2_opens, sX2_opens)]
noncomputable def sX2_leads : zm_S := zsem vX2_leads rX2_leads 5
set_option maxRecDepth 100000 in
theorem aX2_leads : zall RX2 mX2_leads eX2_leads rX2_leads = true := by decide +kernel
set_option maxRecDepth 100000 in
theorem wX2_leads : ∀ w ∈ zwds RX2 mX2_leads eX2_leads rX2_leads, w ∈ gT := zwd_of [371, 261, 262, 40, 263, 372, 268, 269, 40, 270, 128, 373, 353, 49, 354, 105, 374, 376, 7, 40, 377, 128, 108, 110, 116, 128, 110, 108, 128] (by decide +kernel) (by decide +kernel) (z7_no (by decide +kernel))
set_option maxRecDepth 100000 in
theorem xX2_leads : ∀ w ∈ zwxs RX2 mX2_leads eX2_leads rX2_leads, zspc w = true ∧ w ∈ lw_tbl := by decide +kernel
theorem tX2_leads {sc : Nat × (Nat → Int32)} {l : Launch} (hlt : l.stackTraces = false) : MetA sc l mX2_leads (sX2_leads) := zmet (M := mX2_leads) (own := RX2) (envM := eX2_leads) hlt rfl (by decide +kernel) (by decide +kernel) rfl (fun j q hq => by
  match j, hq with
  | 0, hq => cases hq; exact tX2_keysIn hlt
  | 1, hq => cases hq; exact tX2_coinsIn hlt
  | 2, hq => cases hq; exact tJ7_fill_53178 hlt
  | 3, hq => cases hq; exact tX2_opens hlt
  | n + 4, hq => cases hq) aX2_leads wX2_leads xX2_leads rfl
def mX2_mayEnd : zm_M := (yX2_mayEnd, cX2_mayEnd, 2, (some .boolean), (0, 0, 0, 0), 1, [], (0, 0))
set_option maxRecDepth 100000 in
def rX2_mayEnd : List zm_R := [(0, .aload_n 0, 0, [], 0, 0, (0, 0), false, []),
  (1, .getfield 48, 2, [2, 11, 15, 0], 0, 0, (0, 0), false, []),
  (4, .iconst (-1), 0, [], (-1), 0, (0, 0), false, []),
  (5, .if_icmp .eq 11, 1, [8], 0, 0, (0, 0), false, []),
  (8, .aload_n 0, 0, [], 0, 0, (0, 0), false, []),
  (9, .getfield 48, 2, [2, 11, 15, 0], 0, 0, (0, 0), false, []),
  (12, .iload_n 1, 0, [], 0, 0, (0, 0), false, []),
  (13, .if_icmp .ne 7, 1, [10], 0, 0, (0, 0), false, []),
  (16, .iconst 1, 0, [], 1, 0, (0, 0), false, []),
  (17, .goto 4, 1, [11], 0, 0, (0, 0), false, []),
  (20, .iconst 0, 0, [], 0, 0, (0, 0), false, []),
  (21, .ireturn, 5, [1], 0, 0, (0, 0), false, [])]
def eX2_mayEnd : List zm_M := []
noncomputable def vX2_mayEnd : List (zm_M × zm_S) := []
noncomputable def sX2_mayEnd : zm_S := zsem vX2_mayEnd rX2_mayEnd 2
set_option maxRecDepth 100000 in
theorem aX2_mayEnd : zall RX2 mX2_mayEnd eX2_mayEnd rX2_mayEnd = true := by decide +kernel
set_option maxRecDepth 100000 in
theorem wX2_mayEnd : ∀ w ∈ zwds RX2 mX2_mayEnd eX2_mayEnd rX2_mayEnd, w ∈ gT := zwd_of [121, 121] (by decide +kernel) (by decide +kernel) (z7_no (by decide +kernel))
set_option maxRecDepth 100000 in
theorem xX2_mayEnd : ∀ w ∈ zwxs RX2 mX2_mayEnd eX2_mayEnd rX2_mayEnd, zspc w = true ∧ w ∈ lw_tbl := by decide +kernel
theorem tX2_mayEnd {sc : Nat × (Nat → Int32)} {l : Launch} (hlt : l.stackTraces = false) : MetA sc l mX2_mayEnd (sX2_mayEnd) := zmet (M := mX2_mayEnd) (own := RX2) (envM := eX2_mayEnd) hlt rfl (by decide +kernel) (by decide +kernel) rfl (fun j q hq => by cases hq) aX2_mayEnd wX2_mayEnd xX2_mayEnd rfl
def mX2_walkSet : zm_M := (yX2_walkSet, cX2_walkSet, 3, (some .int), (0, 0, 0, 0), 0, [], (0, 0))
set_option maxRecDepth 100000 in
def rX2_walkSet : List zm_R := [(0, .iconst 0, 0, [], 0, 0, (0, 0), false, []),
  (1, .istore_n 1, 0, [], 0, 0, (0, 0), false, []),
  (2, .iconst 0, 0, [], 0, 0, (0, 0), false, []),
  (3, .istore_n 2, 0, [], 0, 0, (0, 0), false, []),
  (4, .iload_n 2, 0, [], 0, 0, (0, 0), true, []),
  (5, .aload_n 0, 0, [], 0, 0, (0, 0), false, []),
  (6, .getfield 54, 2, [2, 13, 15, 0], 0, 0, (0, 0), false, []),
  (9, .if_icmp .ge 20, 1, [19], 0, 0, (0, 0), false, []),
  (12, .iload_n 1, 0, [], 0, 0, (0, 0), false, []),
  (13, .iconst 1, 0, [], 1, 0, (0, 0), false, []),
  (14, .aload_n 0, 0, [], 0, 0, (0, 0), false, []),
  (15, .getfield 51, 2, [2, 12, 15, 2], 0, 0, (0, 0), false, []),
  (18, .iload_n 2, 0, [], 0, 0, (0, 0), false, []),
  (19, .iaload, 3, [0], 0, 0, (0, 0), false, []),
  (20, .ishl, 0, [], 0, 0, (0, 0), false, []),
  (21, .ior, 0, [], 0, 0, (0, 0), false, []),
  (22, .istore_n 1, 0, [], 0, 0, (0, 0), false, []),
  (23, .iinc 2 1, 0, [], 1, 0, (0, 0), false, []),
  (26, .goto (-22), 1, [4], 0, 0, (0, 0), false, []),
  (29, .iload_n 1, 0, [], 0, 0, (0, 0), false, []),
  (30, .ireturn, 5, [0], 0, 0, (0, 0), false, [])]
def eX2_walkSet : List zm_M := []
noncomputable def vX2_walkSet : List (zm_M × zm_S) := []
noncomputable def sX2_walkSet : zm_S := zsem vX2_walkSet rX2_walkSet 3
set_option maxRecDepth 100000 in
theorem aX2_walkSet : zall RX2 mX2_walkSet eX2_walkSet rX2_walkSet = true := by decide +kernel
set_option maxRecDepth 100000 in
theorem wX2_walkSet : ∀ w ∈ zwds RX2 mX2_walkSet eX2_walkSet rX2_walkSet, w ∈ gT := zwd_of [126, 124] (by decide +kernel) (by decide +kernel) (z7_no (by decide +kernel))
set_option maxRecDepth 100000 in
theorem xX2_walkSet : ∀ w ∈ zwxs RX2 mX2_walkSet eX2_walkSet rX2_walkSet, zspc w = true ∧ w ∈ lw_tbl := by decide +kernel
theorem tX2_walkSet {sc : Nat × (Nat → Int32)} {l : Launch} (hlt : l.stackTraces = false) : MetA sc l mX2_walkSet (sX2_walkSet) := zmet (M := mX2_walkSet) (own := RX2) (envM := eX2_walkSet) hlt rfl (by decide +kernel) (by decide +kernel) rfl (fun j q hq => by cases hq) aX2_walkSet wX2_walkSet xX2_walkSet rfl
def mX2_lastRoom : zm_M := (yX2_lastRoom, cX2_lastRoom, 1, (some .int), (0, 0, 0, 0), 0, [], (0, 0))
set_option maxRecDepth 100000 in
def rX2_lastRoom : List zm_R := [(0, .aload_n 0, 0, [], 0, 0, (0, 0), false, []),
  (1, .getfield 51, 2, [2, 12, 15, 2], 0, 0, (0, 0), false, []),
  (4, .aload_n 0, 0, [], 0, 0, (0, 0), false, []),
  (5, .getfield 54, 2, [2, 13, 15, 0], 0, 0, (0, 0), false, []),
  (8, .iconst 1, 0, [], 1, 0, (0, 0), false, []),
  (9, .isub, 0, [], 0, 0, (0, 0), false, []),
  (10, .iaload, 3, [0], 0, 0, (0, 0), false, []),
  (11, .ireturn, 5, [0], 0, 0, (0, 0), false, [])]
def eX2_lastRoom : List zm_M := []
noncomputable def vX2_lastRoom : List (zm_M × zm_S) := []
noncomputable def sX2_lastRoom : zm_S := zsem vX2_lastRoom rX2_lastRoom 1
set_option maxRecDepth 100000 in
theorem aX2_lastRoom : zall RX2 mX2_lastRoom eX2_lastRoom rX2_lastRoom = true := by decide +kernel
set_option maxRecDepth 100000 in
theorem wX2_lastRoom : ∀ w ∈ zwds RX2 mX2_lastRoom eX2_lastRoom rX2_lastRoom, w ∈ gT := zwd_of [124, 126] (by decide +kernel) (by decide +kernel) (z7_no (by decide +kernel))
set_option maxRecDepth 100000 in
theorem xX2_lastRoom : ∀ w ∈ zwxs RX2 mX2_lastRoom eX2_lastRoom rX2_lastRoom, zspc w = true ∧ w ∈ lw_tbl := by decide +kernel
theorem tX2_lastRoom {sc : Nat × (Nat → Int32)} {l : Launch} (hlt : l.stackTraces = false) : MetA sc l mX2_lastRoom (sX2_lastRoom) := zmet (M := mX2_lastRoom) (own := RX2) (envM := eX2_lastRoom) hlt rfl (by decide +kernel) (by decide +kernel) rfl (fun j q hq => by cases hq) aX2_lastRoom wX2_lastRoom xX2_lastRoom rfl
def mX2_placeOf : zm_M := (yX2_placeOf, cX2_placeOf, 3, (some .int), (0, 0, 0, 0), 1, [], (0, 0))
set_option maxRecDepth 100000 in
def rX2_placeOf : List zm_R := [(0, .iconst 0, 0, [], 0, 0, (0, 0), false, []),
  (1, .istore_n 2, 0, [], 0, 0, (0, 0), false, []),
  (2, .iload_n 2, 0, [], 0, 0, (0, 0), true, []),
  (3, .aload_n 0, 0, [], 0, 0, (0, 0), false, []),
  (4, .getfield 54, 2, [2, 13, 15, 0], 0, 0, (0, 0), false, []),
  (7, .if_icmp .ge 21, 1, [16], 0, 0, (0, 0), false, []),
  (10, .aload_n 0, 0, [], 0, 0, (0, 0), false, []),
  (11, .getfield 51, 2, [2, 12, 15, 2], 0, 0, (0, 0), false, []),
  (14, .iload_n 2, 0, [], 0, 0, (0, 0), false, []),
  (15, .iaload, 3, [0], 0, 0, (0, 0), false, []),
  (16, .iload_n 1, 0, [], 0, 0, (0, 0), false, []),
  (17, .if_icmp .ne 5, 1, [14], 0, 0, (0, 0), false, []),
  (20, .iload_n 2, 0, [], 0, 0, (0, 0), false, []),
  (21, .ireturn, 5, [0], 0, 0, (0, 0), false, []),
  (22, .iinc 2 1, 0, [], 1, 0, (0, 0), false, []),
  (25, .goto (-23), 1, [2], 0, 0, (0, 0), false, []),
  (28, .iconst (-1), 0, [], (-1), 0, (0, 0), false, []),
  (29, .ireturn, 5, [0], 0, 0, (0, 0), false, [])]
def eX2_placeOf : List zm_M := []
noncomputable def vX2_placeOf : List (zm_M × zm_S) := []
noncomputable def sX2_placeOf : zm_S := zsem vX2_placeOf rX2_placeOf 3
set_option maxRecDepth 100000 in
theorem aX2_placeOf : zall RX2 mX2_placeOf eX2_placeOf rX2_placeOf = true := by decide +kernel
set_option maxRecDepth 100000 in
theorem wX2_placeOf : ∀ w ∈ zwds RX2 mX2_placeOf eX2_placeOf rX2_placeOf, w ∈ gT := zwd_of [126, 124] (by decide +kernel) (by decide +kernel) (z7_no (by decide +kernel))
set_option maxRecDepth 100000 in
theorem xX2_placeOf : ∀ w ∈ zwxs RX2 mX2_placeOf eX2_placeOf rX2_placeOf, zspc w = true ∧ w ∈ lw_tbl := by decide +kernel
theorem tX2_placeOf {sc : Nat × (Nat → Int32)} {l : Launch} (hlt : l.stackTraces = false) : MetA sc l mX2_placeOf (sX2_placeOf) := zmet (M := mX2_placeOf) (own := RX2) (envM := eX2_placeOf) hlt rfl (by decide +kernel) (by decide +kernel) rfl (fun j q hq => by cases hq) aX2_placeOf wX2_placeOf xX2_placeOf rfl
def mX2_enter : zm_M := (yX2_enter, cX2_enter, 2, none, (0, 0, 0, 0), 1, [], (0, 0))
set_option maxRecDepth 100000 in
def rX2_enter : List zm_R := [(0, .aload_n 0, 0, [], 0, 0, (0, 0), false, []),
  (1, .getfield 54, 2, [2, 13, 15, 0], 0, 0, (0, 0), false, []),
  (4, .bipush 11, 0, [], 11, 0, (0, 0), false, []),
  (6, .if_icmp .ge 20, 1, [15], 0, 0, (0, 0), false, []),
  (9, .aload_n 0, 0, [], 0, 0, (0, 0), false, []),
  (10, .getfield 51, 2, [2, 12, 15, 2], 0, 0, (0, 0), false, []),
  (13, .aload_n 0, 0, [], 0, 0, (0, 0), false, []),
  (14, .dup, 0, [], 0, 0, (0, 0), false, []),
  (15, .getfield 54, 2, [2, 13, 15, 0], 0, 0, (0, 0), false, []),
  (18, .dup_x1, 0, [], 0, 0, (0, 0), false, []),
  (19, .iconst 1, 0, [], 1, 0, (0, 0), false, []),
  (20, .iadd, 0, [], 0, 0, (0, 0), false, []),
  (21, .putfield 54, 2, [2, 13, 15, 0], 0, 0, (0, 0), false, []),
  (24, .iload_n 1, 0, [], 0, 0, (0, 0), false, []),
  (25, .iastore, 3, [0], 0, 0, (0, 0), false, []),
  (26, .return_, 5, [], 0, 0, (0, 0), false, [])]
def eX2_enter : List zm_M := []
noncomputable def vX2_enter : List (zm_M × zm_S) := []
noncomputable def sX2_enter : zm_S := zsem vX2_enter rX2_enter 2
set_option maxRecDepth 100000 in
theorem aX2_enter : zall RX2 mX2_enter eX2_enter rX2_enter = true := by decide +kernel
set_option maxRecDepth 100000 in
theorem wX2_enter : ∀ w ∈ zwds RX2 mX2_enter eX2_enter rX2_enter, w ∈ gT := zwd_of [126, 124, 126, 126] (by decide +kernel) (by decide +kernel) (z7_no (by decide +kernel))
set_option maxRecDepth 100000 in
theorem xX2_enter : ∀ w ∈ zwxs RX2 mX2_enter eX2_enter rX2_enter, zspc w = true ∧ w ∈ lw_tbl := by decide +kernel
theorem tX2_enter {sc : Nat × (Nat → Int32)} {l : Launch} (hlt : l.stackTraces = false) : MetA sc l mX2_enter (sX2_enter) := zmet (M := mX2_enter) (own := RX2) (envM := eX2_enter) hlt rfl (by decide +kernel) (by decide +kernel) rfl (fun j q hq => by cases hq) aX2_enter wX2_enter xX2_enter rfl
def mX2_cutWalk : zm_M := (yX2_cutWalk, cX2_cutWalk, 3, none, (3, 0, 0, 68), 0, [], (0, 0))
set_option maxRecDepth 100000 in
def rX2_cutWalk : List zm_R := [(0, .iconst 1, 0, [], 1, 0, (0, 0), false, []),
  (1, .aload_n 0, 0, [], 0, 0, (0, 0), false, []),
  (2, .getfield 51, 2, [2, 12, 15, 2], 0, 0, (0, 0), false, []),
  (5, .iconst 0, 0, [], 0, 0, (0, 0), false, []),
  (6, .iaload, 3, [0], 0, 0, (0, 0), false, []),
  (7, .ishl, 0, [], 0, 0, (0, 0), false, []),
  (8, .istore_n 1, 0, [], 0, 0, (0, 0), false, []),
  (9, .iconst 1, 0, [], 1, 0, (0, 0), false, []),
  (10, .istore_n 2, 0, [], 0, 0, (0, 0), false, []),
  (11, .iload_n 2, 0, [], 0, 0, (0, 0), true, []),
  (12, .aload_n 0, 0, [], 0, 0, (0, 0), false, []),
  (13, .getfield 54, 2, [2, 13, 15, 0], 0, 0, (0, 0), false, []),
  (16, .if_icmp .ge 54, 1, [44], 0, 0, (0, 0), false, []),
  (19, .aload_n 0, 0, [], 0, 0, (0, 0), false, []),
  (20, .iload_n 1, 0, [], 0, 0, (0, 0), false, []),
  (21, .invokevirtual 95, 6, [0, 0, 2, 3, 0, 2], 0, 0, (0, 0), false, []),
  (24, .aload_n 0, 0, [], 0, 0, (0, 0), false, []),
  (25, .getfield 51, 2, [2, 12, 15, 2], 0, 0, (0, 0), false, []),
  (28, .iload_n 2, 0, [], 0, 0, (0, 0), false, []),
  (29, .iconst 1, 0, [], 1, 0, (0, 0), false, []),
  (30, .isub, 0, [], 0, 0, (0, 0), false, []),
  (31, .iaload, 3, [0], 0, 0, (0, 0), false, []),
  (32, .iaload, 3, [0], 0, 0, (0, 0), false, []),
  (33, .aload_n 0, 0, [], 0, 0, (0, 0), false, []),
  (34, .getfield 51, 2, [2, 12, 15, 2], 0, 0, (0, 0), false, []),
  (37, .iload_n 2, 0, [], 0, 0, (0, 0), false, []),
  (38, .iaload, 3, [0], 0, 0, (0, 0), false, []),
  (39, .invokestatic 74, 6, [3, 1, 2, 1, 0, 5], 0, 0, (0, 0), false, []),
  (42, .ifCond .eq 17, 1, [39], 0, 0, (0, 0), false, []),
  (45, .iload_n 1, 0, [], 0, 0, (0, 0), false, []),
  (46, .iconst 1, 0, [], 1, 0, (0, 0), false, []),
  (47, .aload_n 0, 0, [], 0, 0, (0, 0), false, []),
  (48, .getfield 51, 2, [2, 12, 15, 2], 0, 0, (0, 0), false, []),
  (51, .iload_n 2, 0, [], 0, 0, (0, 0), false, []),
  (52, .iaload, 3, [0], 0, 0, (0, 0), false, []),
  (53, .ishl, 0, [], 0, 0, (0, 0), false, []),
  (54, .ior, 0, [], 0, 0, (0, 0), false, []),
  (55, .istore_n 1, 0, [], 0, 0, (0, 0), false, []),
  (56, .goto 8, 1, [42], 0, 0, (0, 0), false, []),
  (59, .aload_n 0, 0, [], 0, 0, (0, 0), false, []),
  (60, .iload_n 2, 0, [], 0, 0, (0, 0), false, []),
  (61, .putfield 54, 2, [2, 13, 15, 0], 0, 0, (0, 0), false, []),
  (64, .iinc 2 1, 0, [], 1, 0, (0, 0), false, []),
  (67, .goto (-56), 1, [9], 0, 0, (0, 0), false, []),
  (70, .return_, 5, [], 0, 0, (0, 0), false, [])]
def eX2_cutWalk : List zm_M := [mX2_leads, mX5_has]
noncomputable def vX2_cutWalk : List (zm_M × zm_S) := [(mX2_leads, sX2_leads), (mX5_has, sX5_has)]
noncomputable def sX2_cutWalk : zm_S := zsem vX2_cutWalk rX2_cutWalk 3
set_option maxRecDepth 100000 in
theorem aX2_cutWalk : zall RX2 mX2_cutWalk eX2_cutWalk rX2_cutWalk = true := by decide +kernel
set_option maxRecDepth 100000 in
theorem wX2_cutWalk : ∀ w ∈ zwds RX2 mX2_cutWalk eX2_cutWalk rX2_cutWalk, w ∈ gT := zwd_of [124, 126, 1051, 368, 369, 40, 370, 124, 124, 265, 38, 266, 124, 126] (by decide +kernel) (by decide +kernel) (z7_no (by decide +kernel))
set_option maxRecDepth 100000 in
theorem xX2_cutWalk : ∀ w ∈ zwxs RX2 mX2_cutWalk eX2_cutWalk rX2_cutWalk, zspc w = true ∧ w ∈ lw_tbl := by decide +kernel
theorem tX2_cutWalk {sc : Nat × (Nat → Int32)} {l : Launch} (hlt : l.stackTraces = false) : MetA sc l mX2_cutWalk (sX2_cutWalk) := zmet (M := mX2_cutWalk) (own := RX2) (envM := eX2_cutWalk) hlt rfl (by decide +kernel) (by decide +kernel) rfl (fun j q hq => by
  match j, hq with
  | 0, hq => cases hq; exact tX2_leads hlt
  | 1, hq => cases hq; exact tX5_has hlt
  | n + 2, hq => cases hq) aX2_cutWalk wX2_cutWalk xX2_cutWalk rfl
def mX5_greatestNumber : zm_M := (yX5_greatestNumber, cX5_greatestNumber, 1, (some .int), (0, 0, 0, 0), 1, [], (0, 0))
set_option maxRecDepth 100000 in
def rX5_greatestNumber : List zm_R := [(0, .iload_n 0, 0, [], 0, 0, (0, 0), false, []),
  (1, .iconst 1, 0, [], 1, 0, (0, 0), false, []),
  (2, .if_icmp .ne 6, 1, [5], 0, 0, (0, 0), false, []),
  (5, .bipush 7, 0, [], 7, 0, (0, 0), false, []),
  (7, .ireturn, 5, [0], 0, 0, (0, 0), false, []),
  (8, .iload_n 0, 0, [], 0, 0, (0, 0), false, []),
  (9, .iconst 2, 0, [], 2, 0, (0, 0), false, []),
  (10, .if_icmp .ne 9, 1, [10], 0, 0, (0, 0), false, []),
  (13, .sipush 999, 0, [], 999, 0, (0, 0), false, []),
  (16, .goto 4, 1, [11], 0, 0, (0, 0), false, []),
  (19, .iconst 0, 0, [], 0, 0, (0, 0), false, []),
  (20, .ireturn, 5, [0], 0, 0, (0, 0), false, [])]
def eX5_greatestNumber : List zm_M := []
noncomputable def vX5_greatestNumber : List (zm_M × zm_S) := []
noncomputable def sX5_greatestNumber : zm_S := zsem vX5_greatestNumber rX5_greatestNumber 1
set_option maxRecDepth 100000 in
theorem aX5_greatestNumber : zall RX5 mX5_greatestNumber eX5_greatestNumber rX5_greatestNumber = true := by decide +kernel
set_option maxRecDepth 100000 in
theorem wX5_greatestNumber : ∀ w ∈ zwds RX5 mX5_greatestNumber eX5_greatestNumber rX5_greatestNumber, w ∈ gT := zwd_of [] (by decide +kernel) (by decide +kernel) (z7_no (by decide +kernel))
set_option maxRecDepth 100000 in
theorem xX5_greatestNumber : ∀ w ∈ zwxs RX5 mX5_greatestNumber eX5_greatestNumber rX5_greatestNumber, zspc w = true ∧ w ∈ lw_tbl := by decide +kernel
theorem tX5_greatestNumber {sc : Nat × (Nat → Int32)} {l : Launch} (hlt : l.stackTraces = false) : MetA sc l mX5_greatestNumber (sX5_greatestNumber) := zmet (M := mX5_greatestNumber) (own := RX5) (envM := eX5_greatestNumber) hlt rfl (by decide +kernel) (by decide +kernel) rfl (fun j q hq => by cases hq) aX5_greatestNumber wX5_greatestNumber xX5_greatestNumber rfl
def mJ6_bitCount_0f7a4 : zm_M := (yJ6_bitCount_0f7a4, cJ6_bitCount_0f7a4, 1, (some .int), (0, 0, 0, 0), 1, [], (0, 0))
set_option maxRecDepth 100000 in
def rJ6_bitCount_0f7a4 : List zm_R := [(0, .iload_n 0, 0, [], 0, 0, (0, 0), false, []),
  (1, .iload_n 0, 0, [], 0, 0, (0, 0), false, []),
  (2, .iconst 1, 0, [], 1, 0, (0, 0), false, []),
  (3, .iushr, 0, [], 0, 0, (0, 0), false, []),
  (4, .ldc_w 265, 9, [0], 1431655765, 0, (0, 0), false, []),
  (7, .iand, 0, [], 0, 0, (0, 0), false, []),
  (8, .isub, 0, [], 0, 0, (0, 0), false, []),
  (9, .istore_n 0, 0, [], 0, 0, (0, 0), false, []),
  (10, .iload_n 0, 0, [], 0, 0, (0, 0), false, []),
  (11, .ldc_w 266, 9, [0], 858993459, 0, (0, 0), false, []),
  (14, .iand, 0, [], 0, 0, (0, 0), false, []),
  (15, .iload_n 0, 0, [], 0, 0, (0, 0), false, []),
  (16, .iconst 2, 0, [], 2, 0, (0, 0), false, []),
  (17, .iushr, 0, [], 0, 0, (0, 0), false, []),
  (18, .ldc_w 266, 9, [0], 858993459, 0, (0, 0), false, []),
  (21, .iand, 0, [], 0, 0, (0, 0), false, []),
  (22, .iadd, 0, [], 0, 0, (0, 0), false, []),
  (23, .istore_n 0, 0, [], 0, 0, (0, 0), false, []),
  (24, .iload_n 0, 0, [], 0, 0, (0, 0), false, []),
  (25, .iload_n 0, 0, [], 0, 0, (0, 0), false, []),
  (26, .iconst 4, 0, [], 4, 0, (0, 0), false, []),
  (27, .iushr, 0, [], 0, 0, (0, 0), false, []),
  (28, .iadd, 0, [], 0, 0, (0, 0), false, []),
  (29, .ldc_w 267, 9, [0], 252645135, 0, (0, 0), false, []),
  (32, .iand, 0, [], 0, 0, (0, 0), false, []),
  (33, .istore_n 0, 0, [], 0, 0, (0, 0), false, []),
  (34, .iload_n 0, 0, [], 0, 0, (0, 0), false, []),
  (35, .iload_n 0, 0, [], 0, 0, (0, 0), false, []),
  (36, .bipush 8, 0, [], 8, 0, (0, 0), false, []),
  (38, .iushr, 0, [], 0, 0, (0, 0), false, []),
  (39, .iadd, 0, [], 0, 0, (0, 0), false, []),
  (40, .istore_n 0, 0, [], 0, 0, (0, 0), false, []),
  (41, .iload_n 0, 0, [], 0, 0, (0, 0), false, []),
  (42, .iload_n 0, 0, [], 0, 0, (0, 0), false, []),
  (43, .bipush 16, 0, [], 16, 0, (0, 0), false, []),
  (45, .iushr, 0, [], 0, 0, (0, 0), false, []),
  (46, .iadd, 0, [], 0, 0, (0, 0), false, []),
  (47, .istore_n 0, 0, [], 0, 0, (0, 0), false, []),
  (48, .iload_n 0, 0, [], 0, 0, (0, 0), false, []),
  (49, .bipush 63, 0, [], 63, 0, (0, 0), false, []),
  (51, .iand, 0, [], 0, 0, (0, 0), false, []),
  (52, .ireturn, 5, [0], 0, 0, (0, 0), false, [])]
def eJ6_bitCount_0f7a4 : List zm_M := []
noncomputable def vJ6_bitCount_0f7a4 : List (zm_M × zm_S) := []
noncomputable def sJ6_bitCount_0f7a4 : zm_S := zsem vJ6_bitCount_0f7a4 rJ6_bitCount_0f7a4 1
set_option maxRecDepth 100000 in
theorem aJ6_bitCount_0f7a4 : zall RJ6 mJ6_bitCount_0f7a4 eJ6_bitCount_0f7a4 rJ6_bitCount_0f7a4 = true := by decide +kernel
set_option maxRecDepth 100000 in
theorem wJ6_bitCount_0f7a4 : ∀ w ∈ zwds RJ6 mJ6_bitCount_0f7a4 eJ6_bitCount_0f7a4 rJ6_bitCount_0f7a4, w ∈ gT := zwd_of [1209, 1210, 1210, 1211] (by decide +kernel) (by decide +kernel) (z7_no (by decide +kernel))
set_option maxRecDepth 100000 in
theorem xJ6_bitCount_0f7a4 : ∀ w ∈ zwxs RJ6 mJ6_bitCount_0f7a4 eJ6_bitCount_0f7a4 rJ6_bitCount_0f7a4, zspc w = true ∧ w ∈ lw_tbl := by decide +kernel
theorem tJ6_bitCount_0f7a4 {sc : Nat × (Nat → Int32)} {l : Launch} (hlt : l.stackTraces = false) : MetA sc l mJ6_bitCount_0f7a4 (sJ6_bitCount_0f7a4) := zmet (M := mJ6_bitCount_0f7a4) (own := RJ6) (envM := eJ6_bitCount_0f7a4) hlt rfl (by decide +kernel) (by decide +kernel) rfl (fun j q hq => by cases hq) aJ6_bitCount_0f7a4 wJ6_bitCount_0f7a4 xJ6_bitCount_0f7a4 rfl
