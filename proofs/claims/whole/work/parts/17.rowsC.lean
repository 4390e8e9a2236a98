/-! ROWS: the bytecode of the methods as the abstract machine runs it, and their contracts (written by wip/whole/rows.py). -/
def mX5_init : zm_M := (yX5_init, cX5_init, 1, none, (3, 135, 72537, 53), 0, [], (135, 72537))
def rX5_init : List zm_R := [(0, .aload_n 0, 0, [], 0, 0, (0, 0), false, []),
  (1, .invokespecial 3, 10, [], 0, 0, (0, 0), false, []),
  (4, .aload_n 0, 0, [], 0, 0, (0, 0), false, []),
  (5, .new 9, 4, [0, 2], 0, 0, (0, 0), false, []),
  (8, .dup, 0, [], 0, 0, (1, 2), true, []),
  (9, .sipush 500, 0, [], 500, 0, (1, 2), false, []),
  (12, .invokespecial 11, 6, [2, 0, 2, 0, 0, 0], 0, 0, (1, 2), false, []),
  (15, .putfield 14, 2, [5, 0, 12, 2], 0, 0, (2, 502), true, []),
  (18, .aload_n 0, 0, [], 0, 0, (2, 502), false, []),
  (19, .new 9, 4, [0, 2], 0, 0, (2, 502), false, []),
  (22, .dup, 0, [], 0, 0, (3, 504), true, []),
  (23, .bipush 77, 0, [], 77, 0, (3, 504), false, []),
  (25, .invokespecial 11, 6, [2, 0, 2, 0, 0, 0], 0, 0, (3, 504), false, []),
  (28, .putfield 18, 2, [5, 1, 12, 2], 0, 0, (4, 1004), true, []),
  (31, .aload_n 0, 0, [], 0, 0, (4, 1004), false, []),
  (32, .new 21, 4, [2, 15], 0, 0, (4, 1004), false, []),
  (35, .dup, 0, [], 0, 0, (5, 1019), true, []),
  (36, .invokespecial 23, 6, [4, 1, 1, 0, 0, 2], 0, 0, (5, 1019), false, []),
  (39, .putfield 24, 2, [5, 2, 12, 2], 0, 0, (15, 1174), true, []),
  (42, .aload_n 0, 0, [], 0, 0, (15, 1174), false, []),
  (43, .new 21, 4, [2, 15], 0, 0, (15, 1174), false, []),
  (46, .dup, 0, [], 0, 0, (16, 1189), true, []),
  (47, .invokespecial 23, 6, [4, 1, 1, 0, 0, 2], 0, 0, (16, 1189), false, []),
  (50, .putfield 28, 2, [5, 3, 12, 2], 0, 0, (26, 1344), true, []),
  (53, .aload_n 0, 0, [], 0, 0, (26, 1344), false, []),
  (54, .new 31, 4, [1, 3], 0, 0, (26, 1344), false, []),
  (57, .dup, 0, [], 0, 0, (27, 1347), true, []),
  (58, .invokespecial 33, 6, [2, 2, 1, 0, 0, 1], 0, 0, (27, 1347), false, []),
  (61, .putfield 34, 2, [5, 4, 12, 2], 0, 0, (105, 2543), true, []),
  (64, .aload_n 0, 0, [], 0, 0, (105, 2543), false, []),
  (65, .iconst 2, 0, [], 2, 0, (105, 2543), false, []),
  (66, .anewarray 21, 4, [5, 2], 0, 0, (105, 2543), false, []),
  (69, .dup, 0, [], 0, 0, (106, 2545), true, []),
  (70, .iconst 0, 0, [], 0, 0, (106, 2545), false, []),
  (71, .new 21, 4, [2, 15], 0, 0, (106, 2545), false, []),
  (74, .dup, 0, [], 0, 0, (107, 2560), true, []),
  (75, .invokespecial 23, 6, [4, 1, 1, 0, 0, 2], 0, 0, (107, 2560), false, []),
  (78, .aastore, 3, [5], 0, 0, (117, 2715), true, []),
  (79, .dup, 0, [], 0, 0, (117, 2715), false, []),
  (80, .iconst 1, 0, [], 1, 0, (117, 2715), false, []),
  (81, .new 21, 4, [2, 15], 0, 0, (117, 2715), false, []),
  (84, .dup, 0, [], 0, 0, (118, 2730), true, []),
  (85, .invokespecial 23, 6, [4, 1, 1, 0, 0, 2], 0, 0, (118, 2730), false, []),
  (88, .aastore, 3, [5], 0, 0, (128, 2885), true, []),
  (89, .putfield 38, 2, [5, 5, 12, 2], 0, 0, (128, 2885), false, []),
  (92, .aload_n 0, 0, [], 0, 0, (128, 2885), false, []),
  (93, .iconst 2, 0, [], 2, 0, (128, 2885), false, []),
  (94, .newarray .boolean, 4, [3, 2], 0, 0, (128, 2885), false, []),
  (96, .putfield 42, 2, [5, 6, 12, 2], 0, 0, (129, 2887), true, []),
  (99, .aload_n 0, 0, [], 0, 0, (129, 2887), false, []),
  (100, .new 46, 4, [4, 7], 0, 0, (129, 2887), false, []),
  (103, .dup, 0, [], 0, 0, (130, 2894), true, []),
  (104, .invokespecial 48, 6, [4, 3, 1, 0, 0, 4], 0, 0, (130, 2894), false, []),
  (107, .putfield 49, 2, [5, 7, 12, 2], 0, 0, (134, 72526), true, []),
  (110, .aload_n 0, 0, [], 0, 0, (134, 72526), false, []),
  (111, .iconst 1, 0, [], 1, 0, (134, 72526), false, []),
  (112, .putfield 53, 2, [5, 8, 12, 3], 0, 0, (134, 72526), false, []),
  (115, .aload_n 0, 0, [], 0, 0, (134, 72526), false, []),
  (116, .bipush 11, 0, [], 11, 0, (134, 72526), false, []),
  (118, .newarray .int, 4, [0, 11], 0, 0, (134, 72526), false, []),
  (120, .putfield 57, 2, [5, 9, 12, 2], 0, 0, (135, 72537), true, []),
  (123, .aload_n 0, 0, [], 0, 0, (135, 72537), false, []),
  (124, .iconst 0, 0, [], 0, 0, (135, 72537), false, []),
  (125, .putfield 61, 2, [5, 10, 12, 0], 0, 0, (135, 72537), false, []),
  (128, .aload_n 0, 0, [], 0, 0, (135, 72537), false, []),
  (129, .iconst (-1), 0, [], (-1), 0, (135, 72537), false, []),
  (130, .putfield 65, 2, [5, 11, 12, 0], 0, 0, (135, 72537), false, []),
  (133, .return_, 5, [], 0, 0, (135, 72537), false, [])]
def eX5_init : List zm_M := [mX0_init, mX2_init, mX1_init, mX4_init]
noncomputable def vX5_init : List (zm_M × zm_S) := [(mX0_init, sX0_init), (mX2_init, sX2_init), (mX1_init, sX1_init), (mX4_init, sX4_init)]
noncomputable def sX5_init : zm_S := zsem vX5_init rX5_init 1
set_option maxRecDepth 100000 in
theorem aX5_init : zall RX5 mX5_init eX5_init rX5_init = true := by decide +kernel
set_option maxRecDepth 100000 in
theorem wX5_init : ∀ w ∈ zwds RX5 mX5_init eX5_init rX5_init, w ∈ gT := zwd_of [141, 142, 143, 144, 145, 115, 146, 147, 115, 148, 286, 144, 145, 115, 146, 147, 115, 148, 287, 162, 163, 116, 165, 116, 166, 288, 162, 163, 116, 165, 116, 166, 289, 237, 238, 117, 239, 240, 117, 241, 290, 162, 162, 163, 116, 165, 116, 166, 162, 163, 116, 165, 116, 166, 291, 236, 292, 257, 258, 118, 260, 118, 261, 293, 294, 161, 295, 296, 297] (by decide +kernel) (by decide +kernel) (z7_no (by decide +kernel))
set_option maxRecDepth 100000 in
theorem xX5_init : ∀ w ∈ zwxs RX5 mX5_init eX5_init rX5_init, zspc w = true ∧ w ∈ lw_tbl := by decide +kernel
theorem tX5_init {l : Launch} (hlt : l.stackTraces = false) : MetA l mX5_init sX5_init := zmet (M := mX5_init) (own := RX5) (envM := eX5_init) hlt rfl (by decide +kernel) (by decide +kernel) rfl (fun j q hq => by
  match j, hq with
  | 0, hq => cases hq; exact tX0_init hlt
  | 1, hq => cases hq; exact tX2_init hlt
  | 2, hq => cases hq; exact tX1_init hlt
  | 3, hq => cases hq; exact tX4_init hlt
  | n + 4, hq => cases hq) aX5_init wX5_init xX5_init rfl
def mX5_append : zm_M := (yX5_append, cX5_append, 6, (some .int), (6, 0, 0, 120), 5, [], (1, 6))
def rX5_append : List zm_R := [(0, .aload_n 0, 0, [], 0, 0, (0, 0), false, []),
  (1, .getfield 14, 2, [5, 0, 12, 2], 0, 0, (0, 0), false, []),
  (4, .getfield 68, 2, [0, 1, 2, 0], 0, 0, (0, 0), false, []),
  (7, .bipush 20, 0, [], 20, 0, (0, 0), false, []),
  (9, .iadd, 0, [], 0, 0, (0, 0), false, []),
  (10, .sipush 500, 0, [], 500, 0, (0, 0), false, []),
  (13, .if_icmp .le 13, 1, [8], 0, 0, (0, 0), false, []),
  (16, .new 71, 7, [0, 11, 71, 73, 75, 0], 0, 0, (0, 0), false, []),
  (26, .aload_n 0, 0, [], 0, 0, (0, 0), false, []),
  (27, .getfield 14, 2, [5, 0, 12, 2], 0, 0, (0, 0), false, []),
  (30, .iload_n 1, 0, [], 0, 0, (0, 0), false, []),
  (31, .invokevirtual 78, 6, [0, 0, 2, 0, 0, 0], 0, 0, (0, 0), false, []),
  (34, .aload_n 0, 0, [], 0, 0, (0, 0), false, []),
  (35, .getfield 14, 2, [5, 0, 12, 2], 0, 0, (0, 0), false, []),
  (38, .iload_n 2, 0, [], 0, 0, (0, 0), false, []),
  (39, .invokevirtual 78, 6, [0, 0, 2, 0, 0, 0], 0, 0, (0, 0), false, []),
  (42, .aload_n 0, 0, [], 0, 0, (0, 0), false, []),
  (43, .getfield 14, 2, [5, 0, 12, 2], 0, 0, (0, 0), false, []),
  (46, .iload_n 3, 0, [], 0, 0, (0, 0), false, []),
  (47, .invokevirtual 78, 6, [0, 0, 2, 0, 0, 0], 0, 0, (0, 0), false, []),
  (50, .aload_n 0, 0, [], 0, 0, (0, 0), false, []),
  (51, .getfield 14, 2, [5, 0, 12, 2], 0, 0, (0, 0), false, []),
  (54, .iload 4, 0, [], 0, 0, (0, 0), false, []),
  (56, .invokevirtual 78, 6, [0, 0, 2, 0, 0, 0], 0, 0, (0, 0), false, []),
  (59, .aload_n 0, 0, [], 0, 0, (0, 0), false, []),
  (60, .getfield 14, 2, [5, 0, 12, 2], 0, 0, (0, 0), false, []),
  (63, .iload 5, 0, [], 0, 0, (0, 0), false, []),
  (65, .invokevirtual 78, 6, [0, 0, 2, 0, 0, 0], 0, 0, (0, 0), false, []),
  (68, .aload_n 0, 0, [], 0, 0, (0, 0), false, []),
  (69, .getfield 14, 2, [5, 0, 12, 2], 0, 0, (0, 0), false, []),
  (72, .getfield 68, 2, [0, 1, 2, 0], 0, 0, (0, 0), false, []),
  (75, .ireturn, 5, [0], 0, 0, (0, 0), false, [])]
def eX5_append : List zm_M := [mX0_addFour]
noncomputable def vX5_append : List (zm_M × zm_S) := [(mX0_addFour, sX0_addFour)]
noncomputable def sX5_append : zm_S := zsem vX5_append rX5_append 6
set_option maxRecDepth 100000 in
theorem aX5_append : zall RX5 mX5_append eX5_append rX5_append = true := by decide +kernel
set_option maxRecDepth 100000 in
theorem wX5_append : ∀ w ∈ zwds RX5 mX5_append eX5_append rX5_append, w ∈ gT := zwd_of [286, 154, 286, 852, 853, 854, 115, 855, 286, 852, 853, 854, 115, 855, 286, 852, 853, 854, 115, 855, 286, 852, 853, 854, 115, 855, 286, 852, 853, 854, 115, 855, 286, 154] (by decide +kernel) (by decide +kernel) (z7_of (L := [(16, .new 71, 7, [0, 11, 71, 73, 75, 0], 0, 0, (0, 0), false, [])]) rfl (List.forall_mem_cons.mpr ⟨zw7 (x := 0) rfl (gT_in (List.mem_of_getElem? (i := 836) (by decide +kernel)) (by decide +kernel)) (gT_in (List.mem_of_getElem? (i := 123) (by decide +kernel)) (by decide +kernel)) zw7_0, fun _ h => absurd h List.not_mem_nil⟩))
set_option maxRecDepth 100000 in
theorem xX5_append : ∀ w ∈ zwxs RX5 mX5_append eX5_append rX5_append, zspc w = true ∧ w ∈ lw_tbl := by decide +kernel
theorem tX5_append {l : Launch} (hlt : l.stackTraces = false) : MetA l mX5_append sX5_append := zmet (M := mX5_append) (own := RX5) (envM := eX5_append) hlt rfl (by decide +kernel) (by decide +kernel) rfl (fun j q hq => by
  match j, hq with
  | 0, hq => cases hq; exact tX0_addFour hlt
  | n + 1, hq => cases hq) aX5_append wX5_append xX5_append rfl
def mX5_truncate : zm_M := (yX5_truncate, cX5_truncate, 2, none, (6, 0, 0, 120), 1, [], (1, 6))
def rX5_truncate : List zm_R := [(0, .iload_n 1, 0, [], 0, 0, (0, 0), false, []),
  (1, .ifCond .lt 14, 1, [7], 0, 0, (0, 0), false, []),
  (4, .iload_n 1, 0, [], 0, 0, (0, 0), false, []),
  (5, .aload_n 0, 0, [], 0, 0, (0, 0), false, []),
  (6, .getfield 14, 2, [5, 0, 12, 2], 0, 0, (0, 0), false, []),
  (9, .getfield 68, 2, [0, 1, 2, 0], 0, 0, (0, 0), false, []),
  (12, .if_icmp .le 13, 1, [8], 0, 0, (0, 0), false, []),
  (15, .new 81, 7, [1, 12, 81, 83, 84, 0], 0, 0, (0, 0), false, []),
  (25, .aload_n 0, 0, [], 0, 0, (0, 0), false, []),
  (26, .getfield 14, 2, [5, 0, 12, 2], 0, 0, (0, 0), false, []),
  (29, .iload_n 1, 0, [], 0, 0, (0, 0), false, []),
  (30, .putfield 68, 2, [0, 1, 2, 0], 0, 0, (0, 0), false, []),
  (33, .return_, 5, [], 0, 0, (0, 0), false, [])]
def eX5_truncate : List zm_M := []
noncomputable def vX5_truncate : List (zm_M × zm_S) := []
noncomputable def sX5_truncate : zm_S := zsem vX5_truncate rX5_truncate 2
set_option maxRecDepth 100000 in
theorem aX5_truncate : zall RX5 mX5_truncate eX5_truncate rX5_truncate = true := by decide +kernel
set_option maxRecDepth 100000 in
theorem wX5_truncate : ∀ w ∈ zwds RX5 mX5_truncate eX5_truncate rX5_truncate, w ∈ gT := zwd_of [286, 154, 286, 154] (by decide +kernel) (by decide +kernel) (z7_of (L := [(15, .new 81, 7, [1, 12, 81, 83, 84, 0], 0, 0, (0, 0), false, [])]) rfl (List.forall_mem_cons.mpr ⟨zw7 (x := 1) rfl (gT_in (List.mem_of_getElem? (i := 864) (by decide +kernel)) (by decide +kernel)) (gT_in (List.mem_of_getElem? (i := 124) (by decide +kernel)) (by decide +kernel)) zw7_1, fun _ h => absurd h List.not_mem_nil⟩))
set_option maxRecDepth 100000 in
theorem xX5_truncate : ∀ w ∈ zwxs RX5 mX5_truncate eX5_truncate rX5_truncate, zspc w = true ∧ w ∈ lw_tbl := by decide +kernel
theorem tX5_truncate {l : Launch} (hlt : l.stackTraces = false) : MetA l mX5_truncate sX5_truncate := zmet (M := mX5_truncate) (own := RX5) (envM := eX5_truncate) hlt rfl (by decide +kernel) (by decide +kernel) rfl (fun j q hq => by cases hq) aX5_truncate wX5_truncate xX5_truncate rfl
def mX5_record : zm_M := (yX5_record, cX5_record, 1, none, (3, 0, 0, 82), 0, [], (0, 0))
def rX5_record : List zm_R := [(0, .aload_n 0, 0, [], 0, 0, (0, 0), false, []),
  (1, .getfield 34, 2, [5, 4, 12, 2], 0, 0, (0, 0), false, []),
  (4, .aload_n 0, 0, [], 0, 0, (0, 0), false, []),
  (5, .getfield 24, 2, [5, 2, 12, 2], 0, 0, (0, 0), false, []),
  (8, .invokevirtual 394, 6, [0, 0, 2, 0, 0, 1], 0, 0, (0, 0), false, []),
  (11, .aload_n 0, 0, [], 0, 0, (0, 0), false, []),
  (12, .iconst 1, 0, [], 1, 0, (0, 0), false, []),
  (13, .putfield 53, 2, [5, 8, 12, 3], 0, 0, (0, 0), false, []),
  (16, .return_, 5, [], 0, 0, (0, 0), false, [])]
def eX5_record : List zm_M := [mX1_push]
noncomputable def vX5_record : List (zm_M × zm_S) := [(mX1_push, sX1_push)]
noncomputable def sX5_record : zm_S := zsem vX5_record rX5_record 1
set_option maxRecDepth 100000 in
theorem aX5_record : zall RX5 mX5_record eX5_record rX5_record = true := by decide +kernel
set_option maxRecDepth 100000 in
theorem wX5_record : ∀ w ∈ zwds RX5 mX5_record eX5_record rX5_record, w ∈ gT := zwd_of [290, 288, 490, 491, 492, 117, 493, 294] (by decide +kernel) (by decide +kernel) (z7_no (by decide +kernel))
set_option maxRecDepth 100000 in
theorem xX5_record : ∀ w ∈ zwxs RX5 mX5_record eX5_record rX5_record, zspc w = true ∧ w ∈ lw_tbl := by decide +kernel
theorem tX5_record {l : Launch} (hlt : l.stackTraces = false) : MetA l mX5_record sX5_record := zmet (M := mX5_record) (own := RX5) (envM := eX5_record) hlt rfl (by decide +kernel) (by decide +kernel) rfl (fun j q hq => by
  match j, hq with
  | 0, hq => cases hq; exact tX1_push hlt
  | n + 1, hq => cases hq) aX5_record wX5_record xX5_record rfl
def mX5_load : zm_M := (yX5_load, cX5_load, 3, (some .int), (6, 1, 9, 131), 0, [], (1, 9))
def rX5_load : List zm_R := [(0, .new 85, 4, [3, 9], 0, 0, (0, 0), false, []),
  (3, .dup, 0, [], 0, 0, (1, 9), false, []),
  (4, .aload_n 0, 0, [], 0, 0, (1, 9), false, []),
  (5, .getfield 14, 2, [5, 0, 12, 2], 0, 0, (1, 9), false, []),
  (8, .aload_n 0, 0, [], 0, 0, (1, 9), false, []),
  (9, .getfield 28, 2, [5, 3, 12, 2], 0, 0, (1, 9), false, []),
  (12, .invokespecial 87, 6, [2, 0, 3, 0, 0, 3], 0, 0, (1, 9), false, []),
  (15, .astore_n 1, 0, [], 0, 0, (1, 9), false, []),
  (16, .aload_n 1, 0, [], 0, 0, (1, 9), false, []),
  (17, .invokevirtual 90, 6, [0, 1, 1, 1, 0, 3], 0, 0, (1, 9), false, []),
  (20, .istore_n 2, 0, [], 0, 0, (1, 9), false, []),
  (21, .aload_n 0, 0, [], 0, 0, (1, 9), false, []),
  (22, .getfield 14, 2, [5, 0, 12, 2], 0, 0, (1, 9), false, []),
  (25, .iconst 0, 0, [], 0, 0, (1, 9), false, []),
  (26, .putfield 68, 2, [0, 1, 2, 0], 0, 0, (1, 9), false, []),
  (29, .aload_n 0, 0, [], 0, 0, (1, 9), false, []),
  (30, .iload_n 2, 0, [], 0, 0, (1, 9), false, []),
  (31, .ifCond .eq 7, 1, [20], 0, 0, (1, 9), false, []),
  (34, .iconst 0, 0, [], 0, 0, (1, 9), false, []),
  (35, .goto 7, 1, [22], 0, 0, (1, 9), false, []),
  (38, .aload_n 1, 0, [], 0, 0, (1, 9), false, []),
  (39, .getfield 94, 2, [3, 8, 9, 0], 0, 0, (1, 9), false, []),
  (42, .putfield 61, 2, [5, 10, 12, 0], 0, 0, (1, 9), false, []),
  (45, .aload_n 0, 0, [], 0, 0, (1, 9), false, []),
  (46, .iload_n 2, 0, [], 0, 0, (1, 9), false, []),
  (47, .ifCond .eq 7, 1, [28], 0, 0, (1, 9), false, []),
  (50, .iconst (-1), 0, [], (-1), 0, (1, 9), false, []),
  (51, .goto 7, 1, [30], 0, 0, (1, 9), false, []),
  (54, .aload_n 1, 0, [], 0, 0, (1, 9), false, []),
  (55, .getfield 97, 2, [3, 7, 9, 0], 0, 0, (1, 9), false, []),
  (58, .putfield 65, 2, [5, 11, 12, 0], 0, 0, (1, 9), false, []),
  (61, .iload_n 2, 0, [], 0, 0, (1, 9), false, []),
  (62, .ifCond .ne 6, 1, [35], 0, 0, (1, 9), false, []),
  (65, .bipush (-4), 0, [], (-4), 0, (1, 9), false, []),
  (67, .ireturn, 5, [0], 0, 0, (1, 9), false, []),
  (68, .aload_n 0, 0, [], 0, 0, (1, 9), false, []),
  (69, .invokevirtual 100, 6, [0, 2, 1, 0, 0, 5], 0, 0, (1, 9), false, []),
  (72, .aload_n 0, 0, [], 0, 0, (1, 9), false, []),
  (73, .getfield 24, 2, [5, 2, 12, 2], 0, 0, (1, 9), false, []),
  (76, .aload_n 0, 0, [], 0, 0, (1, 9), false, []),
  (77, .getfield 28, 2, [5, 3, 12, 2], 0, 0, (1, 9), false, []),
  (80, .invokevirtual 103, 6, [0, 3, 2, 0, 0, 2], 0, 0, (1, 9), false, []),
  (83, .aload_n 0, 0, [], 0, 0, (1, 9), false, []),
  (84, .getfield 24, 2, [5, 2, 12, 2], 0, 0, (1, 9), false, []),
  (87, .getfield 107, 2, [2, 0, 15, 0], 0, 0, (1, 9), false, []),
  (90, .ireturn, 5, [0], 0, 0, (1, 9), false, [])]
def eX5_load : List zm_M := [mX3_init, mX3_parse, mX5_record, mX2_copyFrom]
noncomputable def vX5_load : List (zm_M × zm_S) := [(mX3_init, sX3_init), (mX3_parse, sX3_parse), (mX5_record, sX5_record), (mX2_copyFrom, sX2_copyFrom)]
noncomputable def sX5_load : zm_S := zsem vX5_load rX5_load 3
set_option maxRecDepth 100000 in
theorem aX5_load : zall RX5 mX5_load eX5_load rX5_load = true := by decide +kernel
set_option maxRecDepth 100000 in
theorem wX5_load : ∀ w ∈ zwds RX5 mX5_load eX5_load rX5_load, w ∈ gT := zwd_of [327, 328, 125, 286, 289, 329, 330, 125, 331, 363, 364, 365, 125, 366, 286, 154, 343, 296, 341, 297, 486, 488, 19, 114, 489, 288, 289, 501, 495, 496, 116, 497, 288, 170] (by decide +kernel) (by decide +kernel) (z7_no (by decide +kernel))
set_option maxRecDepth 100000 in
theorem xX5_load : ∀ w ∈ zwxs RX5 mX5_load eX5_load rX5_load, zspc w = true ∧ w ∈ lw_tbl := by decide +kernel
theorem tX5_load {l : Launch} (hlt : l.stackTraces = false) : MetA l mX5_load sX5_load := zmet (M := mX5_load) (own := RX5) (envM := eX5_load) hlt rfl (by decide +kernel) (by decide +kernel) rfl (fun j q hq => by
  match j, hq with
  | 0, hq => cases hq; exact tX3_init hlt
  | 1, hq => cases hq; exact tX3_parse hlt
  | 2, hq => cases hq; exact tX5_record hlt
  | 3, hq => cases hq; exact tX2_copyFrom hlt
  | n + 4, hq => cases hq) aX5_load wX5_load xX5_load rfl
def mX5_errorCode : zm_M := (yX5_errorCode, cX5_errorCode, 1, (some .int), (0, 0, 0, 0), 0, [], (0, 0))
def rX5_errorCode : List zm_R := [(0, .aload_n 0, 0, [], 0, 0, (0, 0), false, []),
  (1, .getfield 61, 2, [5, 10, 12, 0], 0, 0, (0, 0), false, []),
  (4, .ireturn, 5, [0], 0, 0, (0, 0), false, [])]
def eX5_errorCode : List zm_M := []
noncomputable def vX5_errorCode : List (zm_M × zm_S) := []
noncomputable def sX5_errorCode : zm_S := zsem vX5_errorCode rX5_errorCode 1
set_option maxRecDepth 100000 in
theorem aX5_errorCode : zall RX5 mX5_errorCode eX5_errorCode rX5_errorCode = true := by decide +kernel
set_option maxRecDepth 100000 in
theorem wX5_errorCode : ∀ w ∈ zwds RX5 mX5_errorCode eX5_errorCode rX5_errorCode, w ∈ gT := zwd_of [296] (by decide +kernel) (by decide +kernel) (z7_no (by decide +kernel))
set_option maxRecDepth 100000 in
theorem xX5_errorCode : ∀ w ∈ zwxs RX5 mX5_errorCode eX5_errorCode rX5_errorCode, zspc w = true ∧ w ∈ lw_tbl := by decide +kernel
theorem tX5_errorCode {l : Launch} (hlt : l.stackTraces = false) : MetA l mX5_errorCode sX5_errorCode := zmet (M := mX5_errorCode) (own := RX5) (envM := eX5_errorCode) hlt rfl (by decide +kernel) (by decide +kernel) rfl (fun j q hq => by cases hq) aX5_errorCode wX5_errorCode xX5_errorCode rfl
def mX5_errorPosition : zm_M := (yX5_errorPosition, cX5_errorPosition, 1, (some .int), (0, 0, 0, 0), 0, [], (0, 0))
def rX5_errorPosition : List zm_R := [(0, .aload_n 0, 0, [], 0, 0, (0, 0), false, []),
  (1, .getfield 65, 2, [5, 11, 12, 0], 0, 0, (0, 0), false, []),
  (4, .ireturn, 5, [0], 0, 0, (0, 0), false, [])]
def eX5_errorPosition : List zm_M := []
noncomputable def vX5_errorPosition : List (zm_M × zm_S) := []
noncomputable def sX5_errorPosition : zm_S := zsem vX5_errorPosition rX5_errorPosition 1
set_option maxRecDepth 100000 in
theorem aX5_errorPosition : zall RX5 mX5_errorPosition eX5_errorPosition rX5_errorPosition = true := by decide +kernel
set_option maxRecDepth 100000 in
theorem wX5_errorPosition : ∀ w ∈ zwds RX5 mX5_errorPosition eX5_errorPosition rX5_errorPosition, w ∈ gT := zwd_of [297] (by decide +kernel) (by decide +kernel) (z7_no (by decide +kernel))
set_option maxRecDepth 100000 in
theorem xX5_errorPosition : ∀ w ∈ zwxs RX5 mX5_errorPosition eX5_errorPosition rX5_errorPosition, zspc w = true ∧ w ∈ lw_tbl := by decide +kernel
theorem tX5_errorPosition {l : Launch} (hlt : l.stackTraces = false) : MetA l mX5_errorPosition sX5_errorPosition := zmet (M := mX5_errorPosition) (own := RX5) (envM := eX5_errorPosition) hlt rfl (by decide +kernel) (by decide +kernel) rfl (fun j q hq => by cases hq) aX5_errorPosition wX5_errorPosition xX5_errorPosition rfl
def mX5_find : zm_M := (yX5_find, cX5_find, 3, (some .int), (1, 0, 0, 23), 0, [], (0, 0))
def rX5_find : List zm_R := [(0, .aload_n 0, 0, [], 0, 0, (0, 0), false, []),
  (1, .getfield 14, 2, [5, 0, 12, 2], 0, 0, (0, 0), false, []),
  (4, .invokevirtual 110, 6, [0, 0, 1, 2, 0, 0], 0, 0, (0, 0), false, []),
  (7, .lstore_n 1, 0, [], 0, 0, (0, 0), false, []),
  (8, .aload_n 0, 0, [], 0, 0, (0, 0), false, []),
  (9, .getfield 14, 2, [5, 0, 12, 2], 0, 0, (0, 0), false, []),
  (12, .iconst 0, 0, [], 0, 0, (0, 0), false, []),
  (13, .putfield 68, 2, [0, 1, 2, 0], 0, 0, (0, 0), false, []),
  (16, .lload_n 1, 0, [], 0, 0, (0, 0), false, []),
  (17, .lconst 0, 0, [], 0, 0, (0, 0), false, []),
  (18, .lcmp, 0, [], 0, 0, (0, 0), false, []),
  (19, .ifCond .ne 7, 1, [14], 0, 0, (0, 0), false, []),
  (22, .iconst (-1), 0, [], (-1), 0, (0, 0), false, []),
  (23, .goto 11, 1, [18], 0, 0, (0, 0), false, []),
  (26, .aload_n 0, 0, [], 0, 0, (0, 0), false, []),
  (27, .getfield 24, 2, [5, 2, 12, 2], 0, 0, (0, 0), false, []),
  (30, .lload_n 1, 0, [], 0, 0, (0, 0), false, []),
  (31, .invokevirtual 114, 6, [0, 1, 2, 1, 0, 2], 0, 0, (0, 0), false, []),
  (34, .ireturn, 5, [0], 0, 0, (0, 0), false, [])]
def eX5_find : List zm_M := [mX0_wholeName, mX2_roomNamed]
noncomputable def vX5_find : List (zm_M × zm_S) := [(mX0_wholeName, sX0_wholeName), (mX2_roomNamed, sX2_roomNamed)]
noncomputable def sX5_find : zm_S := zsem vX5_find rX5_find 3
set_option maxRecDepth 100000 in
theorem aX5_find : zall RX5 mX5_find eX5_find rX5_find = true := by decide +kernel
set_option maxRecDepth 100000 in
theorem wX5_find : ∀ w ∈ zwds RX5 mX5_find eX5_find rX5_find, w ∈ gT := zwd_of [286, 514, 515, 516, 115, 517, 286, 154, 288, 518, 419, 420, 116, 421] (by decide +kernel) (by decide +kernel) (z7_no (by decide +kernel))
set_option maxRecDepth 100000 in
theorem xX5_find : ∀ w ∈ zwxs RX5 mX5_find eX5_find rX5_find, zspc w = true ∧ w ∈ lw_tbl := by decide +kernel
theorem tX5_find {l : Launch} (hlt : l.stackTraces = false) : MetA l mX5_find sX5_find := zmet (M := mX5_find) (own := RX5) (envM := eX5_find) hlt rfl (by decide +kernel) (by decide +kernel) rfl (fun j q hq => by
  match j, hq with
  | 0, hq => cases hq; exact tX0_wholeName hlt
  | 1, hq => cases hq; exact tX2_roomNamed hlt
  | n + 2, hq => cases hq) aX5_find wX5_find xX5_find rfl
def mX5_property : zm_M := (yX5_property, cX5_property, 2, (some .int), (6, 0, 0, 120), 1, [], (1, 6))
def rX5_property : List zm_R := [(0, .iload_n 1, 0, [], 0, 0, (0, 0), false, []),
  (1, .tableswitch 137 0 8 #[51, 59, 67, 75, 83, 91, 99, 107, 122], 1, [44, 2, 6, 10, 14, 18, 22, 26, 30, 37], 0, 0, (0, 0), true, [1]),
  (52, .aload_n 0, 0, [], 0, 0, (0, 0), true, [1]),
  (53, .getfield 24, 2, [5, 2, 12, 2], 0, 0, (0, 0), false, []),
  (56, .getfield 107, 2, [2, 0, 15, 0], 0, 0, (0, 0), false, []),
  (59, .ireturn, 5, [0], 0, 0, (0, 0), false, []),
  (60, .aload_n 0, 0, [], 0, 0, (0, 0), true, [1]),
  (61, .getfield 24, 2, [5, 2, 12, 2], 0, 0, (0, 0), false, []),
  (64, .getfield 118, 2, [2, 4, 15, 0], 0, 0, (0, 0), false, []),
  (67, .ireturn, 5, [0], 0, 0, (0, 0), false, []),
  (68, .aload_n 0, 0, [], 0, 0, (0, 0), true, [1]),
  (69, .getfield 24, 2, [5, 2, 12, 2], 0, 0, (0, 0), false, []),
  (72, .getfield 121, 2, [2, 10, 15, 0], 0, 0, (0, 0), false, []),
  (75, .ireturn, 5, [0], 0, 0, (0, 0), false, []),
  (76, .aload_n 0, 0, [], 0, 0, (0, 0), true, [1]),
  (77, .getfield 24, 2, [5, 2, 12, 2], 0, 0, (0, 0), false, []),
  (80, .getfield 124, 2, [2, 11, 15, 0], 0, 0, (0, 0), false, []),
  (83, .ireturn, 5, [0], 0, 0, (0, 0), false, []),
  (84, .aload_n 0, 0, [], 0, 0, (0, 0), true, [1]),
  (85, .getfield 24, 2, [5, 2, 12, 2], 0, 0, (0, 0), false, []),
  (88, .getfield 127, 2, [2, 13, 15, 0], 0, 0, (0, 0), false, []),
  (91, .ireturn, 5, [0], 0, 0, (0, 0), false, []),
  (92, .aload_n 0, 0, [], 0, 0, (0, 0), true, [1]),
  (93, .getfield 24, 2, [5, 2, 12, 2], 0, 0, (0, 0), false, []),
  (96, .invokevirtual 128, 6, [0, 3, 1, 1, 0, 2], 0, 0, (0, 0), false, []),
  (99, .ireturn, 5, [0], 0, 0, (0, 0), false, []),
  (100, .aload_n 0, 0, [], 0, 0, (0, 0), true, [1]),
  (101, .getfield 24, 2, [5, 2, 12, 2], 0, 0, (0, 0), false, []),
  (104, .invokevirtual 132, 6, [0, 0, 1, 1, 0, 2], 0, 0, (0, 0), false, []),
  (107, .ireturn, 5, [0], 0, 0, (0, 0), false, []),
  (108, .aload_n 0, 0, [], 0, 0, (0, 0), true, [1]),
  (109, .getfield 24, 2, [5, 2, 12, 2], 0, 0, (0, 0), false, []),
  (112, .aload_n 0, 0, [], 0, 0, (0, 0), false, []),
  (113, .getfield 24, 2, [5, 2, 12, 2], 0, 0, (0, 0), false, []),
  (116, .invokevirtual 132, 6, [0, 0, 1, 1, 0, 2], 0, 0, (0, 0), false, []),
  (119, .invokevirtual 135, 6, [0, 2, 2, 1, 0, 2], 0, 0, (0, 0), false, []),
  (122, .ireturn, 5, [0], 0, 0, (0, 0), false, []),
  (123, .aload_n 0, 0, [], 0, 0, (0, 0), true, [1]),
  (124, .getfield 24, 2, [5, 2, 12, 2], 0, 0, (0, 0), false, []),
  (127, .aload_n 0, 0, [], 0, 0, (0, 0), false, []),
  (128, .getfield 24, 2, [5, 2, 12, 2], 0, 0, (0, 0), false, []),
  (131, .invokevirtual 132, 6, [0, 0, 1, 1, 0, 2], 0, 0, (0, 0), false, []),
  (134, .invokevirtual 139, 6, [0, 1, 2, 1, 0, 2], 0, 0, (0, 0), false, []),
  (137, .ireturn, 5, [0], 0, 0, (0, 0), false, []),
  (138, .new 81, 7, [1, 13, 81, 142, 84, 0], 0, 0, (0, 0), true, [0, 1])]
def eX5_property : List zm_M := [mX2_walkSet, mX2_coinsIn, mX2_keysIn, mX2_lastRoom]
noncomputable def vX5_property : List (zm_M × zm_S) := [(mX2_walkSet, sX2_walkSet), (mX2_coinsIn, sX2_coinsIn), (mX2_keysIn, sX2_keysIn), (mX2_lastRoom, sX2_lastRoom)]
noncomputable def sX5_property : zm_S := zsem vX5_property rX5_property 2
set_option maxRecDepth 100000 in
theorem aX5_property : zall RX5 mX5_property eX5_property rX5_property = true := by decide +kernel
set_option maxRecDepth 100000 in
theorem wX5_property : ∀ w ∈ zwds RX5 mX5_property eX5_property rX5_property, w ∈ gT := zwd_of [288, 170, 288, 182, 288, 195, 288, 197, 288, 202, 288, 547, 548, 549, 116, 550, 288, 523, 524, 525, 116, 526, 288, 288, 523, 524, 525, 116, 526, 887, 532, 533, 116, 534, 288, 288, 523, 524, 525, 116, 526, 797, 537, 538, 116, 539] (by decide +kernel) (by decide +kernel) (z7_of (L := [(138, .new 81, 7, [1, 13, 81, 142, 84, 0], 0, 0, (0, 0), true, [0, 1])]) rfl (List.forall_mem_cons.mpr ⟨zw7 (x := 1) rfl (gT_in (List.mem_of_getElem? (i := 864) (by decide +kernel)) (by decide +kernel)) (gT_in (List.mem_of_getElem? (i := 124) (by decide +kernel)) (by decide +kernel)) zw7_1, fun _ h => absurd h List.not_mem_nil⟩))
set_option maxRecDepth 100000 in
theorem xX5_property : ∀ w ∈ zwxs RX5 mX5_property eX5_property rX5_property, zspc w = true ∧ w ∈ lw_tbl := by decide +kernel
theorem tX5_property {l : Launch} (hlt : l.stackTraces = false) : MetA l mX5_property sX5_property := zmet (M := mX5_property) (own := RX5) (envM := eX5_property) hlt rfl (by decide +kernel) (by decide +kernel) rfl (fun j q hq => by
  match j, hq with
  | 0, hq => cases hq; exact tX2_walkSet hlt
  | 1, hq => cases hq; exact tX2_coinsIn hlt
  | 2, hq => cases hq; exact tX2_keysIn hlt
  | 3, hq => cases hq; exact tX2_lastRoom hlt
  | n + 4, hq => cases hq) aX5_property wX5_property xX5_property rfl
def mX5_needRoom : zm_M := (yX5_needRoom, cX5_needRoom, 2, none, (6, 0, 0, 120), 1, [], (1, 6))
def rX5_needRoom : List zm_R := [(0, .iload_n 1, 0, [], 0, 0, (0, 0), false, []),
  (1, .ifCond .lt 14, 1, [7], 0, 0, (0, 0), false, []),
  (4, .iload_n 1, 0, [], 0, 0, (0, 0), false, []),
  (5, .aload_n 0, 0, [], 0, 0, (0, 0), false, []),
  (6, .getfield 24, 2, [5, 2, 12, 2], 0, 0, (0, 0), false, []),
  (9, .getfield 107, 2, [2, 0, 15, 0], 0, 0, (0, 0), false, []),
  (12, .if_icmp .lt 14, 1, [8], 0, 0, (0, 0), false, []),
  (15, .new 377, 7, [2, 8, 377, 379, 381, 1], 0, 0, (0, 0), false, []),
  (26, .return_, 5, [], 0, 0, (0, 0), false, [])]
def eX5_needRoom : List zm_M := []
noncomputable def vX5_needRoom : List (zm_M × zm_S) := []
noncomputable def sX5_needRoom : zm_S := zsem vX5_needRoom rX5_needRoom 2
set_option maxRecDepth 100000 in
theorem aX5_needRoom : zall RX5 mX5_needRoom eX5_needRoom rX5_needRoom = true := by decide +kernel
set_option maxRecDepth 100000 in
theorem wX5_needRoom : ∀ w ∈ zwds RX5 mX5_needRoom eX5_needRoom rX5_needRoom, w ∈ gT := zwd_of [288, 170] (by decide +kernel) (by decide +kernel) (z7_of (L := [(15, .new 377, 7, [2, 8, 377, 379, 381, 1], 0, 0, (0, 0), false, [])]) rfl (List.forall_mem_cons.mpr ⟨zw7 (x := 2) rfl (gT_in (List.mem_of_getElem? (i := 613) (by decide +kernel)) (by decide +kernel)) (gT_in (List.mem_of_getElem? (i := 132) (by decide +kernel)) (by decide +kernel)) zw7_2, fun _ h => absurd h List.not_mem_nil⟩))
set_option maxRecDepth 100000 in
theorem xX5_needRoom : ∀ w ∈ zwxs RX5 mX5_needRoom eX5_needRoom rX5_needRoom, zspc w = true ∧ w ∈ lw_tbl := by decide +kernel
theorem tX5_needRoom {l : Launch} (hlt : l.stackTraces = false) : MetA l mX5_needRoom sX5_needRoom := zmet (M := mX5_needRoom) (own := RX5) (envM := eX5_needRoom) hlt rfl (by decide +kernel) (by decide +kernel) rfl (fun j q hq => by cases hq) aX5_needRoom wX5_needRoom xX5_needRoom rfl
def mX5_room : zm_M := (yX5_room, cX5_room, 3, (some .int), (7, 0, 0, 141), 2, [], (1, 6))
def rX5_room : List zm_R := [(0, .aload_n 0, 0, [], 0, 0, (0, 0), false, []),
  (1, .iload_n 1, 0, [], 0, 0, (0, 0), false, []),
  (2, .invokevirtual 144, 6, [0, 0, 2, 0, 1, 5], 0, 0, (0, 0), false, []),
  (5, .iload_n 2, 0, [], 0, 0, (0, 0), false, []),
  (6, .tableswitch 81 0 4 #[34, 44, 54, 63, 72], 1, [32, 5, 11, 17, 22, 27], 0, 0, (0, 0), true, [2]),
  (40, .aload_n 0, 0, [], 0, 0, (0, 0), true, [2]),
  (41, .getfield 24, 2, [5, 2, 12, 2], 0, 0, (0, 0), false, []),
  (44, .getfield 147, 2, [2, 2, 15, 2], 0, 0, (0, 0), false, []),
  (47, .iload_n 1, 0, [], 0, 0, (0, 0), false, []),
  (48, .iaload, 3, [0], 0, 0, (0, 0), false, []),
  (49, .ireturn, 5, [0], 0, 0, (0, 0), false, []),
  (50, .aload_n 0, 0, [], 0, 0, (0, 0), true, [2]),
  (51, .getfield 24, 2, [5, 2, 12, 2], 0, 0, (0, 0), false, []),
  (54, .getfield 150, 2, [2, 3, 15, 2], 0, 0, (0, 0), false, []),
  (57, .iload_n 1, 0, [], 0, 0, (0, 0), false, []),
  (58, .iaload, 3, [0], 0, 0, (0, 0), false, []),
  (59, .ireturn, 5, [0], 0, 0, (0, 0), false, []),
  (60, .aload_n 0, 0, [], 0, 0, (0, 0), true, [2]),
  (61, .getfield 24, 2, [5, 2, 12, 2], 0, 0, (0, 0), false, []),
  (64, .iload_n 1, 0, [], 0, 0, (0, 0), false, []),
  (65, .invokevirtual 153, 6, [0, 3, 2, 1, 0, 2], 0, 0, (0, 0), false, []),
  (68, .ireturn, 5, [0], 0, 0, (0, 0), false, []),
  (69, .aload_n 0, 0, [], 0, 0, (0, 0), true, [2]),
  (70, .getfield 24, 2, [5, 2, 12, 2], 0, 0, (0, 0), false, []),
  (73, .iload_n 1, 0, [], 0, 0, (0, 0), false, []),
  (74, .invokevirtual 156, 6, [0, 2, 2, 1, 0, 2], 0, 0, (0, 0), false, []),
  (77, .ireturn, 5, [0], 0, 0, (0, 0), false, []),
  (78, .aload_n 0, 0, [], 0, 0, (0, 0), true, [2]),
  (79, .getfield 24, 2, [5, 2, 12, 2], 0, 0, (0, 0), false, []),
  (82, .iload_n 1, 0, [], 0, 0, (0, 0), false, []),
  (83, .invokevirtual 159, 6, [0, 1, 2, 1, 0, 2], 0, 0, (0, 0), false, []),
  (86, .ireturn, 5, [0], 0, 0, (0, 0), false, []),
  (87, .new 81, 7, [1, 13, 81, 142, 84, 0], 0, 0, (0, 0), true, [0, 1, 2])]
def eX5_room : List zm_M := [mX5_needRoom, mX2_placeOf, mX2_doorsInto, mX2_doorsFrom]
noncomputable def vX5_room : List (zm_M × zm_S) := [(mX5_needRoom, sX5_needRoom), (mX2_placeOf, sX2_placeOf), (mX2_doorsInto, sX2_doorsInto), (mX2_doorsFrom, sX2_doorsFrom)]
noncomputable def sX5_room : zm_S := zsem vX5_room rX5_room 3
set_option maxRecDepth 100000 in
theorem aX5_room : zall RX5 mX5_room eX5_room rX5_room = true := by decide +kernel
set_option maxRecDepth 100000 in
theorem wX5_room : ∀ w ∈ zwds RX5 mX5_room eX5_room rX5_room, w ∈ gT := zwd_of [609, 611, 25, 114, 612, 288, 176, 288, 179, 288, 897, 898, 899, 116, 900, 288, 901, 902, 903, 116, 904, 288, 905, 906, 907, 116, 908] (by decide +kernel) (by decide +kernel) (z7_of (L := [(87, .new 81, 7, [1, 13, 81, 142, 84, 0], 0, 0, (0, 0), true, [0, 1, 2])]) rfl (List.forall_mem_cons.mpr ⟨zw7 (x := 1) rfl (gT_in (List.mem_of_getElem? (i := 864) (by decide +kernel)) (by decide +kernel)) (gT_in (List.mem_of_getElem? (i := 124) (by decide +kernel)) (by decide +kernel)) zw7_1, fun _ h => absurd h List.not_mem_nil⟩))
set_option maxRecDepth 100000 in
theorem xX5_room : ∀ w ∈ zwxs RX5 mX5_room eX5_room rX5_room, zspc w = true ∧ w ∈ lw_tbl := by decide +kernel
theorem tX5_room {l : Launch} (hlt : l.stackTraces = false) : MetA l mX5_room sX5_room := zmet (M := mX5_room) (own := RX5) (envM := eX5_room) hlt rfl (by decide +kernel) (by decide +kernel) rfl (fun j q hq => by
  match j, hq with
  | 0, hq => cases hq; exact tX5_needRoom hlt
  | 1, hq => cases hq; exact tX2_placeOf hlt
  | 2, hq => cases hq; exact tX2_doorsInto hlt
  | 3, hq => cases hq; exact tX2_doorsFrom hlt
  | n + 4, hq => cases hq) aX5_room wX5_room xX5_room rfl
def mX5_needDoor : zm_M := (yX5_needDoor, cX5_needDoor, 2, none, (6, 0, 0, 120), 1, [], (1, 6))
def rX5_needDoor : List zm_R := [(0, .iload_n 1, 0, [], 0, 0, (0, 0), false, []),
  (1, .ifCond .lt 14, 1, [7], 0, 0, (0, 0), false, []),
  (4, .iload_n 1, 0, [], 0, 0, (0, 0), false, []),
  (5, .aload_n 0, 0, [], 0, 0, (0, 0), false, []),
  (6, .getfield 24, 2, [5, 2, 12, 2], 0, 0, (0, 0), false, []),
  (9, .getfield 118, 2, [2, 4, 15, 0], 0, 0, (0, 0), false, []),
  (12, .if_icmp .lt 14, 1, [8], 0, 0, (0, 0), false, []),
  (15, .new 377, 7, [2, 10, 377, 384, 381, 1], 0, 0, (0, 0), false, []),
  (26, .return_, 5, [], 0, 0, (0, 0), false, [])]
def eX5_needDoor : List zm_M := []
noncomputable def vX5_needDoor : List (zm_M × zm_S) := []
noncomputable def sX5_needDoor : zm_S := zsem vX5_needDoor rX5_needDoor 2
set_option maxRecDepth 100000 in
theorem aX5_needDoor : zall RX5 mX5_needDoor eX5_needDoor rX5_needDoor = true := by decide +kernel
set_option maxRecDepth 100000 in
theorem wX5_needDoor : ∀ w ∈ zwds RX5 mX5_needDoor eX5_needDoor rX5_needDoor, w ∈ gT := zwd_of [288, 182] (by decide +kernel) (by decide +kernel) (z7_of (L := [(15, .new 377, 7, [2, 10, 377, 384, 381, 1], 0, 0, (0, 0), false, [])]) rfl (List.forall_mem_cons.mpr ⟨zw7 (x := 2) rfl (gT_in (List.mem_of_getElem? (i := 613) (by decide +kernel)) (by decide +kernel)) (gT_in (List.mem_of_getElem? (i := 132) (by decide +kernel)) (by decide +kernel)) zw7_2, fun _ h => absurd h List.not_mem_nil⟩))
set_option maxRecDepth 100000 in
theorem xX5_needDoor : ∀ w ∈ zwxs RX5 mX5_needDoor eX5_needDoor rX5_needDoor, zspc w = true ∧ w ∈ lw_tbl := by decide +kernel
theorem tX5_needDoor {l : Launch} (hlt : l.stackTraces = false) : MetA l mX5_needDoor sX5_needDoor := zmet (M := mX5_needDoor) (own := RX5) (envM := eX5_needDoor) hlt rfl (by decide +kernel) (by decide +kernel) rfl (fun j q hq => by cases hq) aX5_needDoor wX5_needDoor xX5_needDoor rfl
def mX5_door : zm_M := (yX5_door, cX5_door, 3, (some .int), (7, 0, 0, 141), 2, [], (1, 6))
def rX5_door : List zm_R := [(0, .aload_n 0, 0, [], 0, 0, (0, 0), false, []),
  (1, .iload_n 1, 0, [], 0, 0, (0, 0), false, []),
  (2, .invokevirtual 162, 6, [0, 0, 2, 0, 1, 5], 0, 0, (0, 0), false, []),
  (5, .iload_n 2, 0, [], 0, 0, (0, 0), false, []),
  (6, .tableswitch 123 0 5 #[38, 48, 58, 68, 78, 96], 1, [52, 5, 11, 17, 23, 29, 39], 0, 0, (0, 0), true, [2]),
  (44, .aload_n 0, 0, [], 0, 0, (0, 0), true, [2]),
  (45, .getfield 24, 2, [5, 2, 12, 2], 0, 0, (0, 0), false, []),
  (48, .getfield 165, 2, [2, 5, 15, 2], 0, 0, (0, 0), false, []),
  (51, .iload_n 1, 0, [], 0, 0, (0, 0), false, []),
  (52, .iaload, 3, [0], 0, 0, (0, 0), false, []),
  (53, .ireturn, 5, [0], 0, 0, (0, 0), false, []),
  (54, .aload_n 0, 0, [], 0, 0, (0, 0), true, [2]),
  (55, .getfield 24, 2, [5, 2, 12, 2], 0, 0, (0, 0), false, []),
  (58, .getfield 168, 2, [2, 6, 15, 2], 0, 0, (0, 0), false, []),
  (61, .iload_n 1, 0, [], 0, 0, (0, 0), false, []),
  (62, .iaload, 3, [0], 0, 0, (0, 0), false, []),
  (63, .ireturn, 5, [0], 0, 0, (0, 0), false, []),
  (64, .aload_n 0, 0, [], 0, 0, (0, 0), true, [2]),
  (65, .getfield 24, 2, [5, 2, 12, 2], 0, 0, (0, 0), false, []),
  (68, .getfield 171, 2, [2, 7, 15, 2], 0, 0, (0, 0), false, []),
  (71, .iload_n 1, 0, [], 0, 0, (0, 0), false, []),
  (72, .iaload, 3, [0], 0, 0, (0, 0), false, []),
  (73, .ireturn, 5, [0], 0, 0, (0, 0), false, []),
  (74, .aload_n 0, 0, [], 0, 0, (0, 0), true, [2]),
  (75, .getfield 24, 2, [5, 2, 12, 2], 0, 0, (0, 0), false, []),
  (78, .getfield 174, 2, [2, 8, 15, 2], 0, 0, (0, 0), false, []),
  (81, .iload_n 1, 0, [], 0, 0, (0, 0), false, []),
  (82, .iaload, 3, [0], 0, 0, (0, 0), false, []),
  (83, .ireturn, 5, [0], 0, 0, (0, 0), false, []),
  (84, .aload_n 0, 0, [], 0, 0, (0, 0), true, [2]),
  (85, .getfield 24, 2, [5, 2, 12, 2], 0, 0, (0, 0), false, []),
  (88, .getfield 177, 2, [2, 9, 15, 2], 0, 0, (0, 0), false, []),
  (91, .iload_n 1, 0, [], 0, 0, (0, 0), false, []),
  (92, .baload, 3, [3], 0, 0, (0, 0), false, []),
  (93, .ifCond .eq 7, 1, [37], 0, 0, (0, 0), false, []),
  (96, .iconst 1, 0, [], 1, 0, (0, 0), false, []),
  (97, .goto 4, 1, [38], 0, 0, (0, 0), false, []),
  (100, .iconst 0, 0, [], 0, 0, (0, 0), false, []),
  (101, .ireturn, 5, [0], 0, 0, (0, 0), false, []),
  (102, .aload_n 0, 0, [], 0, 0, (0, 0), true, [2]),
  (103, .getfield 24, 2, [5, 2, 12, 2], 0, 0, (0, 0), false, []),
  (106, .aload_n 0, 0, [], 0, 0, (0, 0), false, []),
  (107, .getfield 24, 2, [5, 2, 12, 2], 0, 0, (0, 0), false, []),
  (110, .invokevirtual 132, 6, [0, 1, 1, 1, 0, 2], 0, 0, (0, 0), false, []),
  (113, .invokevirtual 180, 6, [0, 2, 2, 1, 0, 2], 0, 0, (0, 0), false, []),
  (116, .iload_n 1, 0, [], 0, 0, (0, 0), false, []),
  (117, .invokestatic 183, 6, [1, 3, 2, 1, 0, 5], 0, 0, (0, 0), false, []),
  (120, .ifCond .eq 7, 1, [50], 0, 0, (0, 0), false, []),
  (123, .iconst 1, 0, [], 1, 0, (0, 0), false, []),
  (124, .goto 4, 1, [51], 0, 0, (0, 0), false, []),
  (127, .iconst 0, 0, [], 0, 0, (0, 0), false, []),
  (128, .ireturn, 5, [0], 0, 0, (0, 0), false, []),
  (129, .new 81, 7, [1, 13, 81, 142, 84, 0], 0, 0, (0, 0), true, [0, 1, 2])]
def eX5_door : List zm_M := [mX5_needDoor, mX2_walkSet, mX2_openDoors, mX5_has]
noncomputable def vX5_door : List (zm_M × zm_S) := [(mX5_needDoor, sX5_needDoor), (mX2_walkSet, sX2_walkSet), (mX2_openDoors, sX2_openDoors), (mX5_has, sX5_has)]
noncomputable def sX5_door : zm_S := zsem vX5_door rX5_door 3
set_option maxRecDepth 100000 in
theorem aX5_door : zall RX5 mX5_door eX5_door rX5_door = true := by decide +kernel
set_option maxRecDepth 100000 in
theorem wX5_door : ∀ w ∈ zwds RX5 mX5_door eX5_door rX5_door, w ∈ gT := zwd_of [769, 771, 28, 114, 772, 288, 184, 288, 186, 288, 188, 288, 190, 288, 193, 288, 288, 523, 524, 525, 116, 526, 916, 917, 918, 116, 919, 683, 435, 114, 436] (by decide +kernel) (by decide +kernel) (z7_of (L := [(129, .new 81, 7, [1, 13, 81, 142, 84, 0], 0, 0, (0, 0), true, [0, 1, 2])]) rfl (List.forall_mem_cons.mpr ⟨zw7 (x := 1) rfl (gT_in (List.mem_of_getElem? (i := 864) (by decide +kernel)) (by decide +kernel)) (gT_in (List.mem_of_getElem? (i := 124) (by decide +kernel)) (by decide +kernel)) zw7_1, fun _ h => absurd h List.not_mem_nil⟩))
set_option maxRecDepth 100000 in
theorem xX5_door : ∀ w ∈ zwxs RX5 mX5_door eX5_door rX5_door, zspc w = true ∧ w ∈ lw_tbl := by decide +kernel
theorem tX5_door {l : Launch} (hlt : l.stackTraces = false) : MetA l mX5_door sX5_door := zmet (M := mX5_door) (own := RX5) (envM := eX5_door) hlt rfl (by decide +kernel) (by decide +kernel) rfl (fun j q hq => by
  match j, hq with
  | 0, hq => cases hq; exact tX5_needDoor hlt
  | 1, hq => cases hq; exact tX2_walkSet hlt
  | 2, hq => cases hq; exact tX2_openDoors hlt
  | 3, hq => cases hq; exact tX5_has hlt
  | n + 4, hq => cases hq) aX5_door wX5_door xX5_door rfl
def mX5_walked : zm_M := (yX5_walked, cX5_walked, 2, (some .int), (6, 0, 0, 120), 1, [], (1, 6))
def rX5_walked : List zm_R := [(0, .iload_n 1, 0, [], 0, 0, (0, 0), false, []),
  (1, .ifCond .lt 14, 1, [7], 0, 0, (0, 0), false, []),
  (4, .iload_n 1, 0, [], 0, 0, (0, 0), false, []),
  (5, .aload_n 0, 0, [], 0, 0, (0, 0), false, []),
  (6, .getfield 24, 2, [5, 2, 12, 2], 0, 0, (0, 0), false, []),
  (9, .getfield 127, 2, [2, 13, 15, 0], 0, 0, (0, 0), false, []),
  (12, .if_icmp .lt 13, 1, [8], 0, 0, (0, 0), false, []),
  (15, .new 187, 7, [3, 14, 187, 189, 191, 0], 0, 0, (0, 0), false, []),
  (25, .aload_n 0, 0, [], 0, 0, (0, 0), false, []),
  (26, .getfield 24, 2, [5, 2, 12, 2], 0, 0, (0, 0), false, []),
  (29, .getfield 192, 2, [2, 12, 15, 2], 0, 0, (0, 0), false, []),
  (32, .iload_n 1, 0, [], 0, 0, (0, 0), false, []),
  (33, .iaload, 3, [0], 0, 0, (0, 0), false, []),
  (34, .ireturn, 5, [0], 0, 0, (0, 0), false, [])]
def eX5_walked : List zm_M := []
noncomputable def vX5_walked : List (zm_M × zm_S) := []
noncomputable def sX5_walked : zm_S := zsem vX5_walked rX5_walked 2
set_option maxRecDepth 100000 in
theorem aX5_walked : zall RX5 mX5_walked eX5_walked rX5_walked = true := by decide +kernel
set_option maxRecDepth 100000 in
theorem wX5_walked : ∀ w ∈ zwds RX5 mX5_walked eX5_walked rX5_walked, w ∈ gT := zwd_of [288, 202, 288, 200] (by decide +kernel) (by decide +kernel) (z7_of (L := [(15, .new 187, 7, [3, 14, 187, 189, 191, 0], 0, 0, (0, 0), false, [])]) rfl (List.forall_mem_cons.mpr ⟨zw7 (x := 3) rfl (gT_in (List.mem_of_getElem? (i := 928) (by decide +kernel)) (by decide +kernel)) (gT_in (List.mem_of_getElem? (i := 133) (by decide +kernel)) (by decide +kernel)) zw7_3, fun _ h => absurd h List.not_mem_nil⟩))
set_option maxRecDepth 100000 in
theorem xX5_walked : ∀ w ∈ zwxs RX5 mX5_walked eX5_walked rX5_walked, zspc w = true ∧ w ∈ lw_tbl := by decide +kernel
theorem tX5_walked {l : Launch} (hlt : l.stackTraces = false) : MetA l mX5_walked sX5_walked := zmet (M := mX5_walked) (own := RX5) (envM := eX5_walked) hlt rfl (by decide +kernel) (by decide +kernel) rfl (fun j q hq => by cases hq) aX5_walked wX5_walked xX5_walked rfl
def mX5_needKey : zm_M := (yX5_needKey, cX5_needKey, 1, none, (6, 0, 0, 120), 1, [], (1, 6))
def rX5_needKey : List zm_R := [(0, .iload_n 0, 0, [], 0, 0, (0, 0), false, []),
  (1, .ifCond .lt 9, 1, [5], 0, 0, (0, 0), false, []),
  (4, .iload_n 0, 0, [], 0, 0, (0, 0), false, []),
  (5, .bipush 8, 0, [], 8, 0, (0, 0), false, []),
  (7, .if_icmp .lt 14, 1, [6], 0, 0, (0, 0), false, []),
  (10, .new 377, 7, [2, 9, 377, 386, 381, 1], 0, 0, (0, 0), false, []),
  (21, .return_, 5, [], 0, 0, (0, 0), false, [])]
def eX5_needKey : List zm_M := []
noncomputable def vX5_needKey : List (zm_M × zm_S) := []
noncomputable def sX5_needKey : zm_S := zsem vX5_needKey rX5_needKey 1
set_option maxRecDepth 100000 in
theorem aX5_needKey : zall RX5 mX5_needKey eX5_needKey rX5_needKey = true := by decide +kernel
set_option maxRecDepth 100000 in
theorem wX5_needKey : ∀ w ∈ zwds RX5 mX5_needKey eX5_needKey rX5_needKey, w ∈ gT := zwd_of [] (by decide +kernel) (by decide +kernel) (z7_of (L := [(10, .new 377, 7, [2, 9, 377, 386, 381, 1], 0, 0, (0, 0), false, [])]) rfl (List.forall_mem_cons.mpr ⟨zw7 (x := 2) rfl (gT_in (List.mem_of_getElem? (i := 613) (by decide +kernel)) (by decide +kernel)) (gT_in (List.mem_of_getElem? (i := 132) (by decide +kernel)) (by decide +kernel)) zw7_2, fun _ h => absurd h List.not_mem_nil⟩))
set_option maxRecDepth 100000 in
theorem xX5_needKey : ∀ w ∈ zwxs RX5 mX5_needKey eX5_needKey rX5_needKey, zspc w = true ∧ w ∈ lw_tbl := by decide +kernel
theorem tX5_needKey {l : Launch} (hlt : l.stackTraces = false) : MetA l mX5_needKey sX5_needKey := zmet (M := mX5_needKey) (own := RX5) (envM := eX5_needKey) hlt rfl (by decide +kernel) (by decide +kernel) rfl (fun j q hq => by cases hq) aX5_needKey wX5_needKey xX5_needKey rfl
def mX5_foundAt : zm_M := (yX5_foundAt, cX5_foundAt, 3, (some .int), (7, 0, 0, 140), 1, [], (1, 6))
def rX5_foundAt : List zm_R := [(0, .iload_n 1, 0, [], 0, 0, (0, 0), false, []),
  (1, .invokestatic 195, 6, [1, 0, 1, 0, 1, 5], 0, 0, (0, 0), false, []),
  (4, .iconst 0, 0, [], 0, 0, (0, 0), false, []),
  (5, .istore_n 2, 0, [], 0, 0, (0, 0), false, []),
  (6, .iload_n 2, 0, [], 0, 0, (0, 0), true, []),
  (7, .aload_n 0, 0, [], 0, 0, (0, 0), false, []),
  (8, .getfield 24, 2, [5, 2, 12, 2], 0, 0, (0, 0), false, []),
  (11, .getfield 127, 2, [2, 13, 15, 0], 0, 0, (0, 0), false, []),
  (14, .if_icmp .ge 35, 1, [25], 0, 0, (0, 0), false, []),
  (17, .aload_n 0, 0, [], 0, 0, (0, 0), false, []),
  (18, .getfield 24, 2, [5, 2, 12, 2], 0, 0, (0, 0), false, []),
  (21, .getfield 147, 2, [2, 2, 15, 2], 0, 0, (0, 0), false, []),
  (24, .aload_n 0, 0, [], 0, 0, (0, 0), false, []),
  (25, .getfield 24, 2, [5, 2, 12, 2], 0, 0, (0, 0), false, []),
  (28, .getfield 192, 2, [2, 12, 15, 2], 0, 0, (0, 0), false, []),
  (31, .iload_n 2, 0, [], 0, 0, (0, 0), false, []),
  (32, .iaload, 3, [0], 0, 0, (0, 0), false, []),
  (33, .iaload, 3, [0], 0, 0, (0, 0), false, []),
  (34, .iload_n 1, 0, [], 0, 0, (0, 0), false, []),
  (35, .invokestatic 183, 6, [1, 1, 2, 1, 0, 5], 0, 0, (0, 0), false, []),
  (38, .ifCond .eq 5, 1, [23], 0, 0, (0, 0), false, []),
  (41, .iload_n 2, 0, [], 0, 0, (0, 0), false, []),
  (42, .ireturn, 5, [0], 0, 0, (0, 0), false, []),
  (43, .iinc 2 1, 0, [], 1, 0, (0, 0), false, []),
  (46, .goto (-40), 1, [4], 0, 0, (0, 0), false, []),
  (49, .iconst (-1), 0, [], (-1), 0, (0, 0), false, []),
  (50, .ireturn, 5, [0], 0, 0, (0, 0), false, [])]
def eX5_foundAt : List zm_M := [mX5_needKey, mX5_has]
noncomputable def vX5_foundAt : List (zm_M × zm_S) := [(mX5_needKey, sX5_needKey), (mX5_has, sX5_has)]
noncomputable def sX5_foundAt : zm_S := zsem vX5_foundAt rX5_foundAt 3
set_option maxRecDepth 100000 in
theorem aX5_foundAt : zall RX5 mX5_foundAt eX5_foundAt rX5_foundAt = true := by decide +kernel
set_option maxRecDepth 100000 in
theorem wX5_foundAt : ∀ w ∈ zwds RX5 mX5_foundAt eX5_foundAt rX5_foundAt, w ∈ gT := zwd_of [757, 758, 114, 759, 288, 202, 288, 176, 288, 200, 683, 435, 114, 436] (by decide +kernel) (by decide +kernel) (z7_no (by decide +kernel))
set_option maxRecDepth 100000 in
theorem xX5_foundAt : ∀ w ∈ zwxs RX5 mX5_foundAt eX5_foundAt rX5_foundAt, zspc w = true ∧ w ∈ lw_tbl := by decide +kernel
theorem tX5_foundAt {l : Launch} (hlt : l.stackTraces = false) : MetA l mX5_foundAt sX5_foundAt := zmet (M := mX5_foundAt) (own := RX5) (envM := eX5_foundAt) hlt rfl (by decide +kernel) (by decide +kernel) rfl (fun j q hq => by
  match j, hq with
  | 0, hq => cases hq; exact tX5_needKey hlt
  | 1, hq => cases hq; exact tX5_has hlt
  | n + 2, hq => cases hq) aX5_foundAt wX5_foundAt xX5_foundAt rfl
def mX5_why : zm_M := (yX5_why, cX5_why, 3, (some .int), (7, 0, 0, 141), 1, [], (1, 6))
def rX5_why : List zm_R := [(0, .aload_n 0, 0, [], 0, 0, (0, 0), false, []),
  (1, .iload_n 1, 0, [], 0, 0, (0, 0), false, []),
  (2, .invokevirtual 144, 6, [0, 0, 2, 0, 1, 5], 0, 0, (0, 0), false, []),
  (5, .aload_n 0, 0, [], 0, 0, (0, 0), false, []),
  (6, .getfield 24, 2, [5, 2, 12, 2], 0, 0, (0, 0), false, []),
  (9, .iload_n 1, 0, [], 0, 0, (0, 0), false, []),
  (10, .invokevirtual 159, 6, [0, 1, 2, 1, 0, 2], 0, 0, (0, 0), false, []),
  (13, .iconst (-1), 0, [], (-1), 0, (0, 0), false, []),
  (14, .if_icmp .eq 5, 1, [11], 0, 0, (0, 0), false, []),
  (17, .iconst 1, 0, [], 1, 0, (0, 0), false, []),
  (18, .ireturn, 5, [0], 0, 0, (0, 0), false, []),
  (19, .aload_n 0, 0, [], 0, 0, (0, 0), false, []),
  (20, .getfield 24, 2, [5, 2, 12, 2], 0, 0, (0, 0), false, []),
  (23, .aload_n 0, 0, [], 0, 0, (0, 0), false, []),
  (24, .getfield 24, 2, [5, 2, 12, 2], 0, 0, (0, 0), false, []),
  (27, .invokevirtual 128, 6, [0, 2, 1, 1, 0, 2], 0, 0, (0, 0), false, []),
  (30, .invokevirtual 153, 6, [0, 3, 2, 1, 0, 2], 0, 0, (0, 0), false, []),
  (33, .aload_n 0, 0, [], 0, 0, (0, 0), false, []),
  (34, .getfield 24, 2, [5, 2, 12, 2], 0, 0, (0, 0), false, []),
  (37, .iload_n 1, 0, [], 0, 0, (0, 0), false, []),
  (38, .invokevirtual 156, 6, [0, 4, 2, 1, 0, 2], 0, 0, (0, 0), false, []),
  (41, .iand, 0, [], 0, 0, (0, 0), false, []),
  (42, .istore_n 2, 0, [], 0, 0, (0, 0), false, []),
  (43, .iload_n 2, 0, [], 0, 0, (0, 0), false, []),
  (44, .ifCond .ne 5, 1, [27], 0, 0, (0, 0), false, []),
  (47, .iconst 2, 0, [], 2, 0, (0, 0), false, []),
  (48, .ireturn, 5, [0], 0, 0, (0, 0), false, []),
  (49, .iload_n 2, 0, [], 0, 0, (0, 0), false, []),
  (50, .aload_n 0, 0, [], 0, 0, (0, 0), false, []),
  (51, .getfield 24, 2, [5, 2, 12, 2], 0, 0, (0, 0), false, []),
  (54, .aload_n 0, 0, [], 0, 0, (0, 0), false, []),
  (55, .getfield 24, 2, [5, 2, 12, 2], 0, 0, (0, 0), false, []),
  (58, .invokevirtual 132, 6, [0, 5, 1, 1, 0, 2], 0, 0, (0, 0), false, []),
  (61, .invokevirtual 180, 6, [0, 6, 2, 1, 0, 2], 0, 0, (0, 0), false, []),
  (64, .iand, 0, [], 0, 0, (0, 0), false, []),
  (65, .ifCond .eq 5, 1, [38], 0, 0, (0, 0), false, []),
  (68, .iconst 0, 0, [], 0, 0, (0, 0), false, []),
  (69, .ireturn, 5, [0], 0, 0, (0, 0), false, []),
  (70, .aload_n 0, 0, [], 0, 0, (0, 0), false, []),
  (71, .getfield 24, 2, [5, 2, 12, 2], 0, 0, (0, 0), false, []),
  (74, .iload_n 2, 0, [], 0, 0, (0, 0), false, []),
  (75, .invokevirtual 198, 6, [0, 7, 2, 1, 0, 2], 0, 0, (0, 0), false, []),
  (78, .ifCond .eq 7, 1, [45], 0, 0, (0, 0), false, []),
  (81, .iconst 4, 0, [], 4, 0, (0, 0), false, []),
  (82, .goto 4, 1, [46], 0, 0, (0, 0), false, []),
  (85, .iconst 3, 0, [], 3, 0, (0, 0), false, []),
  (86, .ireturn, 5, [0], 0, 0, (0, 0), false, [])]
def eX5_why : List zm_M := [mX5_needRoom, mX2_placeOf, mX2_lastRoom, mX2_doorsFrom, mX2_doorsInto, mX2_walkSet, mX2_openDoors, mX2_anyToll]
noncomputable def vX5_why : List (zm_M × zm_S) := [(mX5_needRoom, sX5_needRoom), (mX2_placeOf, sX2_placeOf), (mX2_lastRoom, sX2_lastRoom), (mX2_doorsFrom, sX2_doorsFrom), (mX2_doorsInto, sX2_doorsInto), (mX2_walkSet, sX2_walkSet), (mX2_openDoors, sX2_openDoors), (mX2_anyToll, sX2_anyToll)]
noncomputable def sX5_why : zm_S := zsem vX5_why rX5_why 3
set_option maxRecDepth 100000 in
theorem aX5_why : zall RX5 mX5_why eX5_why rX5_why = true := by decide +kernel
set_option maxRecDepth 100000 in
theorem wX5_why : ∀ w ∈ zwds RX5 mX5_why eX5_why rX5_why, w ∈ gT := zwd_of [609, 611, 25, 114, 612, 288, 905, 906, 907, 116, 908, 288, 288, 547, 548, 549, 116, 550, 897, 898, 899, 116, 900, 288, 901, 902, 903, 116, 904, 288, 288, 523, 524, 525, 116, 526, 916, 917, 918, 116, 919, 288, 958, 959, 960, 116, 961] (by decide +kernel) (by decide +kernel) (z7_no (by decide +kernel))
set_option maxRecDepth 100000 in
theorem xX5_why : ∀ w ∈ zwxs RX5 mX5_why eX5_why rX5_why, zspc w = true ∧ w ∈ lw_tbl := by decide +kernel
theorem tX5_why {l : Launch} (hlt : l.stackTraces = false) : MetA l mX5_why sX5_why := zmet (M := mX5_why) (own := RX5) (envM := eX5_why) hlt rfl (by decide +kernel) (by decide +kernel) rfl (fun j q hq => by
  match j, hq with
  | 0, hq => cases hq; exact tX5_needRoom hlt
  | 1, hq => cases hq; exact tX2_placeOf hlt
  | 2, hq => cases hq; exact tX2_lastRoom hlt
  | 3, hq => cases hq; exact tX2_doorsFrom hlt
  | 4, hq => cases hq; exact tX2_doorsInto hlt
  | 5, hq => cases hq; exact tX2_walkSet hlt
  | 6, hq => cases hq; exact tX2_openDoors hlt
  | 7, hq => cases hq; exact tX2_anyToll hlt
  | n + 8, hq => cases hq) aX5_why wX5_why xX5_why rfl
def mX5_exits : zm_M := (yX5_exits, cX5_exits, 2, (some .int), (3, 0, 0, 68), 0, [], (0, 0))
def rX5_exits : List zm_R := [(0, .aload_n 0, 0, [], 0, 0, (0, 0), false, []),
  (1, .getfield 24, 2, [5, 2, 12, 2], 0, 0, (0, 0), false, []),
  (4, .invokevirtual 132, 6, [0, 0, 1, 1, 0, 2], 0, 0, (0, 0), false, []),
  (7, .istore_n 1, 0, [], 0, 0, (0, 0), false, []),
  (8, .aload_n 0, 0, [], 0, 0, (0, 0), false, []),
  (9, .getfield 24, 2, [5, 2, 12, 2], 0, 0, (0, 0), false, []),
  (12, .iload_n 1, 0, [], 0, 0, (0, 0), false, []),
  (13, .invokevirtual 202, 6, [0, 1, 2, 3, 0, 2], 0, 0, (0, 0), false, []),
  (16, .aload_n 0, 0, [], 0, 0, (0, 0), false, []),
  (17, .getfield 24, 2, [5, 2, 12, 2], 0, 0, (0, 0), false, []),
  (20, .invokevirtual 128, 6, [0, 2, 1, 1, 0, 2], 0, 0, (0, 0), false, []),
  (23, .iaload, 3, [0], 0, 0, (0, 0), false, []),
  (24, .iload_n 1, 0, [], 0, 0, (0, 0), false, []),
  (25, .iconst (-1), 0, [], (-1), 0, (0, 0), false, []),
  (26, .ixor, 0, [], 0, 0, (0, 0), false, []),
  (27, .iand, 0, [], 0, 0, (0, 0), false, []),
  (28, .ireturn, 5, [0], 0, 0, (0, 0), false, [])]
def eX5_exits : List zm_M := [mX2_walkSet, mX2_leads, mX2_lastRoom]
noncomputable def vX5_exits : List (zm_M × zm_S) := [(mX2_walkSet, sX2_walkSet), (mX2_leads, sX2_leads), (mX2_lastRoom, sX2_lastRoom)]
noncomputable def sX5_exits : zm_S := zsem vX5_exits rX5_exits 2
set_option maxRecDepth 100000 in
theorem aX5_exits : zall RX5 mX5_exits eX5_exits rX5_exits = true := by decide +kernel
set_option maxRecDepth 100000 in
theorem wX5_exits : ∀ w ∈ zwds RX5 mX5_exits eX5_exits rX5_exits, w ∈ gT := zwd_of [288, 523, 524, 525, 116, 526, 288, 527, 528, 529, 116, 530, 288, 547, 548, 549, 116, 550] (by decide +kernel) (by decide +kernel) (z7_no (by decide +kernel))
set_option maxRecDepth 100000 in
theorem xX5_exits : ∀ w ∈ zwxs RX5 mX5_exits eX5_exits rX5_exits, zspc w = true ∧ w ∈ lw_tbl := by decide +kernel
theorem tX5_exits {l : Launch} (hlt : l.stackTraces = false) : MetA l mX5_exits sX5_exits := zmet (M := mX5_exits) (own := RX5) (envM := eX5_exits) hlt rfl (by decide +kernel) (by decide +kernel) rfl (fun j q hq => by
  match j, hq with
  | 0, hq => cases hq; exact tX2_walkSet hlt
  | 1, hq => cases hq; exact tX2_leads hlt
  | 2, hq => cases hq; exact tX2_lastRoom hlt
  | n + 3, hq => cases hq) aX5_exits wX5_exits xX5_exits rfl
def mX5_solved : zm_M := (yX5_solved, cX5_solved, 1, (some (.object "KeyTour$Tables")), (4, 0, 0, 96), 0, [], (0, 0))
def rX5_solved : List zm_R := [(0, .aload_n 0, 0, [], 0, 0, (0, 0), false, []),
  (1, .getfield 53, 2, [5, 8, 12, 3], 0, 0, (0, 0), false, []),
  (4, .ifCond .eq 42, 1, [22], 0, 0, (0, 0), false, []),
  (7, .aload_n 0, 0, [], 0, 0, (0, 0), false, []),
  (8, .getfield 49, 2, [5, 7, 12, 2], 0, 0, (0, 0), false, []),
  (11, .aload_n 0, 0, [], 0, 0, (0, 0), false, []),
  (12, .getfield 24, 2, [5, 2, 12, 2], 0, 0, (0, 0), false, []),
  (15, .iconst 1, 0, [], 1, 0, (0, 0), false, []),
  (16, .aload_n 0, 0, [], 0, 0, (0, 0), false, []),
  (17, .getfield 24, 2, [5, 2, 12, 2], 0, 0, (0, 0), false, []),
  (20, .getfield 121, 2, [2, 10, 15, 0], 0, 0, (0, 0), false, []),
  (23, .ishl, 0, [], 0, 0, (0, 0), false, []),
  (24, .aload_n 0, 0, [], 0, 0, (0, 0), false, []),
  (25, .getfield 24, 2, [5, 2, 12, 2], 0, 0, (0, 0), false, []),
  (28, .getfield 121, 2, [2, 10, 15, 0], 0, 0, (0, 0), false, []),
  (31, .invokevirtual 243, 6, [0, 0, 4, 0, 0, 4], 0, 0, (0, 0), false, []),
  (34, .aload_n 0, 0, [], 0, 0, (0, 0), false, []),
  (35, .getfield 49, 2, [5, 7, 12, 2], 0, 0, (0, 0), false, []),
  (38, .invokevirtual 397, 6, [0, 1, 1, 0, 0, 4], 0, 0, (0, 0), false, []),
  (41, .aload_n 0, 0, [], 0, 0, (0, 0), false, []),
  (42, .iconst 0, 0, [], 0, 0, (0, 0), false, []),
  (43, .putfield 53, 2, [5, 8, 12, 3], 0, 0, (0, 0), false, []),
  (46, .aload_n 0, 0, [], 0, 0, (0, 0), false, []),
  (47, .getfield 49, 2, [5, 7, 12, 2], 0, 0, (0, 0), false, []),
  (50, .areturn, 5, [], 0, 0, (0, 0), false, [])]
def eX5_solved : List zm_M := [mX4_spread, mX4_gather]
noncomputable def vX5_solved : List (zm_M × zm_S) := [(mX4_spread, sX4_spread), (mX4_gather, sX4_gather)]
noncomputable def sX5_solved : zm_S := zsem vX5_solved rX5_solved 1
set_option maxRecDepth 100000 in
theorem aX5_solved : zall RX5 mX5_solved eX5_solved rX5_solved = true := by decide +kernel
set_option maxRecDepth 100000 in
theorem wX5_solved : ∀ w ∈ zwds RX5 mX5_solved eX5_solved rX5_solved, w ∈ gT := zwd_of [294, 293, 288, 288, 195, 288, 195, 559, 560, 561, 118, 562, 293, 585, 586, 587, 118, 588, 294, 293] (by decide +kernel) (by decide +kernel) (z7_no (by decide +kernel))
set_option maxRecDepth 100000 in
theorem xX5_solved : ∀ w ∈ zwxs RX5 mX5_solved eX5_solved rX5_solved, zspc w = true ∧ w ∈ lw_tbl := by decide +kernel
theorem tX5_solved {l : Launch} (hlt : l.stackTraces = false) : MetA l mX5_solved sX5_solved := zmet (M := mX5_solved) (own := RX5) (envM := eX5_solved) hlt rfl (by decide +kernel) (by decide +kernel) rfl (fun j q hq => by
  match j, hq with
  | 0, hq => cases hq; exact tX4_spread hlt
  | 1, hq => cases hq; exact tX4_gather hlt
  | n + 2, hq => cases hq) aX5_solved wX5_solved xX5_solved rfl
def mX5_tours : zm_M := (yX5_tours, cX5_tours, 1, (some .long), (5, 0, 0, 116), 0, [], (0, 0))
def rX5_tours : List zm_R := [(0, .aload_n 0, 0, [], 0, 0, (0, 0), false, []),
  (1, .invokevirtual 206, 6, [0, 0, 1, 3, 0, 5], 0, 0, (0, 0), false, []),
  (4, .iconst 1, 0, [], 1, 0, (0, 0), false, []),
  (5, .aload_n 0, 0, [], 0, 0, (0, 0), false, []),
  (6, .getfield 24, 2, [5, 2, 12, 2], 0, 0, (0, 0), false, []),
  (9, .getfield 121, 2, [2, 10, 15, 0], 0, 0, (0, 0), false, []),
  (12, .ishl, 0, [], 0, 0, (0, 0), false, []),
  (13, .aload_n 0, 0, [], 0, 0, (0, 0), false, []),
  (14, .getfield 24, 2, [5, 2, 12, 2], 0, 0, (0, 0), false, []),
  (17, .getfield 121, 2, [2, 10, 15, 0], 0, 0, (0, 0), false, []),
  (20, .invokevirtual 210, 6, [0, 1, 3, 2, 0, 4], 0, 0, (0, 0), false, []),
  (23, .lreturn, 5, [], 0, 0, (0, 0), false, [])]
def eX5_tours : List zm_M := [mX5_solved, mX4_begun]
noncomputable def vX5_tours : List (zm_M × zm_S) := [(mX5_solved, sX5_solved), (mX4_begun, sX4_begun)]
noncomputable def sX5_tours : zm_S := zsem vX5_tours rX5_tours 1
set_option maxRecDepth 100000 in
theorem aX5_tours : zall RX5 mX5_tours eX5_tours rX5_tours = true := by decide +kernel
set_option maxRecDepth 100000 in
theorem wX5_tours : ∀ w ∈ zwds RX5 mX5_tours eX5_tours rX5_tours, w ∈ gT := zwd_of [555, 557, 21, 114, 558, 288, 195, 288, 195, 593, 594, 595, 118, 596] (by decide +kernel) (by decide +kernel) (z7_no (by decide +kernel))
set_option maxRecDepth 100000 in
theorem xX5_tours : ∀ w ∈ zwxs RX5 mX5_tours eX5_tours rX5_tours, zspc w = true ∧ w ∈ lw_tbl := by decide +kernel
theorem tX5_tours {l : Launch} (hlt : l.stackTraces = false) : MetA l mX5_tours sX5_tours := zmet (M := mX5_tours) (own := RX5) (envM := eX5_tours) hlt rfl (by decide +kernel) (by decide +kernel) rfl (fun j q hq => by
  match j, hq with
  | 0, hq => cases hq; exact tX5_solved hlt
  | 1, hq => cases hq; exact tX4_begun hlt
  | n + 2, hq => cases hq) aX5_tours wX5_tours xX5_tours rfl
def mX5_completions : zm_M := (yX5_completions, cX5_completions, 1, (some .long), (5, 0, 0, 116), 0, [], (0, 0))
def rX5_completions : List zm_R := [(0, .aload_n 0, 0, [], 0, 0, (0, 0), false, []),
  (1, .invokevirtual 206, 6, [0, 0, 1, 3, 0, 5], 0, 0, (0, 0), false, []),
  (4, .aload_n 0, 0, [], 0, 0, (0, 0), false, []),
  (5, .getfield 24, 2, [5, 2, 12, 2], 0, 0, (0, 0), false, []),
  (8, .invokevirtual 132, 6, [0, 1, 1, 1, 0, 2], 0, 0, (0, 0), false, []),
  (11, .aload_n 0, 0, [], 0, 0, (0, 0), false, []),
  (12, .getfield 24, 2, [5, 2, 12, 2], 0, 0, (0, 0), false, []),
  (15, .invokevirtual 128, 6, [0, 2, 1, 1, 0, 2], 0, 0, (0, 0), false, []),
  (18, .invokevirtual 210, 6, [0, 3, 3, 2, 0, 4], 0, 0, (0, 0), false, []),
  (21, .lreturn, 5, [], 0, 0, (0, 0), false, [])]
def eX5_completions : List zm_M := [mX5_solved, mX2_walkSet, mX2_lastRoom, mX4_begun]
noncomputable def vX5_completions : List (zm_M × zm_S) := [(mX5_solved, sX5_solved), (mX2_walkSet, sX2_walkSet), (mX2_lastRoom, sX2_lastRoom), (mX4_begun, sX4_begun)]
noncomputable def sX5_completions : zm_S := zsem vX5_completions rX5_completions 1
set_option maxRecDepth 100000 in
theorem aX5_completions : zall RX5 mX5_completions eX5_completions rX5_completions = true := by decide +kernel
set_option maxRecDepth 100000 in
theorem wX5_completions : ∀ w ∈ zwds RX5 mX5_completions eX5_completions rX5_completions, w ∈ gT := zwd_of [555, 557, 21, 114, 558, 288, 523, 524, 525, 116, 526, 288, 547, 548, 549, 116, 550, 593, 594, 595, 118, 596] (by decide +kernel) (by decide +kernel) (z7_no (by decide +kernel))
set_option maxRecDepth 100000 in
theorem xX5_completions : ∀ w ∈ zwxs RX5 mX5_completions eX5_completions rX5_completions, zspc w = true ∧ w ∈ lw_tbl := by decide +kernel
theorem tX5_completions {l : Launch} (hlt : l.stackTraces = false) : MetA l mX5_completions sX5_completions := zmet (M := mX5_completions) (own := RX5) (envM := eX5_completions) hlt rfl (by decide +kernel) (by decide +kernel) rfl (fun j q hq => by
  match j, hq with
  | 0, hq => cases hq; exact tX5_solved hlt
  | 1, hq => cases hq; exact tX2_walkSet hlt
  | 2, hq => cases hq; exact tX2_lastRoom hlt
  | 3, hq => cases hq; exact tX4_begun hlt
  | n + 4, hq => cases hq) aX5_completions wX5_completions xX5_completions rfl
def mX5_completionsBy : zm_M := (yX5_completionsBy, cX5_completionsBy, 2, (some .long), (7, 0, 0, 141), 1, [], (1, 6))
def rX5_completionsBy : List zm_R := [(0, .aload_n 0, 0, [], 0, 0, (0, 0), false, []),
  (1, .iload_n 1, 0, [], 0, 0, (0, 0), false, []),
  (2, .invokevirtual 144, 6, [0, 0, 2, 0, 1, 5], 0, 0, (0, 0), false, []),
  (5, .aload_n 0, 0, [], 0, 0, (0, 0), false, []),
  (6, .invokevirtual 214, 6, [0, 1, 1, 1, 0, 5], 0, 0, (0, 0), false, []),
  (9, .iload_n 1, 0, [], 0, 0, (0, 0), false, []),
  (10, .invokestatic 183, 6, [1, 2, 2, 1, 0, 5], 0, 0, (0, 0), false, []),
  (13, .ifCond .ne 5, 1, [10], 0, 0, (0, 0), false, []),
  (16, .lconst 0, 0, [], 0, 0, (0, 0), false, []),
  (17, .lreturn, 5, [], 0, 0, (0, 0), false, []),
  (18, .aload_n 0, 0, [], 0, 0, (0, 0), false, []),
  (19, .invokevirtual 206, 6, [0, 3, 1, 3, 0, 5], 0, 0, (0, 0), false, []),
  (22, .aload_n 0, 0, [], 0, 0, (0, 0), false, []),
  (23, .getfield 24, 2, [5, 2, 12, 2], 0, 0, (0, 0), false, []),
  (26, .invokevirtual 132, 6, [0, 4, 1, 1, 0, 2], 0, 0, (0, 0), false, []),
  (29, .iconst 1, 0, [], 1, 0, (0, 0), false, []),
  (30, .iload_n 1, 0, [], 0, 0, (0, 0), false, []),
  (31, .ishl, 0, [], 0, 0, (0, 0), false, []),
  (32, .ior, 0, [], 0, 0, (0, 0), false, []),
  (33, .iload_n 1, 0, [], 0, 0, (0, 0), false, []),
  (34, .invokevirtual 210, 6, [0, 5, 3, 2, 0, 4], 0, 0, (0, 0), false, []),
  (37, .lreturn, 5, [], 0, 0, (0, 0), false, [])]
def eX5_completionsBy : List zm_M := [mX5_needRoom, mX5_exits, mX5_has, mX5_solved, mX2_walkSet, mX4_begun]
noncomputable def vX5_completionsBy : List (zm_M × zm_S) := [(mX5_needRoom, sX5_needRoom), (mX5_exits, sX5_exits), (mX5_has, sX5_has), (mX5_solved, sX5_solved), (mX2_walkSet, sX2_walkSet), (mX4_begun, sX4_begun)]
noncomputable def sX5_completionsBy : zm_S := zsem vX5_completionsBy rX5_completionsBy 2
set_option maxRecDepth 100000 in
theorem aX5_completionsBy : zall RX5 mX5_completionsBy eX5_completionsBy rX5_completionsBy = true := by decide +kernel
set_option maxRecDepth 100000 in
theorem wX5_completionsBy : ∀ w ∈ zwds RX5 mX5_completionsBy eX5_completionsBy rX5_completionsBy, w ∈ gT := zwd_of [609, 611, 25, 114, 612, 682, 520, 521, 114, 522, 683, 435, 114, 436, 555, 557, 21, 114, 558, 288, 523, 524, 525, 116, 526, 593, 594, 595, 118, 596] (by decide +kernel) (by decide +kernel) (z7_no (by decide +kernel))
set_option maxRecDepth 100000 in
theorem xX5_completionsBy : ∀ w ∈ zwxs RX5 mX5_completionsBy eX5_completionsBy rX5_completionsBy, zspc w = true ∧ w ∈ lw_tbl := by decide +kernel
theorem tX5_completionsBy {l : Launch} (hlt : l.stackTraces = false) : MetA l mX5_completionsBy sX5_completionsBy := zmet (M := mX5_completionsBy) (own := RX5) (envM := eX5_completionsBy) hlt rfl (by decide +kernel) (by decide +kernel) rfl (fun j q hq => by
  match j, hq with
  | 0, hq => cases hq; exact tX5_needRoom hlt
  | 1, hq => cases hq; exact tX5_exits hlt
  | 2, hq => cases hq; exact tX5_has hlt
  | 3, hq => cases hq; exact tX5_solved hlt
  | 4, hq => cases hq; exact tX2_walkSet hlt
  | 5, hq => cases hq; exact tX4_begun hlt
  | n + 6, hq => cases hq) aX5_completionsBy wX5_completionsBy xX5_completionsBy rfl
def mX5_good : zm_M := (yX5_good, cX5_good, 3, (some .int), (8, 0, 0, 162), 0, [], (1, 6))
def rX5_good : List zm_R := [(0, .iconst 0, 0, [], 0, 0, (0, 0), false, []),
  (1, .istore_n 1, 0, [], 0, 0, (0, 0), false, []),
  (2, .iconst 0, 0, [], 0, 0, (0, 0), false, []),
  (3, .istore_n 2, 0, [], 0, 0, (0, 0), false, []),
  (4, .iload_n 2, 0, [], 0, 0, (0, 0), true, []),
  (5, .aload_n 0, 0, [], 0, 0, (0, 0), false, []),
  (6, .getfield 24, 2, [5, 2, 12, 2], 0, 0, (0, 0), false, []),
  (9, .getfield 107, 2, [2, 0, 15, 0], 0, 0, (0, 0), false, []),
  (12, .if_icmp .ge 25, 1, [23], 0, 0, (0, 0), false, []),
  (15, .aload_n 0, 0, [], 0, 0, (0, 0), false, []),
  (16, .iload_n 2, 0, [], 0, 0, (0, 0), false, []),
  (17, .invokevirtual 217, 6, [0, 0, 2, 2, 1, 5], 0, 0, (0, 0), false, []),
  (20, .lconst 0, 0, [], 0, 0, (0, 0), false, []),
  (21, .lcmp, 0, [], 0, 0, (0, 0), false, []),
  (22, .ifCond .le 9, 1, [21], 0, 0, (0, 0), false, []),
  (25, .iload_n 1, 0, [], 0, 0, (0, 0), false, []),
  (26, .iconst 1, 0, [], 1, 0, (0, 0), false, []),
  (27, .iload_n 2, 0, [], 0, 0, (0, 0), false, []),
  (28, .ishl, 0, [], 0, 0, (0, 0), false, []),
  (29, .ior, 0, [], 0, 0, (0, 0), false, []),
  (30, .istore_n 1, 0, [], 0, 0, (0, 0), false, []),
  (31, .iinc 2 1, 0, [], 1, 0, (0, 0), false, []),
  (34, .goto (-30), 1, [4], 0, 0, (0, 0), false, []),
  (37, .iload_n 1, 0, [], 0, 0, (0, 0), false, []),
  (38, .ireturn, 5, [0], 0, 0, (0, 0), false, [])]
def eX5_good : List zm_M := [mX5_completionsBy]
noncomputable def vX5_good : List (zm_M × zm_S) := [(mX5_completionsBy, sX5_completionsBy)]
noncomputable def sX5_good : zm_S := zsem vX5_good rX5_good 3
set_option maxRecDepth 100000 in
theorem aX5_good : zall RX5 mX5_good eX5_good rX5_good = true := by decide +kernel
set_option maxRecDepth 100000 in
theorem wX5_good : ∀ w ∈ zwds RX5 mX5_good eX5_good rX5_good, w ∈ gT := zwd_of [288, 170, 605, 606, 607, 114, 608] (by decide +kernel) (by decide +kernel) (z7_no (by decide +kernel))
set_option maxRecDepth 100000 in
theorem xX5_good : ∀ w ∈ zwxs RX5 mX5_good eX5_good rX5_good, zspc w = true ∧ w ∈ lw_tbl := by decide +kernel
theorem tX5_good {l : Launch} (hlt : l.stackTraces = false) : MetA l mX5_good sX5_good := zmet (M := mX5_good) (own := RX5) (envM := eX5_good) hlt rfl (by decide +kernel) (by decide +kernel) rfl (fun j q hq => by
  match j, hq with
  | 0, hq => cases hq; exact tX5_completionsBy hlt
  | n + 1, hq => cases hq) aX5_good wX5_good xX5_good rfl
def mX5_wrong : zm_M := (yX5_wrong, cX5_wrong, 5, (some .int), (5, 0, 0, 116), 0, [], (0, 0))
def rX5_wrong : List zm_R := [(0, .aload_n 0, 0, [], 0, 0, (0, 0), false, []),
  (1, .invokevirtual 206, 6, [0, 0, 1, 3, 0, 5], 0, 0, (0, 0), false, []),
  (4, .astore_n 1, 0, [], 0, 0, (0, 0), false, []),
  (5, .aload_n 0, 0, [], 0, 0, (0, 0), false, []),
  (6, .getfield 24, 2, [5, 2, 12, 2], 0, 0, (0, 0), false, []),
  (9, .invokevirtual 132, 6, [0, 1, 1, 1, 0, 2], 0, 0, (0, 0), false, []),
  (12, .istore_n 2, 0, [], 0, 0, (0, 0), false, []),
  (13, .aload_n 0, 0, [], 0, 0, (0, 0), false, []),
  (14, .getfield 24, 2, [5, 2, 12, 2], 0, 0, (0, 0), false, []),
  (17, .getfield 127, 2, [2, 13, 15, 0], 0, 0, (0, 0), false, []),
  (20, .iconst 1, 0, [], 1, 0, (0, 0), false, []),
  (21, .isub, 0, [], 0, 0, (0, 0), false, []),
  (22, .istore_n 3, 0, [], 0, 0, (0, 0), false, []),
  (23, .iload_n 3, 0, [], 0, 0, (0, 0), true, [4]),
  (24, .ifCond .lt 53, 1, [46], 0, 0, (0, 0), false, []),
  (27, .aload_n 0, 0, [], 0, 0, (0, 0), false, []),
  (28, .getfield 24, 2, [5, 2, 12, 2], 0, 0, (0, 0), false, []),
  (31, .getfield 192, 2, [2, 12, 15, 2], 0, 0, (0, 0), false, []),
  (34, .iload_n 3, 0, [], 0, 0, (0, 0), false, []),
  (35, .iaload, 3, [0], 0, 0, (0, 0), false, []),
  (36, .istore 4, 0, [], 0, 0, (0, 0), false, []),
  (38, .aload_n 1, 0, [], 0, 0, (0, 0), false, []),
  (39, .iload_n 2, 0, [], 0, 0, (0, 0), false, []),
  (40, .iload 4, 0, [], 0, 0, (0, 0), false, []),
  (42, .invokevirtual 210, 6, [0, 2, 3, 2, 0, 4], 0, 0, (0, 0), false, []),
  (45, .lconst 0, 0, [], 0, 0, (0, 0), false, []),
  (46, .lcmp, 0, [], 0, 0, (0, 0), false, []),
  (47, .ifCond .le 15, 1, [36], 0, 0, (0, 0), false, []),
  (50, .aload_n 0, 0, [], 0, 0, (0, 0), false, []),
  (51, .getfield 24, 2, [5, 2, 12, 2], 0, 0, (0, 0), false, []),
  (54, .getfield 127, 2, [2, 13, 15, 0], 0, 0, (0, 0), false, []),
  (57, .iconst 1, 0, [], 1, 0, (0, 0), false, []),
  (58, .isub, 0, [], 0, 0, (0, 0), false, []),
  (59, .iload_n 3, 0, [], 0, 0, (0, 0), false, []),
  (60, .isub, 0, [], 0, 0, (0, 0), false, []),
  (61, .ireturn, 5, [0], 0, 0, (0, 0), false, []),
  (62, .iload_n 2, 0, [], 0, 0, (0, 0), false, []),
  (63, .iconst 1, 0, [], 1, 0, (0, 0), false, []),
  (64, .iload 4, 0, [], 0, 0, (0, 0), false, []),
  (66, .ishl, 0, [], 0, 0, (0, 0), false, []),
  (67, .iconst (-1), 0, [], (-1), 0, (0, 0), false, []),
  (68, .ixor, 0, [], 0, 0, (0, 0), false, []),
  (69, .iand, 0, [], 0, 0, (0, 0), false, []),
  (70, .istore_n 2, 0, [], 0, 0, (0, 0), false, []),
  (71, .iinc 3 (-1), 0, [], (-1), 0, (0, 0), false, []),
  (74, .goto (-51), 1, [13], 0, 0, (0, 0), false, []),
  (77, .iconst (-1), 0, [], (-1), 0, (0, 0), false, []),
  (78, .ireturn, 5, [0], 0, 0, (0, 0), false, [])]
def eX5_wrong : List zm_M := [mX5_solved, mX2_walkSet, mX4_begun]
noncomputable def vX5_wrong : List (zm_M × zm_S) := [(mX5_solved, sX5_solved), (mX2_walkSet, sX2_walkSet), (mX4_begun, sX4_begun)]
noncomputable def sX5_wrong : zm_S := zsem vX5_wrong rX5_wrong 5
set_option maxRecDepth 100000 in
theorem aX5_wrong : zall RX5 mX5_wrong eX5_wrong rX5_wrong = true := by decide +kernel
set_option maxRecDepth 100000 in
theorem wX5_wrong : ∀ w ∈ zwds RX5 mX5_wrong eX5_wrong rX5_wrong, w ∈ gT := zwd_of [555, 557, 21, 114, 558, 288, 523, 524, 525, 116, 526, 288, 202, 288, 200, 593, 594, 595, 118, 596, 288, 202] (by decide +kernel) (by decide +kernel) (z7_no (by decide +kernel))
set_option maxRecDepth 100000 in
theorem xX5_wrong : ∀ w ∈ zwxs RX5 mX5_wrong eX5_wrong rX5_wrong, zspc w = true ∧ w ∈ lw_tbl := by decide +kernel
theorem tX5_wrong {l : Launch} (hlt : l.stackTraces = false) : MetA l mX5_wrong sX5_wrong := zmet (M := mX5_wrong) (own := RX5) (envM := eX5_wrong) hlt rfl (by decide +kernel) (by decide +kernel) rfl (fun j q hq => by
  match j, hq with
  | 0, hq => cases hq; exact tX5_solved hlt
  | 1, hq => cases hq; exact tX2_walkSet hlt
  | 2, hq => cases hq; exact tX4_begun hlt
  | n + 3, hq => cases hq) aX5_wrong wX5_wrong xX5_wrong rfl
def mX5_needTour : zm_M := (yX5_needTour, cX5_needTour, 5, none, (6, 0, 0, 120), 1, [], (1, 6))
def rX5_needTour : List zm_R := [(0, .aload_n 0, 0, [], 0, 0, (0, 0), false, []),
  (1, .invokevirtual 206, 6, [0, 0, 1, 3, 0, 5], 0, 0, (0, 0), false, []),
  (4, .iconst 1, 0, [], 1, 0, (0, 0), false, []),
  (5, .aload_n 0, 0, [], 0, 0, (0, 0), false, []),
  (6, .getfield 24, 2, [5, 2, 12, 2], 0, 0, (0, 0), false, []),
  (9, .getfield 121, 2, [2, 10, 15, 0], 0, 0, (0, 0), false, []),
  (12, .ishl, 0, [], 0, 0, (0, 0), false, []),
  (13, .aload_n 0, 0, [], 0, 0, (0, 0), false, []),
  (14, .getfield 24, 2, [5, 2, 12, 2], 0, 0, (0, 0), false, []),
  (17, .getfield 121, 2, [2, 10, 15, 0], 0, 0, (0, 0), false, []),
  (20, .invokevirtual 210, 6, [0, 1, 3, 2, 0, 4], 0, 0, (0, 0), false, []),
  (23, .lstore_n 3, 0, [], 0, 0, (0, 0), false, []),
  (24, .lload_n 1, 0, [], 0, 0, (0, 0), false, []),
  (25, .lconst 0, 0, [], 0, 0, (0, 0), false, []),
  (26, .lcmp, 0, [], 0, 0, (0, 0), false, []),
  (27, .ifCond .lt 9, 1, [20], 0, 0, (0, 0), false, []),
  (30, .lload_n 1, 0, [], 0, 0, (0, 0), false, []),
  (31, .lload_n 3, 0, [], 0, 0, (0, 0), false, []),
  (32, .lcmp, 0, [], 0, 0, (0, 0), false, []),
  (33, .ifCond .lt 14, 1, [21], 0, 0, (0, 0), false, []),
  (36, .new 81, 7, [1, 15, 81, 392, 84, 1], 0, 0, (0, 0), false, []),
  (47, .return_, 5, [], 0, 0, (0, 0), false, [])]
def eX5_needTour : List zm_M := [mX5_solved, mX4_begun]
noncomputable def vX5_needTour : List (zm_M × zm_S) := [(mX5_solved, sX5_solved), (mX4_begun, sX4_begun)]
noncomputable def sX5_needTour : zm_S := zsem vX5_needTour rX5_needTour 5
set_option maxRecDepth 100000 in
theorem aX5_needTour : zall RX5 mX5_needTour eX5_needTour rX5_needTour = true := by decide +kernel
set_option maxRecDepth 100000 in
theorem wX5_needTour : ∀ w ∈ zwds RX5 mX5_needTour eX5_needTour rX5_needTour, w ∈ gT := zwd_of [555, 557, 21, 114, 558, 288, 195, 288, 195, 593, 594, 595, 118, 596] (by decide +kernel) (by decide +kernel) (z7_of (L := [(36, .new 81, 7, [1, 15, 81, 392, 84, 1], 0, 0, (0, 0), false, [])]) rfl (List.forall_mem_cons.mpr ⟨zw7 (x := 1) rfl (gT_in (List.mem_of_getElem? (i := 864) (by decide +kernel)) (by decide +kernel)) (gT_in (List.mem_of_getElem? (i := 124) (by decide +kernel)) (by decide +kernel)) zw7_1, fun _ h => absurd h List.not_mem_nil⟩))
set_option maxRecDepth 100000 in
theorem xX5_needTour : ∀ w ∈ zwxs RX5 mX5_needTour eX5_needTour rX5_needTour, zspc w = true ∧ w ∈ lw_tbl := by decide +kernel
theorem tX5_needTour {l : Launch} (hlt : l.stackTraces = false) : MetA l mX5_needTour sX5_needTour := zmet (M := mX5_needTour) (own := RX5) (envM := eX5_needTour) hlt rfl (by decide +kernel) (by decide +kernel) rfl (fun j q hq => by
  match j, hq with
  | 0, hq => cases hq; exact tX5_solved hlt
  | 1, hq => cases hq; exact tX4_begun hlt
  | n + 2, hq => cases hq) aX5_needTour wX5_needTour xX5_needTour rfl
def mX5_needPlace : zm_M := (yX5_needPlace, cX5_needPlace, 2, none, (6, 0, 0, 120), 1, [], (1, 6))
def rX5_needPlace : List zm_R := [(0, .iload_n 1, 0, [], 0, 0, (0, 0), false, []),
  (1, .ifCond .lt 14, 1, [7], 0, 0, (0, 0), false, []),
  (4, .iload_n 1, 0, [], 0, 0, (0, 0), false, []),
  (5, .aload_n 0, 0, [], 0, 0, (0, 0), false, []),
  (6, .getfield 24, 2, [5, 2, 12, 2], 0, 0, (0, 0), false, []),
  (9, .getfield 107, 2, [2, 0, 15, 0], 0, 0, (0, 0), false, []),
  (12, .if_icmp .lt 14, 1, [8], 0, 0, (0, 0), false, []),
  (15, .new 81, 7, [1, 16, 81, 390, 84, 1], 0, 0, (0, 0), false, []),
  (26, .return_, 5, [], 0, 0, (0, 0), false, [])]
def eX5_needPlace : List zm_M := []
noncomputable def vX5_needPlace : List (zm_M × zm_S) := []
noncomputable def sX5_needPlace : zm_S := zsem vX5_needPlace rX5_needPlace 2
set_option maxRecDepth 100000 in
theorem aX5_needPlace : zall RX5 mX5_needPlace eX5_needPlace rX5_needPlace = true := by decide +kernel
set_option maxRecDepth 100000 in
theorem wX5_needPlace : ∀ w ∈ zwds RX5 mX5_needPlace eX5_needPlace rX5_needPlace, w ∈ gT := zwd_of [288, 170] (by decide +kernel) (by decide +kernel) (z7_of (L := [(15, .new 81, 7, [1, 16, 81, 390, 84, 1], 0, 0, (0, 0), false, [])]) rfl (List.forall_mem_cons.mpr ⟨zw7 (x := 1) rfl (gT_in (List.mem_of_getElem? (i := 864) (by decide +kernel)) (by decide +kernel)) (gT_in (List.mem_of_getElem? (i := 124) (by decide +kernel)) (by decide +kernel)) zw7_1, fun _ h => absurd h List.not_mem_nil⟩))
set_option maxRecDepth 100000 in
theorem xX5_needPlace : ∀ w ∈ zwxs RX5 mX5_needPlace eX5_needPlace rX5_needPlace, zspc w = true ∧ w ∈ lw_tbl := by decide +kernel
theorem tX5_needPlace {l : Launch} (hlt : l.stackTraces = false) : MetA l mX5_needPlace sX5_needPlace := zmet (M := mX5_needPlace) (own := RX5) (envM := eX5_needPlace) hlt rfl (by decide +kernel) (by decide +kernel) rfl (fun j q hq => by cases hq) aX5_needPlace wX5_needPlace xX5_needPlace rfl
def mX5_fillRow : zm_M := (yX5_fillRow, cX5_fillRow, 3, none, (5, 0, 0, 116), 1, [], (0, 0))
def rX5_fillRow : List zm_R := [(0, .aload_n 0, 0, [], 0, 0, (0, 0), false, []),
  (1, .getfield 57, 2, [5, 9, 12, 2], 0, 0, (0, 0), false, []),
  (4, .iconst 0, 0, [], 0, 0, (0, 0), false, []),
  (5, .aload_n 0, 0, [], 0, 0, (0, 0), false, []),
  (6, .getfield 24, 2, [5, 2, 12, 2], 0, 0, (0, 0), false, []),
  (9, .getfield 121, 2, [2, 10, 15, 0], 0, 0, (0, 0), false, []),
  (12, .iastore, 3, [0], 0, 0, (0, 0), false, []),
  (13, .aload_n 0, 0, [], 0, 0, (0, 0), false, []),
  (14, .invokevirtual 206, 6, [0, 0, 1, 3, 0, 5], 0, 0, (0, 0), false, []),
  (17, .aload_n 0, 0, [], 0, 0, (0, 0), false, []),
  (18, .getfield 57, 2, [5, 9, 12, 2], 0, 0, (0, 0), false, []),
  (21, .iconst 1, 0, [], 1, 0, (0, 0), false, []),
  (22, .lload_n 1, 0, [], 0, 0, (0, 0), false, []),
  (23, .invokevirtual 314, 6, [0, 1, 4, 0, 0, 4], 0, 0, (0, 0), false, []),
  (26, .return_, 5, [], 0, 0, (0, 0), false, [])]
def eX5_fillRow : List zm_M := [mX5_solved, mX4_follow]
noncomputable def vX5_fillRow : List (zm_M × zm_S) := [(mX5_solved, sX5_solved), (mX4_follow, sX4_follow)]
noncomputable def sX5_fillRow : zm_S := zsem vX5_fillRow rX5_fillRow 3
set_option maxRecDepth 100000 in
theorem aX5_fillRow : zall RX5 mX5_fillRow eX5_fillRow rX5_fillRow = true := by decide +kernel
set_option maxRecDepth 100000 in
theorem wX5_fillRow : ∀ w ∈ zwds RX5 mX5_fillRow eX5_fillRow rX5_fillRow, w ∈ gT := zwd_of [295, 288, 195, 555, 557, 21, 114, 558, 295, 987, 988, 989, 118, 990] (by decide +kernel) (by decide +kernel) (z7_no (by decide +kernel))
set_option maxRecDepth 100000 in
theorem xX5_fillRow : ∀ w ∈ zwxs RX5 mX5_fillRow eX5_fillRow rX5_fillRow, zspc w = true ∧ w ∈ lw_tbl := by decide +kernel
theorem tX5_fillRow {l : Launch} (hlt : l.stackTraces = false) : MetA l mX5_fillRow sX5_fillRow := zmet (M := mX5_fillRow) (own := RX5) (envM := eX5_fillRow) hlt rfl (by decide +kernel) (by decide +kernel) rfl (fun j q hq => by
  match j, hq with
  | 0, hq => cases hq; exact tX5_solved hlt
  | 1, hq => cases hq; exact tX4_follow hlt
  | n + 2, hq => cases hq) aX5_fillRow wX5_fillRow xX5_fillRow rfl
def mX5_tour : zm_M := (yX5_tour, cX5_tour, 4, (some .int), (7, 0, 0, 144), 2, [], (1, 6))
def rX5_tour : List zm_R := [(0, .aload_n 0, 0, [], 0, 0, (0, 0), false, []),
  (1, .lload_n 1, 0, [], 0, 0, (0, 0), false, []),
  (2, .invokevirtual 221, 6, [0, 0, 2, 0, 1, 5], 0, 0, (0, 0), false, []),
  (5, .aload_n 0, 0, [], 0, 0, (0, 0), false, []),
  (6, .iload_n 3, 0, [], 0, 0, (0, 0), false, []),
  (7, .invokevirtual 225, 6, [0, 1, 2, 0, 1, 5], 0, 0, (0, 0), false, []),
  (10, .aload_n 0, 0, [], 0, 0, (0, 0), false, []),
  (11, .lload_n 1, 0, [], 0, 0, (0, 0), false, []),
  (12, .invokevirtual 228, 6, [0, 2, 2, 0, 0, 5], 0, 0, (0, 0), false, []),
  (15, .aload_n 0, 0, [], 0, 0, (0, 0), false, []),
  (16, .getfield 57, 2, [5, 9, 12, 2], 0, 0, (0, 0), false, []),
  (19, .iload_n 3, 0, [], 0, 0, (0, 0), false, []),
  (20, .iaload, 3, [0], 0, 0, (0, 0), false, []),
  (21, .ireturn, 5, [0], 0, 0, (0, 0), false, [])]
def eX5_tour : List zm_M := [mX5_needTour, mX5_needPlace, mX5_fillRow]
noncomputable def vX5_tour : List (zm_M × zm_S) := [(mX5_needTour, sX5_needTour), (mX5_needPlace, sX5_needPlace), (mX5_fillRow, sX5_fillRow)]
noncomputable def sX5_tour : zm_S := zsem vX5_tour rX5_tour 4
set_option maxRecDepth 100000 in
theorem aX5_tour : zall RX5 mX5_tour eX5_tour rX5_tour = true := by decide +kernel
set_option maxRecDepth 100000 in
theorem wX5_tour : ∀ w ∈ zwds RX5 mX5_tour eX5_tour rX5_tour, w ∈ gT := zwd_of [973, 975, 30, 114, 976, 978, 980, 31, 114, 981, 983, 985, 32, 114, 986, 295] (by decide +kernel) (by decide +kernel) (z7_no (by decide +kernel))
set_option maxRecDepth 100000 in
theorem xX5_tour : ∀ w ∈ zwxs RX5 mX5_tour eX5_tour rX5_tour, zspc w = true ∧ w ∈ lw_tbl := by decide +kernel
theorem tX5_tour {l : Launch} (hlt : l.stackTraces = false) : MetA l mX5_tour sX5_tour := zmet (M := mX5_tour) (own := RX5) (envM := eX5_tour) hlt rfl (by decide +kernel) (by decide +kernel) rfl (fun j q hq => by
  match j, hq with
  | 0, hq => cases hq; exact tX5_needTour hlt
  | 1, hq => cases hq; exact tX5_needPlace hlt
  | 2, hq => cases hq; exact tX5_fillRow hlt
  | n + 3, hq => cases hq) aX5_tour wX5_tour xX5_tour rfl
def mX5_rank : zm_M := (yX5_rank, cX5_rank, 1, (some .long), (6, 0, 0, 136), 0, [], (0, 0))
def rX5_rank : List zm_R := [(0, .aload_n 0, 0, [], 0, 0, (0, 0), false, []),
  (1, .getfield 24, 2, [5, 2, 12, 2], 0, 0, (0, 0), false, []),
  (4, .getfield 127, 2, [2, 13, 15, 0], 0, 0, (0, 0), false, []),
  (7, .aload_n 0, 0, [], 0, 0, (0, 0), false, []),
  (8, .getfield 24, 2, [5, 2, 12, 2], 0, 0, (0, 0), false, []),
  (11, .getfield 107, 2, [2, 0, 15, 0], 0, 0, (0, 0), false, []),
  (14, .if_icmp .lt 12, 1, [12], 0, 0, (0, 0), false, []),
  (17, .aload_n 0, 0, [], 0, 0, (0, 0), false, []),
  (18, .invokevirtual 231, 6, [0, 0, 1, 2, 0, 5], 0, 0, (0, 0), false, []),
  (21, .lconst 0, 0, [], 0, 0, (0, 0), false, []),
  (22, .lcmp, 0, [], 0, 0, (0, 0), false, []),
  (23, .ifCond .ne 7, 1, [14], 0, 0, (0, 0), false, []),
  (26, .ldc2_w 234, 9, [1], 0, (-1), (0, 0), false, []),
  (29, .lreturn, 5, [], 0, 0, (0, 0), false, []),
  (30, .aload_n 0, 0, [], 0, 0, (0, 0), false, []),
  (31, .invokevirtual 206, 6, [0, 1, 1, 3, 0, 5], 0, 0, (0, 0), false, []),
  (34, .aload_n 0, 0, [], 0, 0, (0, 0), false, []),
  (35, .getfield 24, 2, [5, 2, 12, 2], 0, 0, (0, 0), false, []),
  (38, .getfield 192, 2, [2, 12, 15, 2], 0, 0, (0, 0), false, []),
  (41, .aload_n 0, 0, [], 0, 0, (0, 0), false, []),
  (42, .getfield 24, 2, [5, 2, 12, 2], 0, 0, (0, 0), false, []),
  (45, .getfield 127, 2, [2, 13, 15, 0], 0, 0, (0, 0), false, []),
  (48, .invokevirtual 236, 6, [0, 2, 3, 2, 0, 4], 0, 0, (0, 0), false, []),
  (51, .lreturn, 5, [], 0, 0, (0, 0), false, [])]
def eX5_rank : List zm_M := [mX5_completions, mX5_solved, mX4_toursAhead]
noncomputable def vX5_rank : List (zm_M × zm_S) := [(mX5_completions, sX5_completions), (mX5_solved, sX5_solved), (mX4_toursAhead, sX4_toursAhead)]
noncomputable def sX5_rank : zm_S := zsem vX5_rank rX5_rank 1
set_option maxRecDepth 100000 in
theorem aX5_rank : zall RX5 mX5_rank eX5_rank rX5_rank = true := by decide +kernel
set_option maxRecDepth 100000 in
theorem wX5_rank : ∀ w ∈ zwds RX5 mX5_rank eX5_rank rX5_rank, w ∈ gT := zwd_of [288, 202, 288, 170, 692, 598, 599, 114, 600, 693, 555, 557, 21, 114, 558, 288, 200, 288, 202, 694, 695, 696, 118, 697] (by decide +kernel) (by decide +kernel) (z7_no (by decide +kernel))
set_option maxRecDepth 100000 in
theorem xX5_rank : ∀ w ∈ zwxs RX5 mX5_rank eX5_rank rX5_rank, zspc w = true ∧ w ∈ lw_tbl := by decide +kernel
theorem tX5_rank {l : Launch} (hlt : l.stackTraces = false) : MetA l mX5_rank sX5_rank := zmet (M := mX5_rank) (own := RX5) (envM := eX5_rank) hlt rfl (by decide +kernel) (by decide +kernel) rfl (fun j q hq => by
  match j, hq with
  | 0, hq => cases hq; exact tX5_completions hlt
  | 1, hq => cases hq; exact tX5_solved hlt
  | 2, hq => cases hq; exact tX4_toursAhead hlt
  | n + 3, hq => cases hq) aX5_rank wX5_rank xX5_rank rfl
def mX5_longest : zm_M := (yX5_longest, cX5_longest, 1, (some .int), (5, 0, 0, 116), 0, [], (0, 0))
def rX5_longest : List zm_R := [(0, .aload_n 0, 0, [], 0, 0, (0, 0), false, []),
  (1, .invokevirtual 206, 6, [0, 0, 1, 3, 0, 5], 0, 0, (0, 0), false, []),
  (4, .invokevirtual 240, 6, [0, 1, 1, 1, 0, 4], 0, 0, (0, 0), false, []),
  (7, .ireturn, 5, [0], 0, 0, (0, 0), false, [])]
def eX5_longest : List zm_M := [mX5_solved, mX4_mostRooms]
noncomputable def vX5_longest : List (zm_M × zm_S) := [(mX5_solved, sX5_solved), (mX4_mostRooms, sX4_mostRooms)]
noncomputable def sX5_longest : zm_S := zsem vX5_longest rX5_longest 1
set_option maxRecDepth 100000 in
theorem aX5_longest : zall RX5 mX5_longest eX5_longest rX5_longest = true := by decide +kernel
set_option maxRecDepth 100000 in
theorem wX5_longest : ∀ w ∈ zwds RX5 mX5_longest eX5_longest rX5_longest, w ∈ gT := zwd_of [555, 557, 21, 114, 558, 703, 704, 705, 118, 706] (by decide +kernel) (by decide +kernel) (z7_no (by decide +kernel))
set_option maxRecDepth 100000 in
theorem xX5_longest : ∀ w ∈ zwxs RX5 mX5_longest eX5_longest rX5_longest, zspc w = true ∧ w ∈ lw_tbl := by decide +kernel
theorem tX5_longest {l : Launch} (hlt : l.stackTraces = false) : MetA l mX5_longest sX5_longest := zmet (M := mX5_longest) (own := RX5) (envM := eX5_longest) hlt rfl (by decide +kernel) (by decide +kernel) rfl (fun j q hq => by
  match j, hq with
  | 0, hq => cases hq; exact tX5_solved hlt
  | 1, hq => cases hq; exact tX4_mostRooms hlt
  | n + 2, hq => cases hq) aX5_longest wX5_longest xX5_longest rfl
def mX5_longestOn : zm_M := (yX5_longestOn, cX5_longestOn, 1, (some .int), (4, 0, 0, 96), 0, [], (0, 0))
def rX5_longestOn : List zm_R := [(0, .aload_n 0, 0, [], 0, 0, (0, 0), false, []),
  (1, .iconst 1, 0, [], 1, 0, (0, 0), false, []),
  (2, .putfield 53, 2, [5, 8, 12, 3], 0, 0, (0, 0), false, []),
  (5, .aload_n 0, 0, [], 0, 0, (0, 0), false, []),
  (6, .getfield 49, 2, [5, 7, 12, 2], 0, 0, (0, 0), false, []),
  (9, .aload_n 0, 0, [], 0, 0, (0, 0), false, []),
  (10, .getfield 24, 2, [5, 2, 12, 2], 0, 0, (0, 0), false, []),
  (13, .aload_n 0, 0, [], 0, 0, (0, 0), false, []),
  (14, .getfield 24, 2, [5, 2, 12, 2], 0, 0, (0, 0), false, []),
  (17, .invokevirtual 132, 6, [0, 0, 1, 1, 0, 2], 0, 0, (0, 0), false, []),
  (20, .aload_n 0, 0, [], 0, 0, (0, 0), false, []),
  (21, .getfield 24, 2, [5, 2, 12, 2], 0, 0, (0, 0), false, []),
  (24, .invokevirtual 128, 6, [0, 1, 1, 1, 0, 2], 0, 0, (0, 0), false, []),
  (27, .invokevirtual 243, 6, [0, 2, 4, 0, 0, 4], 0, 0, (0, 0), false, []),
  (30, .aload_n 0, 0, [], 0, 0, (0, 0), false, []),
  (31, .getfield 49, 2, [5, 7, 12, 2], 0, 0, (0, 0), false, []),
  (34, .invokevirtual 240, 6, [0, 3, 1, 1, 0, 4], 0, 0, (0, 0), false, []),
  (37, .ireturn, 5, [0], 0, 0, (0, 0), false, [])]
def eX5_longestOn : List zm_M := [mX2_walkSet, mX2_lastRoom, mX4_spread, mX4_mostRooms]
noncomputable def vX5_longestOn : List (zm_M × zm_S) := [(mX2_walkSet, sX2_walkSet), (mX2_lastRoom, sX2_lastRoom), (mX4_spread, sX4_spread), (mX4_mostRooms, sX4_mostRooms)]
noncomputable def sX5_longestOn : zm_S := zsem vX5_longestOn rX5_longestOn 1
set_option maxRecDepth 100000 in
theorem aX5_longestOn : zall RX5 mX5_longestOn eX5_longestOn rX5_longestOn = true := by decide +kernel
set_option maxRecDepth 100000 in
theorem wX5_longestOn : ∀ w ∈ zwds RX5 mX5_longestOn eX5_longestOn rX5_longestOn, w ∈ gT := zwd_of [294, 293, 288, 288, 523, 524, 525, 116, 526, 288, 547, 548, 549, 116, 550, 559, 560, 561, 118, 562, 293, 703, 704, 705, 118, 706] (by decide +kernel) (by decide +kernel) (z7_no (by decide +kernel))
set_option maxRecDepth 100000 in
theorem xX5_longestOn : ∀ w ∈ zwxs RX5 mX5_longestOn eX5_longestOn rX5_longestOn, zspc w = true ∧ w ∈ lw_tbl := by decide +kernel
theorem tX5_longestOn {l : Launch} (hlt : l.stackTraces = false) : MetA l mX5_longestOn sX5_longestOn := zmet (M := mX5_longestOn) (own := RX5) (envM := eX5_longestOn) hlt rfl (by decide +kernel) (by decide +kernel) rfl (fun j q hq => by
  match j, hq with
  | 0, hq => cases hq; exact tX2_walkSet hlt
  | 1, hq => cases hq; exact tX2_lastRoom hlt
  | 2, hq => cases hq; exact tX4_spread hlt
  | 3, hq => cases hq; exact tX4_mostRooms hlt
  | n + 4, hq => cases hq) aX5_longestOn wX5_longestOn xX5_longestOn rfl
def mX5_endings : zm_M := (yX5_endings, cX5_endings, 1, (some .int), (5, 0, 0, 116), 0, [], (0, 0))
def rX5_endings : List zm_R := [(0, .aload_n 0, 0, [], 0, 0, (0, 0), false, []),
  (1, .invokevirtual 206, 6, [0, 0, 1, 3, 0, 5], 0, 0, (0, 0), false, []),
  (4, .getfield 247, 2, [4, 6, 7, 0], 0, 0, (0, 0), false, []),
  (7, .ireturn, 5, [0], 0, 0, (0, 0), false, [])]
def eX5_endings : List zm_M := [mX5_solved]
noncomputable def vX5_endings : List (zm_M × zm_S) := [(mX5_solved, sX5_solved)]
noncomputable def sX5_endings : zm_S := zsem vX5_endings rX5_endings 1
set_option maxRecDepth 100000 in
theorem aX5_endings : zall RX5 mX5_endings eX5_endings rX5_endings = true := by decide +kernel
set_option maxRecDepth 100000 in
theorem wX5_endings : ∀ w ∈ zwds RX5 mX5_endings eX5_endings rX5_endings, w ∈ gT := zwd_of [555, 557, 21, 114, 558, 270] (by decide +kernel) (by decide +kernel) (z7_no (by decide +kernel))
set_option maxRecDepth 100000 in
theorem xX5_endings : ∀ w ∈ zwxs RX5 mX5_endings eX5_endings rX5_endings, zspc w = true ∧ w ∈ lw_tbl := by decide +kernel
theorem tX5_endings {l : Launch} (hlt : l.stackTraces = false) : MetA l mX5_endings sX5_endings := zmet (M := mX5_endings) (own := RX5) (envM := eX5_endings) hlt rfl (by decide +kernel) (by decide +kernel) rfl (fun j q hq => by
  match j, hq with
  | 0, hq => cases hq; exact tX5_solved hlt
  | n + 1, hq => cases hq) aX5_endings wX5_endings xX5_endings rfl
def mX5_countTours : zm_M := (yX5_countTours, cX5_countTours, 3, (some .long), (4, 0, 0, 96), 2, [], (0, 0))
def rX5_countTours : List zm_R := [(0, .aload_n 0, 0, [], 0, 0, (0, 0), false, []),
  (1, .iconst 1, 0, [], 1, 0, (0, 0), false, []),
  (2, .putfield 53, 2, [5, 8, 12, 3], 0, 0, (0, 0), false, []),
  (5, .aload_n 0, 0, [], 0, 0, (0, 0), false, []),
  (6, .getfield 49, 2, [5, 7, 12, 2], 0, 0, (0, 0), false, []),
  (9, .aload_n 1, 0, [], 0, 0, (0, 0), false, []),
  (10, .iconst 1, 0, [], 1, 0, (0, 0), false, []),
  (11, .iload_n 2, 0, [], 0, 0, (0, 0), false, []),
  (12, .ishl, 0, [], 0, 0, (0, 0), false, []),
  (13, .iload_n 2, 0, [], 0, 0, (0, 0), false, []),
  (14, .invokevirtual 243, 6, [0, 0, 4, 0, 0, 4], 0, 0, (0, 0), false, []),
  (17, .aload_n 0, 0, [], 0, 0, (0, 0), false, []),
  (18, .getfield 49, 2, [5, 7, 12, 2], 0, 0, (0, 0), false, []),
  (21, .invokevirtual 400, 6, [0, 1, 1, 2, 0, 4], 0, 0, (0, 0), false, []),
  (24, .lreturn, 5, [], 0, 0, (0, 0), false, [])]
def eX5_countTours : List zm_M := [mX4_spread, mX4_fullWalks]
noncomputable def vX5_countTours : List (zm_M × zm_S) := [(mX4_spread, sX4_spread), (mX4_fullWalks, sX4_fullWalks)]
noncomputable def sX5_countTours : zm_S := zsem vX5_countTours rX5_countTours 3
set_option maxRecDepth 100000 in
theorem aX5_countTours : zall RX5 mX5_countTours eX5_countTours rX5_countTours = true := by decide +kernel
set_option maxRecDepth 100000 in
theorem wX5_countTours : ∀ w ∈ zwds RX5 mX5_countTours eX5_countTours rX5_countTours, w ∈ gT := zwd_of [294, 293, 559, 560, 561, 118, 562, 293, 736, 737, 738, 118, 739] (by decide +kernel) (by decide +kernel) (z7_no (by decide +kernel))
set_option maxRecDepth 100000 in
theorem xX5_countTours : ∀ w ∈ zwxs RX5 mX5_countTours eX5_countTours rX5_countTours, zspc w = true ∧ w ∈ lw_tbl := by decide +kernel
theorem tX5_countTours {l : Launch} (hlt : l.stackTraces = false) : MetA l mX5_countTours sX5_countTours := zmet (M := mX5_countTours) (own := RX5) (envM := eX5_countTours) hlt rfl (by decide +kernel) (by decide +kernel) rfl (fun j q hq => by
  match j, hq with
  | 0, hq => cases hq; exact tX4_spread hlt
  | 1, hq => cases hq; exact tX4_fullWalks hlt
  | n + 2, hq => cases hq) aX5_countTours wX5_countTours xX5_countTours rfl
def mX5_toursFrom : zm_M := (yX5_toursFrom, cX5_toursFrom, 2, (some .long), (7, 0, 0, 141), 1, [], (1, 6))
def rX5_toursFrom : List zm_R := [(0, .aload_n 0, 0, [], 0, 0, (0, 0), false, []),
  (1, .iload_n 1, 0, [], 0, 0, (0, 0), false, []),
  (2, .invokevirtual 144, 6, [0, 0, 2, 0, 1, 5], 0, 0, (0, 0), false, []),
  (5, .aload_n 0, 0, [], 0, 0, (0, 0), false, []),
  (6, .aload_n 0, 0, [], 0, 0, (0, 0), false, []),
  (7, .getfield 24, 2, [5, 2, 12, 2], 0, 0, (0, 0), false, []),
  (10, .iload_n 1, 0, [], 0, 0, (0, 0), false, []),
  (11, .invokevirtual 253, 6, [0, 1, 3, 2, 0, 5], 0, 0, (0, 0), false, []),
  (14, .lreturn, 5, [], 0, 0, (0, 0), false, [])]
def eX5_toursFrom : List zm_M := [mX5_needRoom, mX5_countTours]
noncomputable def vX5_toursFrom : List (zm_M × zm_S) := [(mX5_needRoom, sX5_needRoom), (mX5_countTours, sX5_countTours)]
noncomputable def sX5_toursFrom : zm_S := zsem vX5_toursFrom rX5_toursFrom 2
set_option maxRecDepth 100000 in
theorem aX5_toursFrom : zall RX5 mX5_toursFrom eX5_toursFrom rX5_toursFrom = true := by decide +kernel
set_option maxRecDepth 100000 in
theorem wX5_toursFrom : ∀ w ∈ zwds RX5 mX5_toursFrom eX5_toursFrom rX5_toursFrom, w ∈ gT := zwd_of [609, 611, 25, 114, 612, 288, 732, 734, 27, 114, 735] (by decide +kernel) (by decide +kernel) (z7_no (by decide +kernel))
set_option maxRecDepth 100000 in
theorem xX5_toursFrom : ∀ w ∈ zwxs RX5 mX5_toursFrom eX5_toursFrom rX5_toursFrom, zspc w = true ∧ w ∈ lw_tbl := by decide +kernel
theorem tX5_toursFrom {l : Launch} (hlt : l.stackTraces = false) : MetA l mX5_toursFrom sX5_toursFrom := zmet (M := mX5_toursFrom) (own := RX5) (envM := eX5_toursFrom) hlt rfl (by decide +kernel) (by decide +kernel) rfl (fun j q hq => by
  match j, hq with
  | 0, hq => cases hq; exact tX5_needRoom hlt
  | 1, hq => cases hq; exact tX5_countTours hlt
  | n + 2, hq => cases hq) aX5_toursFrom wX5_toursFrom xX5_toursFrom rfl
def mX5_starts : zm_M := (yX5_starts, cX5_starts, 3, (some .int), (8, 0, 0, 162), 0, [], (1, 6))
def rX5_starts : List zm_R := [(0, .iconst 0, 0, [], 0, 0, (0, 0), false, []),
  (1, .istore_n 1, 0, [], 0, 0, (0, 0), false, []),
  (2, .iconst 0, 0, [], 0, 0, (0, 0), false, []),
  (3, .istore_n 2, 0, [], 0, 0, (0, 0), false, []),
  (4, .iload_n 2, 0, [], 0, 0, (0, 0), true, []),
  (5, .aload_n 0, 0, [], 0, 0, (0, 0), false, []),
  (6, .getfield 24, 2, [5, 2, 12, 2], 0, 0, (0, 0), false, []),
  (9, .getfield 107, 2, [2, 0, 15, 0], 0, 0, (0, 0), false, []),
  (12, .if_icmp .ge 25, 1, [23], 0, 0, (0, 0), false, []),
  (15, .aload_n 0, 0, [], 0, 0, (0, 0), false, []),
  (16, .iload_n 2, 0, [], 0, 0, (0, 0), false, []),
  (17, .invokevirtual 250, 6, [0, 0, 2, 2, 1, 5], 0, 0, (0, 0), false, []),
  (20, .lconst 0, 0, [], 0, 0, (0, 0), false, []),
  (21, .lcmp, 0, [], 0, 0, (0, 0), false, []),
  (22, .ifCond .le 9, 1, [21], 0, 0, (0, 0), false, []),
  (25, .iload_n 1, 0, [], 0, 0, (0, 0), false, []),
  (26, .iconst 1, 0, [], 1, 0, (0, 0), false, []),
  (27, .iload_n 2, 0, [], 0, 0, (0, 0), false, []),
  (28, .ishl, 0, [], 0, 0, (0, 0), false, []),
  (29, .ior, 0, [], 0, 0, (0, 0), false, []),
  (30, .istore_n 1, 0, [], 0, 0, (0, 0), false, []),
  (31, .iinc 2 1, 0, [], 1, 0, (0, 0), false, []),
  (34, .goto (-30), 1, [4], 0, 0, (0, 0), false, []),
  (37, .iload_n 1, 0, [], 0, 0, (0, 0), false, []),
  (38, .ireturn, 5, [0], 0, 0, (0, 0), false, [])]
def eX5_starts : List zm_M := [mX5_toursFrom]
noncomputable def vX5_starts : List (zm_M × zm_S) := [(mX5_toursFrom, sX5_toursFrom)]
noncomputable def sX5_starts : zm_S := zsem vX5_starts rX5_starts 3
set_option maxRecDepth 100000 in
theorem aX5_starts : zall RX5 mX5_starts eX5_starts rX5_starts = true := by decide +kernel
set_option maxRecDepth 100000 in
theorem wX5_starts : ∀ w ∈ zwds RX5 mX5_starts eX5_starts rX5_starts, w ∈ gT := zwd_of [288, 170, 728, 729, 730, 114, 731] (by decide +kernel) (by decide +kernel) (z7_no (by decide +kernel))
set_option maxRecDepth 100000 in
theorem xX5_starts : ∀ w ∈ zwxs RX5 mX5_starts eX5_starts rX5_starts, zspc w = true ∧ w ∈ lw_tbl := by decide +kernel
theorem tX5_starts {l : Launch} (hlt : l.stackTraces = false) : MetA l mX5_starts sX5_starts := zmet (M := mX5_starts) (own := RX5) (envM := eX5_starts) hlt rfl (by decide +kernel) (by decide +kernel) rfl (fun j q hq => by
  match j, hq with
  | 0, hq => cases hq; exact tX5_toursFrom hlt
  | n + 1, hq => cases hq) aX5_starts wX5_starts xX5_starts rfl
def mX5_toursTo : zm_M := (yX5_toursTo, cX5_toursTo, 2, (some .long), (7, 0, 0, 141), 1, [], (1, 6))
def rX5_toursTo : List zm_R := [(0, .aload_n 0, 0, [], 0, 0, (0, 0), false, []),
  (1, .iload_n 1, 0, [], 0, 0, (0, 0), false, []),
  (2, .invokevirtual 144, 6, [0, 0, 2, 0, 1, 5], 0, 0, (0, 0), false, []),
  (5, .aload_n 0, 0, [], 0, 0, (0, 0), false, []),
  (6, .invokevirtual 206, 6, [0, 1, 1, 3, 0, 5], 0, 0, (0, 0), false, []),
  (9, .aload_n 0, 0, [], 0, 0, (0, 0), false, []),
  (10, .getfield 24, 2, [5, 2, 12, 2], 0, 0, (0, 0), false, []),
  (13, .invokevirtual 257, 6, [0, 2, 1, 1, 0, 2], 0, 0, (0, 0), false, []),
  (16, .iload_n 1, 0, [], 0, 0, (0, 0), false, []),
  (17, .invokevirtual 260, 6, [0, 3, 3, 2, 0, 4], 0, 0, (0, 0), false, []),
  (20, .lreturn, 5, [], 0, 0, (0, 0), false, [])]
def eX5_toursTo : List zm_M := [mX5_needRoom, mX5_solved, mX2_everyRoom, mX4_walksTo]
noncomputable def vX5_toursTo : List (zm_M × zm_S) := [(mX5_needRoom, sX5_needRoom), (mX5_solved, sX5_solved), (mX2_everyRoom, sX2_everyRoom), (mX4_walksTo, sX4_walksTo)]
noncomputable def sX5_toursTo : zm_S := zsem vX5_toursTo rX5_toursTo 2
set_option maxRecDepth 100000 in
theorem aX5_toursTo : zall RX5 mX5_toursTo eX5_toursTo rX5_toursTo = true := by decide +kernel
set_option maxRecDepth 100000 in
theorem wX5_toursTo : ∀ w ∈ zwds RX5 mX5_toursTo eX5_toursTo rX5_toursTo, w ∈ gT := zwd_of [609, 611, 25, 114, 612, 555, 557, 21, 114, 558, 288, 796, 565, 566, 116, 567, 802, 741, 742, 118, 743] (by decide +kernel) (by decide +kernel) (z7_no (by decide +kernel))
set_option maxRecDepth 100000 in
theorem xX5_toursTo : ∀ w ∈ zwxs RX5 mX5_toursTo eX5_toursTo rX5_toursTo, zspc w = true ∧ w ∈ lw_tbl := by decide +kernel
theorem tX5_toursTo {l : Launch} (hlt : l.stackTraces = false) : MetA l mX5_toursTo sX5_toursTo := zmet (M := mX5_toursTo) (own := RX5) (envM := eX5_toursTo) hlt rfl (by decide +kernel) (by decide +kernel) rfl (fun j q hq => by
  match j, hq with
  | 0, hq => cases hq; exact tX5_needRoom hlt
  | 1, hq => cases hq; exact tX5_solved hlt
  | 2, hq => cases hq; exact tX2_everyRoom hlt
  | 3, hq => cases hq; exact tX4_walksTo hlt
  | n + 4, hq => cases hq) aX5_toursTo wX5_toursTo xX5_toursTo rfl
def mX5_reachable : zm_M := (yX5_reachable, cX5_reachable, 6, (some .int), (3, 0, 0, 68), 0, [], (0, 0))
def rX5_reachable : List zm_R := [(0, .iconst 1, 0, [], 1, 0, (0, 0), false, []),
  (1, .aload_n 0, 0, [], 0, 0, (0, 0), false, []),
  (2, .getfield 24, 2, [5, 2, 12, 2], 0, 0, (0, 0), false, []),
  (5, .getfield 121, 2, [2, 10, 15, 0], 0, 0, (0, 0), false, []),
  (8, .ishl, 0, [], 0, 0, (0, 0), false, []),
  (9, .istore_n 1, 0, [], 0, 0, (0, 0), false, []),
  (10, .iconst 0, 0, [], 0, 0, (0, 0), false, []),
  (11, .istore_n 2, 0, [], 0, 0, (0, 0), false, []),
  (12, .iload_n 2, 0, [], 0, 0, (0, 0), true, [3, 4, 5]),
  (13, .aload_n 0, 0, [], 0, 0, (0, 0), false, []),
  (14, .getfield 24, 2, [5, 2, 12, 2], 0, 0, (0, 0), false, []),
  (17, .getfield 107, 2, [2, 0, 15, 0], 0, 0, (0, 0), false, []),
  (20, .if_icmp .ge 63, 1, [43], 0, 0, (0, 0), false, []),
  (23, .aload_n 0, 0, [], 0, 0, (0, 0), false, []),
  (24, .getfield 24, 2, [5, 2, 12, 2], 0, 0, (0, 0), false, []),
  (27, .iload_n 1, 0, [], 0, 0, (0, 0), false, []),
  (28, .invokevirtual 202, 6, [0, 0, 2, 3, 0, 2], 0, 0, (0, 0), false, []),
  (31, .astore_n 3, 0, [], 0, 0, (0, 0), false, []),
  (32, .iload_n 1, 0, [], 0, 0, (0, 0), false, []),
  (33, .istore 4, 0, [], 0, 0, (0, 0), false, []),
  (35, .iconst 0, 0, [], 0, 0, (0, 0), false, []),
  (36, .istore 5, 0, [], 0, 0, (0, 0), false, []),
  (38, .iload 5, 0, [], 0, 0, (0, 0), true, []),
  (40, .aload_n 0, 0, [], 0, 0, (0, 0), false, []),
  (41, .getfield 24, 2, [5, 2, 12, 2], 0, 0, (0, 0), false, []),
  (44, .getfield 107, 2, [2, 0, 15, 0], 0, 0, (0, 0), false, []),
  (47, .if_icmp .ge 27, 1, [39], 0, 0, (0, 0), false, []),
  (50, .iload_n 1, 0, [], 0, 0, (0, 0), false, []),
  (51, .iload 5, 0, [], 0, 0, (0, 0), false, []),
  (53, .invokestatic 183, 6, [1, 1, 2, 1, 0, 5], 0, 0, (0, 0), false, []),
  (56, .ifCond .eq 12, 1, [37], 0, 0, (0, 0), false, []),
  (59, .iload 4, 0, [], 0, 0, (0, 0), false, []),
  (61, .aload_n 3, 0, [], 0, 0, (0, 0), false, []),
  (62, .iload 5, 0, [], 0, 0, (0, 0), false, []),
  (64, .iaload, 3, [0], 0, 0, (0, 0), false, []),
  (65, .ior, 0, [], 0, 0, (0, 0), false, []),
  (66, .istore 4, 0, [], 0, 0, (0, 0), false, []),
  (68, .iinc 5 1, 0, [], 1, 0, (0, 0), false, []),
  (71, .goto (-33), 1, [22], 0, 0, (0, 0), false, []),
  (74, .iload 4, 0, [], 0, 0, (0, 0), false, []),
  (76, .istore_n 1, 0, [], 0, 0, (0, 0), false, []),
  (77, .iinc 2 1, 0, [], 1, 0, (0, 0), false, []),
  (80, .goto (-68), 1, [8], 0, 0, (0, 0), false, []),
  (83, .iload_n 1, 0, [], 0, 0, (0, 0), false, []),
  (84, .ireturn, 5, [0], 0, 0, (0, 0), false, [])]
def eX5_reachable : List zm_M := [mX2_leads, mX5_has]
noncomputable def vX5_reachable : List (zm_M × zm_S) := [(mX2_leads, sX2_leads), (mX5_has, sX5_has)]
noncomputable def sX5_reachable : zm_S := zsem vX5_reachable rX5_reachable 6
set_option maxRecDepth 100000 in
theorem aX5_reachable : zall RX5 mX5_reachable eX5_reachable rX5_reachable = true := by decide +kernel
set_option maxRecDepth 100000 in
theorem wX5_reachable : ∀ w ∈ zwds RX5 mX5_reachable eX5_reachable rX5_reachable, w ∈ gT := zwd_of [288, 195, 288, 170, 288, 527, 528, 529, 116, 530, 288, 170, 683, 435, 114, 436] (by decide +kernel) (by decide +kernel) (z7_no (by decide +kernel))
set_option maxRecDepth 100000 in
theorem xX5_reachable : ∀ w ∈ zwxs RX5 mX5_reachable eX5_reachable rX5_reachable, zspc w = true ∧ w ∈ lw_tbl := by decide +kernel
theorem tX5_reachable {l : Launch} (hlt : l.stackTraces = false) : MetA l mX5_reachable sX5_reachable := zmet (M := mX5_reachable) (own := RX5) (envM := eX5_reachable) hlt rfl (by decide +kernel) (by decide +kernel) rfl (fun j q hq => by
  match j, hq with
  | 0, hq => cases hq; exact tX2_leads hlt
  | 1, hq => cases hq; exact tX5_has hlt
  | n + 2, hq => cases hq) aX5_reachable wX5_reachable xX5_reachable rfl
def mX5_without : zm_M := (yX5_without, cX5_without, 3, (some .long), (7, 0, 0, 140), 1, [], (1, 6))
def rX5_without : List zm_R := [(0, .iload_n 1, 0, [], 0, 0, (0, 0), false, []),
  (1, .invokestatic 195, 6, [1, 0, 1, 0, 1, 5], 0, 0, (0, 0), false, []),
  (4, .aload_n 0, 0, [], 0, 0, (0, 0), false, []),
  (5, .getfield 28, 2, [5, 3, 12, 2], 0, 0, (0, 0), false, []),
  (8, .aload_n 0, 0, [], 0, 0, (0, 0), false, []),
  (9, .getfield 24, 2, [5, 2, 12, 2], 0, 0, (0, 0), false, []),
  (12, .invokevirtual 103, 6, [0, 1, 2, 0, 0, 2], 0, 0, (0, 0), false, []),
  (15, .iconst 0, 0, [], 0, 0, (0, 0), false, []),
  (16, .istore_n 2, 0, [], 0, 0, (0, 0), false, []),
  (17, .iload_n 2, 0, [], 0, 0, (0, 0), true, []),
  (18, .aload_n 0, 0, [], 0, 0, (0, 0), false, []),
  (19, .getfield 28, 2, [5, 3, 12, 2], 0, 0, (0, 0), false, []),
  (22, .getfield 107, 2, [2, 0, 15, 0], 0, 0, (0, 0), false, []),
  (25, .if_icmp .ge 26, 1, [29], 0, 0, (0, 0), false, []),
  (28, .aload_n 0, 0, [], 0, 0, (0, 0), false, []),
  (29, .getfield 28, 2, [5, 3, 12, 2], 0, 0, (0, 0), false, []),
  (32, .getfield 147, 2, [2, 2, 15, 2], 0, 0, (0, 0), false, []),
  (35, .iload_n 2, 0, [], 0, 0, (0, 0), false, []),
  (36, .dup2, 0, [], 0, 0, (0, 0), false, []),
  (37, .iaload, 3, [0], 0, 0, (0, 0), false, []),
  (38, .iconst 1, 0, [], 1, 0, (0, 0), false, []),
  (39, .iload_n 1, 0, [], 0, 0, (0, 0), false, []),
  (40, .ishl, 0, [], 0, 0, (0, 0), false, []),
  (41, .iconst (-1), 0, [], (-1), 0, (0, 0), false, []),
  (42, .ixor, 0, [], 0, 0, (0, 0), false, []),
  (43, .iand, 0, [], 0, 0, (0, 0), false, []),
  (44, .iastore, 3, [0], 0, 0, (0, 0), false, []),
  (45, .iinc 2 1, 0, [], 1, 0, (0, 0), false, []),
  (48, .goto (-31), 1, [9], 0, 0, (0, 0), false, []),
  (51, .aload_n 0, 0, [], 0, 0, (0, 0), false, []),
  (52, .aload_n 0, 0, [], 0, 0, (0, 0), false, []),
  (53, .getfield 28, 2, [5, 3, 12, 2], 0, 0, (0, 0), false, []),
  (56, .aload_n 0, 0, [], 0, 0, (0, 0), false, []),
  (57, .getfield 28, 2, [5, 3, 12, 2], 0, 0, (0, 0), false, []),
  (60, .getfield 121, 2, [2, 10, 15, 0], 0, 0, (0, 0), false, []),
  (63, .invokevirtual 253, 6, [0, 2, 3, 2, 0, 5], 0, 0, (0, 0), false, []),
  (66, .lreturn, 5, [], 0, 0, (0, 0), false, [])]
def eX5_without : List zm_M := [mX5_needKey, mX2_copyFrom, mX5_countTours]
noncomputable def vX5_without : List (zm_M × zm_S) := [(mX5_needKey, sX5_needKey), (mX2_copyFrom, sX2_copyFrom), (mX5_countTours, sX5_countTours)]
noncomputable def sX5_without : zm_S := zsem vX5_without rX5_without 3
set_option maxRecDepth 100000 in
theorem aX5_without : zall RX5 mX5_without eX5_without rX5_without = true := by decide +kernel
set_option maxRecDepth 100000 in
theorem wX5_without : ∀ w ∈ zwds RX5 mX5_without eX5_without rX5_without, w ∈ gT := zwd_of [757, 758, 114, 759, 289, 288, 501, 495, 496, 116, 497, 289, 170, 289, 176, 289, 289, 195, 732, 734, 27, 114, 735] (by decide +kernel) (by decide +kernel) (z7_no (by decide +kernel))
set_option maxRecDepth 100000 in
theorem xX5_without : ∀ w ∈ zwxs RX5 mX5_without eX5_without rX5_without, zspc w = true ∧ w ∈ lw_tbl := by decide +kernel
theorem tX5_without {l : Launch} (hlt : l.stackTraces = false) : MetA l mX5_without sX5_without := zmet (M := mX5_without) (own := RX5) (envM := eX5_without) hlt rfl (by decide +kernel) (by decide +kernel) rfl (fun j q hq => by
  match j, hq with
  | 0, hq => cases hq; exact tX5_needKey hlt
  | 1, hq => cases hq; exact tX2_copyFrom hlt
  | 2, hq => cases hq; exact tX5_countTours hlt
  | n + 3, hq => cases hq) aX5_without wX5_without xX5_without rfl
def mX5_neededKeys : zm_M := (yX5_neededKeys, cX5_neededKeys, 3, (some .int), (8, 0, 0, 162), 0, [], (1, 6))
def rX5_neededKeys : List zm_R := [(0, .iconst 0, 0, [], 0, 0, (0, 0), false, []),
  (1, .istore_n 1, 0, [], 0, 0, (0, 0), false, []),
  (2, .aload_n 0, 0, [], 0, 0, (0, 0), false, []),
  (3, .invokevirtual 263, 6, [0, 0, 1, 2, 0, 5], 0, 0, (0, 0), false, []),
  (6, .lconst 0, 0, [], 0, 0, (0, 0), false, []),
  (7, .lcmp, 0, [], 0, 0, (0, 0), false, []),
  (8, .ifCond .ne 5, 1, [9], 0, 0, (0, 0), false, []),
  (11, .iload_n 1, 0, [], 0, 0, (0, 0), false, []),
  (12, .ireturn, 5, [0], 0, 0, (0, 0), false, []),
  (13, .iconst 0, 0, [], 0, 0, (0, 0), false, []),
  (14, .istore_n 2, 0, [], 0, 0, (0, 0), false, []),
  (15, .iload_n 2, 0, [], 0, 0, (0, 0), true, []),
  (16, .bipush 8, 0, [], 8, 0, (0, 0), false, []),
  (18, .if_icmp .ge 25, 1, [28], 0, 0, (0, 0), false, []),
  (21, .aload_n 0, 0, [], 0, 0, (0, 0), false, []),
  (22, .iload_n 2, 0, [], 0, 0, (0, 0), false, []),
  (23, .invokevirtual 266, 6, [0, 1, 2, 2, 1, 5], 0, 0, (0, 0), false, []),
  (26, .lconst 0, 0, [], 0, 0, (0, 0), false, []),
  (27, .lcmp, 0, [], 0, 0, (0, 0), false, []),
  (28, .ifCond .ne 9, 1, [26], 0, 0, (0, 0), false, []),
  (31, .iload_n 1, 0, [], 0, 0, (0, 0), false, []),
  (32, .iconst 1, 0, [], 1, 0, (0, 0), false, []),
  (33, .iload_n 2, 0, [], 0, 0, (0, 0), false, []),
  (34, .ishl, 0, [], 0, 0, (0, 0), false, []),
  (35, .ior, 0, [], 0, 0, (0, 0), false, []),
  (36, .istore_n 1, 0, [], 0, 0, (0, 0), false, []),
  (37, .iinc 2 1, 0, [], 1, 0, (0, 0), false, []),
  (40, .goto (-25), 1, [11], 0, 0, (0, 0), false, []),
  (43, .iload_n 1, 0, [], 0, 0, (0, 0), false, []),
  (44, .ireturn, 5, [0], 0, 0, (0, 0), false, [])]
def eX5_neededKeys : List zm_M := [mX5_tours, mX5_without]
noncomputable def vX5_neededKeys : List (zm_M × zm_S) := [(mX5_tours, sX5_tours), (mX5_without, sX5_without)]
noncomputable def sX5_neededKeys : zm_S := zsem vX5_neededKeys rX5_neededKeys 3
set_option maxRecDepth 100000 in
theorem aX5_neededKeys : zall RX5 mX5_neededKeys eX5_neededKeys rX5_neededKeys = true := by decide +kernel
set_option maxRecDepth 100000 in
theorem wX5_neededKeys : ∀ w ∈ zwds RX5 mX5_neededKeys eX5_neededKeys rX5_neededKeys, w ∈ gT := zwd_of [752, 552, 553, 114, 554, 753, 754, 755, 114, 756] (by decide +kernel) (by decide +kernel) (z7_no (by decide +kernel))
set_option maxRecDepth 100000 in
theorem xX5_neededKeys : ∀ w ∈ zwxs RX5 mX5_neededKeys eX5_neededKeys rX5_neededKeys, zspc w = true ∧ w ∈ lw_tbl := by decide +kernel
theorem tX5_neededKeys {l : Launch} (hlt : l.stackTraces = false) : MetA l mX5_neededKeys sX5_neededKeys := zmet (M := mX5_neededKeys) (own := RX5) (envM := eX5_neededKeys) hlt rfl (by decide +kernel) (by decide +kernel) rfl (fun j q hq => by
  match j, hq with
  | 0, hq => cases hq; exact tX5_tours hlt
  | 1, hq => cases hq; exact tX5_without hlt
  | n + 2, hq => cases hq) aX5_neededKeys wX5_neededKeys xX5_neededKeys rfl
def mX5_toursWithout : zm_M := (yX5_toursWithout, cX5_toursWithout, 2, (some .long), (7, 0, 0, 141), 1, [], (1, 6))
def rX5_toursWithout : List zm_R := [(0, .aload_n 0, 0, [], 0, 0, (0, 0), false, []),
  (1, .iload_n 1, 0, [], 0, 0, (0, 0), false, []),
  (2, .invokevirtual 162, 6, [0, 0, 2, 0, 1, 5], 0, 0, (0, 0), false, []),
  (5, .aload_n 0, 0, [], 0, 0, (0, 0), false, []),
  (6, .getfield 28, 2, [5, 3, 12, 2], 0, 0, (0, 0), false, []),
  (9, .aload_n 0, 0, [], 0, 0, (0, 0), false, []),
  (10, .getfield 24, 2, [5, 2, 12, 2], 0, 0, (0, 0), false, []),
  (13, .invokevirtual 103, 6, [0, 1, 2, 0, 0, 2], 0, 0, (0, 0), false, []),
  (16, .aload_n 0, 0, [], 0, 0, (0, 0), false, []),
  (17, .getfield 28, 2, [5, 3, 12, 2], 0, 0, (0, 0), false, []),
  (20, .iload_n 1, 0, [], 0, 0, (0, 0), false, []),
  (21, .invokevirtual 269, 6, [0, 2, 2, 0, 0, 2], 0, 0, (0, 0), false, []),
  (24, .aload_n 0, 0, [], 0, 0, (0, 0), false, []),
  (25, .aload_n 0, 0, [], 0, 0, (0, 0), false, []),
  (26, .getfield 28, 2, [5, 3, 12, 2], 0, 0, (0, 0), false, []),
  (29, .aload_n 0, 0, [], 0, 0, (0, 0), false, []),
  (30, .getfield 28, 2, [5, 3, 12, 2], 0, 0, (0, 0), false, []),
  (33, .getfield 121, 2, [2, 10, 15, 0], 0, 0, (0, 0), false, []),
  (36, .invokevirtual 253, 6, [0, 3, 3, 2, 0, 5], 0, 0, (0, 0), false, []),
  (39, .lreturn, 5, [], 0, 0, (0, 0), false, [])]
def eX5_toursWithout : List zm_M := [mX5_needDoor, mX2_copyFrom, mX2_dropDoor, mX5_countTours]
noncomputable def vX5_toursWithout : List (zm_M × zm_S) := [(mX5_needDoor, sX5_needDoor), (mX2_copyFrom, sX2_copyFrom), (mX2_dropDoor, sX2_dropDoor), (mX5_countTours, sX5_countTours)]
noncomputable def sX5_toursWithout : zm_S := zsem vX5_toursWithout rX5_toursWithout 2
set_option maxRecDepth 100000 in
theorem aX5_toursWithout : zall RX5 mX5_toursWithout eX5_toursWithout rX5_toursWithout = true := by decide +kernel
set_option maxRecDepth 100000 in
theorem wX5_toursWithout : ∀ w ∈ zwds RX5 mX5_toursWithout eX5_toursWithout rX5_toursWithout, w ∈ gT := zwd_of [769, 771, 28, 114, 772, 289, 288, 501, 495, 496, 116, 497, 289, 774, 775, 776, 116, 777, 289, 289, 195, 732, 734, 27, 114, 735] (by decide +kernel) (by decide +kernel) (z7_no (by decide +kernel))
set_option maxRecDepth 100000 in
theorem xX5_toursWithout : ∀ w ∈ zwxs RX5 mX5_toursWithout eX5_toursWithout rX5_toursWithout, zspc w = true ∧ w ∈ lw_tbl := by decide +kernel
theorem tX5_toursWithout {l : Launch} (hlt : l.stackTraces = false) : MetA l mX5_toursWithout sX5_toursWithout := zmet (M := mX5_toursWithout) (own := RX5) (envM := eX5_toursWithout) hlt rfl (by decide +kernel) (by decide +kernel) rfl (fun j q hq => by
  match j, hq with
  | 0, hq => cases hq; exact tX5_needDoor hlt
  | 1, hq => cases hq; exact tX2_copyFrom hlt
  | 2, hq => cases hq; exact tX2_dropDoor hlt
  | 3, hq => cases hq; exact tX5_countTours hlt
  | n + 4, hq => cases hq) aX5_toursWithout wX5_toursWithout xX5_toursWithout rfl
def mX5_neededDoors : zm_M := (yX5_neededDoors, cX5_neededDoors, 3, (some .int), (8, 0, 0, 162), 0, [], (1, 6))
def rX5_neededDoors : List zm_R := [(0, .iconst 0, 0, [], 0, 0, (0, 0), false, []),
  (1, .istore_n 1, 0, [], 0, 0, (0, 0), false, []),
  (2, .aload_n 0, 0, [], 0, 0, (0, 0), false, []),
  (3, .invokevirtual 263, 6, [0, 0, 1, 2, 0, 5], 0, 0, (0, 0), false, []),
  (6, .lconst 0, 0, [], 0, 0, (0, 0), false, []),
  (7, .lcmp, 0, [], 0, 0, (0, 0), false, []),
  (8, .ifCond .ne 5, 1, [9], 0, 0, (0, 0), false, []),
  (11, .iload_n 1, 0, [], 0, 0, (0, 0), false, []),
  (12, .ireturn, 5, [0], 0, 0, (0, 0), false, []),
  (13, .iconst 0, 0, [], 0, 0, (0, 0), false, []),
  (14, .istore_n 2, 0, [], 0, 0, (0, 0), false, []),
  (15, .iload_n 2, 0, [], 0, 0, (0, 0), true, []),
  (16, .aload_n 0, 0, [], 0, 0, (0, 0), false, []),
  (17, .getfield 24, 2, [5, 2, 12, 2], 0, 0, (0, 0), false, []),
  (20, .getfield 118, 2, [2, 4, 15, 0], 0, 0, (0, 0), false, []),
  (23, .if_icmp .ge 25, 1, [30], 0, 0, (0, 0), false, []),
  (26, .aload_n 0, 0, [], 0, 0, (0, 0), false, []),
  (27, .iload_n 2, 0, [], 0, 0, (0, 0), false, []),
  (28, .invokevirtual 272, 6, [0, 1, 2, 2, 1, 5], 0, 0, (0, 0), false, []),
  (31, .lconst 0, 0, [], 0, 0, (0, 0), false, []),
  (32, .lcmp, 0, [], 0, 0, (0, 0), false, []),
  (33, .ifCond .ne 9, 1, [28], 0, 0, (0, 0), false, []),
  (36, .iload_n 1, 0, [], 0, 0, (0, 0), false, []),
  (37, .iconst 1, 0, [], 1, 0, (0, 0), false, []),
  (38, .iload_n 2, 0, [], 0, 0, (0, 0), false, []),
  (39, .ishl, 0, [], 0, 0, (0, 0), false, []),
  (40, .ior, 0, [], 0, 0, (0, 0), false, []),
  (41, .istore_n 1, 0, [], 0, 0, (0, 0), false, []),
  (42, .iinc 2 1, 0, [], 1, 0, (0, 0), false, []),
  (45, .goto (-30), 1, [11], 0, 0, (0, 0), false, []),
  (48, .iload_n 1, 0, [], 0, 0, (0, 0), false, []),
  (49, .ireturn, 5, [0], 0, 0, (0, 0), false, [])]
def eX5_neededDoors : List zm_M := [mX5_tours, mX5_toursWithout]
noncomputable def vX5_neededDoors : List (zm_M × zm_S) := [(mX5_tours, sX5_tours), (mX5_toursWithout, sX5_toursWithout)]
noncomputable def sX5_neededDoors : zm_S := zsem vX5_neededDoors rX5_neededDoors 3
set_option maxRecDepth 100000 in
theorem aX5_neededDoors : zall RX5 mX5_neededDoors eX5_neededDoors rX5_neededDoors = true := by decide +kernel
set_option maxRecDepth 100000 in
theorem wX5_neededDoors : ∀ w ∈ zwds RX5 mX5_neededDoors eX5_neededDoors rX5_neededDoors, w ∈ gT := zwd_of [752, 552, 553, 114, 554, 288, 182, 765, 766, 767, 114, 768] (by decide +kernel) (by decide +kernel) (z7_no (by decide +kernel))
set_option maxRecDepth 100000 in
theorem xX5_neededDoors : ∀ w ∈ zwxs RX5 mX5_neededDoors eX5_neededDoors rX5_neededDoors, zspc w = true ∧ w ∈ lw_tbl := by decide +kernel
theorem tX5_neededDoors {l : Launch} (hlt : l.stackTraces = false) : MetA l mX5_neededDoors sX5_neededDoors := zmet (M := mX5_neededDoors) (own := RX5) (envM := eX5_neededDoors) hlt rfl (by decide +kernel) (by decide +kernel) rfl (fun j q hq => by
  match j, hq with
  | 0, hq => cases hq; exact tX5_tours hlt
  | 1, hq => cases hq; exact tX5_toursWithout hlt
  | n + 2, hq => cases hq) aX5_neededDoors wX5_neededDoors xX5_neededDoors rfl
def mX5_toursIfOpen : zm_M := (yX5_toursIfOpen, cX5_toursIfOpen, 2, (some .long), (7, 0, 0, 141), 1, [], (1, 6))
def rX5_toursIfOpen : List zm_R := [(0, .aload_n 0, 0, [], 0, 0, (0, 0), false, []),
  (1, .iload_n 1, 0, [], 0, 0, (0, 0), false, []),
  (2, .invokevirtual 162, 6, [0, 0, 2, 0, 1, 5], 0, 0, (0, 0), false, []),
  (5, .aload_n 0, 0, [], 0, 0, (0, 0), false, []),
  (6, .getfield 28, 2, [5, 3, 12, 2], 0, 0, (0, 0), false, []),
  (9, .aload_n 0, 0, [], 0, 0, (0, 0), false, []),
  (10, .getfield 24, 2, [5, 2, 12, 2], 0, 0, (0, 0), false, []),
  (13, .invokevirtual 103, 6, [0, 1, 2, 0, 0, 2], 0, 0, (0, 0), false, []),
  (16, .aload_n 0, 0, [], 0, 0, (0, 0), false, []),
  (17, .getfield 28, 2, [5, 3, 12, 2], 0, 0, (0, 0), false, []),
  (20, .iload_n 1, 0, [], 0, 0, (0, 0), false, []),
  (21, .iconst 0, 0, [], 0, 0, (0, 0), false, []),
  (22, .iconst 0, 0, [], 0, 0, (0, 0), false, []),
  (23, .invokevirtual 275, 6, [0, 2, 4, 0, 0, 2], 0, 0, (0, 0), false, []),
  (26, .aload_n 0, 0, [], 0, 0, (0, 0), false, []),
  (27, .getfield 28, 2, [5, 3, 12, 2], 0, 0, (0, 0), false, []),
  (30, .getfield 177, 2, [2, 9, 15, 2], 0, 0, (0, 0), false, []),
  (33, .iload_n 1, 0, [], 0, 0, (0, 0), false, []),
  (34, .iconst 0, 0, [], 0, 0, (0, 0), false, []),
  (35, .bastore, 3, [3], 0, 0, (0, 0), false, []),
  (36, .aload_n 0, 0, [], 0, 0, (0, 0), false, []),
  (37, .aload_n 0, 0, [], 0, 0, (0, 0), false, []),
  (38, .getfield 28, 2, [5, 3, 12, 2], 0, 0, (0, 0), false, []),
  (41, .aload_n 0, 0, [], 0, 0, (0, 0), false, []),
  (42, .getfield 28, 2, [5, 3, 12, 2], 0, 0, (0, 0), false, []),
  (45, .getfield 121, 2, [2, 10, 15, 0], 0, 0, (0, 0), false, []),
  (48, .invokevirtual 253, 6, [0, 3, 3, 2, 0, 5], 0, 0, (0, 0), false, []),
  (51, .lreturn, 5, [], 0, 0, (0, 0), false, [])]
def eX5_toursIfOpen : List zm_M := [mX5_needDoor, mX2_copyFrom, mX2_lock, mX5_countTours]
noncomputable def vX5_toursIfOpen : List (zm_M × zm_S) := [(mX5_needDoor, sX5_needDoor), (mX2_copyFrom, sX2_copyFrom), (mX2_lock, sX2_lock), (mX5_countTours, sX5_countTours)]
noncomputable def sX5_toursIfOpen : zm_S := zsem vX5_toursIfOpen rX5_toursIfOpen 2
set_option maxRecDepth 100000 in
theorem aX5_toursIfOpen : zall RX5 mX5_toursIfOpen eX5_toursIfOpen rX5_toursIfOpen = true := by decide +kernel
set_option maxRecDepth 100000 in
theorem wX5_toursIfOpen : ∀ w ∈ zwds RX5 mX5_toursIfOpen eX5_toursIfOpen rX5_toursIfOpen, w ∈ gT := zwd_of [769, 771, 28, 114, 772, 289, 288, 501, 495, 496, 116, 497, 289, 786, 462, 463, 116, 464, 289, 193, 289, 289, 195, 732, 734, 27, 114, 735] (by decide +kernel) (by decide +kernel) (z7_no (by decide +kernel))
set_option maxRecDepth 100000 in
theorem xX5_toursIfOpen : ∀ w ∈ zwxs RX5 mX5_toursIfOpen eX5_toursIfOpen rX5_toursIfOpen, zspc w = true ∧ w ∈ lw_tbl := by decide +kernel
theorem tX5_toursIfOpen {l : Launch} (hlt : l.stackTraces = false) : MetA l mX5_toursIfOpen sX5_toursIfOpen := zmet (M := mX5_toursIfOpen) (own := RX5) (envM := eX5_toursIfOpen) hlt rfl (by decide +kernel) (by decide +kernel) rfl (fun j q hq => by
  match j, hq with
  | 0, hq => cases hq; exact tX5_needDoor hlt
  | 1, hq => cases hq; exact tX2_copyFrom hlt
  | 2, hq => cases hq; exact tX2_lock hlt
  | 3, hq => cases hq; exact tX5_countTours hlt
  | n + 4, hq => cases hq) aX5_toursIfOpen wX5_toursIfOpen xX5_toursIfOpen rfl
def mX5_bestDoor : zm_M := (yX5_bestDoor, cX5_bestDoor, 7, (some .int), (8, 0, 0, 162), 0, [], (1, 6))
def rX5_bestDoor : List zm_R := [(0, .iconst (-1), 0, [], (-1), 0, (0, 0), false, []),
  (1, .istore_n 1, 0, [], 0, 0, (0, 0), false, []),
  (2, .ldc2_w 234, 9, [1], 0, (-1), (0, 0), false, []),
  (5, .lstore_n 2, 0, [], 0, 0, (0, 0), false, []),
  (6, .iconst 0, 0, [], 0, 0, (0, 0), false, []),
  (7, .istore 4, 0, [], 0, 0, (0, 0), false, []),
  (9, .iload 4, 0, [], 0, 0, (0, 0), true, [3, 5, 6]),
  (11, .aload_n 0, 0, [], 0, 0, (0, 0), false, []),
  (12, .getfield 24, 2, [5, 2, 12, 2], 0, 0, (0, 0), false, []),
  (15, .getfield 118, 2, [2, 4, 15, 0], 0, 0, (0, 0), false, []),
  (18, .if_icmp .ge 30, 1, [25], 0, 0, (0, 0), false, []),
  (21, .aload_n 0, 0, [], 0, 0, (0, 0), false, []),
  (22, .iload 4, 0, [], 0, 0, (0, 0), false, []),
  (24, .invokevirtual 279, 6, [0, 0, 2, 2, 1, 5], 0, 0, (0, 0), false, []),
  (27, .lstore 5, 0, [], 0, 0, (0, 0), false, []),
  (29, .lload 5, 0, [], 0, 0, (0, 0), false, []),
  (31, .lload_n 2, 0, [], 0, 0, (0, 0), false, []),
  (32, .lcmp, 0, [], 0, 0, (0, 0), false, []),
  (33, .ifCond .le 9, 1, [23], 0, 0, (0, 0), false, []),
  (36, .lload 5, 0, [], 0, 0, (0, 0), false, []),
  (38, .lstore_n 2, 0, [], 0, 0, (0, 0), false, []),
  (39, .iload 4, 0, [], 0, 0, (0, 0), false, []),
  (41, .istore_n 1, 0, [], 0, 0, (0, 0), false, []),
  (42, .iinc 4 1, 0, [], 1, 0, (0, 0), false, []),
  (45, .goto (-36), 1, [6], 0, 0, (0, 0), false, []),
  (48, .iload_n 1, 0, [], 0, 0, (0, 0), false, []),
  (49, .ireturn, 5, [0], 0, 0, (0, 0), false, [])]
def eX5_bestDoor : List zm_M := [mX5_toursIfOpen]
noncomputable def vX5_bestDoor : List (zm_M × zm_S) := [(mX5_toursIfOpen, sX5_toursIfOpen)]
noncomputable def sX5_bestDoor : zm_S := zsem vX5_bestDoor rX5_bestDoor 7
set_option maxRecDepth 100000 in
theorem aX5_bestDoor : zall RX5 mX5_bestDoor eX5_bestDoor rX5_bestDoor = true := by decide +kernel
set_option maxRecDepth 100000 in
theorem wX5_bestDoor : ∀ w ∈ zwds RX5 mX5_bestDoor eX5_bestDoor rX5_bestDoor, w ∈ gT := zwd_of [693, 288, 182, 782, 783, 784, 114, 785] (by decide +kernel) (by decide +kernel) (z7_no (by decide +kernel))
set_option maxRecDepth 100000 in
theorem xX5_bestDoor : ∀ w ∈ zwxs RX5 mX5_bestDoor eX5_bestDoor rX5_bestDoor, zspc w = true ∧ w ∈ lw_tbl := by decide +kernel
theorem tX5_bestDoor {l : Launch} (hlt : l.stackTraces = false) : MetA l mX5_bestDoor sX5_bestDoor := zmet (M := mX5_bestDoor) (own := RX5) (envM := eX5_bestDoor) hlt rfl (by decide +kernel) (by decide +kernel) rfl (fun j q hq => by
  match j, hq with
  | 0, hq => cases hq; exact tX5_toursIfOpen hlt
  | n + 1, hq => cases hq) aX5_bestDoor wX5_bestDoor xX5_bestDoor rfl
def mX5_needTwoRooms : zm_M := (yX5_needTwoRooms, cX5_needTwoRooms, 3, none, (7, 0, 0, 141), 2, [], (1, 6))
def rX5_needTwoRooms : List zm_R := [(0, .aload_n 0, 0, [], 0, 0, (0, 0), false, []),
  (1, .iload_n 1, 0, [], 0, 0, (0, 0), false, []),
  (2, .invokevirtual 144, 6, [0, 0, 2, 0, 1, 5], 0, 0, (0, 0), false, []),
  (5, .aload_n 0, 0, [], 0, 0, (0, 0), false, []),
  (6, .iload_n 2, 0, [], 0, 0, (0, 0), false, []),
  (7, .invokevirtual 144, 6, [0, 0, 2, 0, 1, 5], 0, 0, (0, 0), false, []),
  (10, .iload_n 1, 0, [], 0, 0, (0, 0), false, []),
  (11, .iload_n 2, 0, [], 0, 0, (0, 0), false, []),
  (12, .if_icmp .ne 14, 1, [10], 0, 0, (0, 0), false, []),
  (15, .new 81, 7, [1, 17, 81, 382, 84, 1], 0, 0, (0, 0), false, []),
  (26, .return_, 5, [], 0, 0, (0, 0), false, [])]
def eX5_needTwoRooms : List zm_M := [mX5_needRoom]
noncomputable def vX5_needTwoRooms : List (zm_M × zm_S) := [(mX5_needRoom, sX5_needRoom)]
noncomputable def sX5_needTwoRooms : zm_S := zsem vX5_needTwoRooms rX5_needTwoRooms 3
set_option maxRecDepth 100000 in
theorem aX5_needTwoRooms : zall RX5 mX5_needTwoRooms eX5_needTwoRooms rX5_needTwoRooms = true := by decide +kernel
set_option maxRecDepth 100000 in
theorem wX5_needTwoRooms : ∀ w ∈ zwds RX5 mX5_needTwoRooms eX5_needTwoRooms rX5_needTwoRooms, w ∈ gT := zwd_of [609, 611, 25, 114, 612, 609, 611, 25, 114, 612] (by decide +kernel) (by decide +kernel) (z7_of (L := [(15, .new 81, 7, [1, 17, 81, 382, 84, 1], 0, 0, (0, 0), false, [])]) rfl (List.forall_mem_cons.mpr ⟨zw7 (x := 1) rfl (gT_in (List.mem_of_getElem? (i := 864) (by decide +kernel)) (by decide +kernel)) (gT_in (List.mem_of_getElem? (i := 124) (by decide +kernel)) (by decide +kernel)) zw7_1, fun _ h => absurd h List.not_mem_nil⟩))
set_option maxRecDepth 100000 in
theorem xX5_needTwoRooms : ∀ w ∈ zwxs RX5 mX5_needTwoRooms eX5_needTwoRooms rX5_needTwoRooms, zspc w = true ∧ w ∈ lw_tbl := by decide +kernel
theorem tX5_needTwoRooms {l : Launch} (hlt : l.stackTraces = false) : MetA l mX5_needTwoRooms sX5_needTwoRooms := zmet (M := mX5_needTwoRooms) (own := RX5) (envM := eX5_needTwoRooms) hlt rfl (by decide +kernel) (by decide +kernel) rfl (fun j q hq => by
  match j, hq with
  | 0, hq => cases hq; exact tX5_needRoom hlt
  | n + 1, hq => cases hq) aX5_needTwoRooms wX5_needTwoRooms xX5_needTwoRooms rfl
def mX5_ahead : zm_M := (yX5_ahead, cX5_ahead, 7, (some .long), (8, 0, 0, 163), 2, [], (1, 6))
def rX5_ahead : List zm_R := [(0, .aload_n 0, 0, [], 0, 0, (0, 0), false, []),
  (1, .iload_n 1, 0, [], 0, 0, (0, 0), false, []),
  (2, .iload_n 2, 0, [], 0, 0, (0, 0), false, []),
  (3, .invokevirtual 282, 6, [0, 0, 3, 0, 1, 5], 0, 0, (0, 0), false, []),
  (6, .aload_n 0, 0, [], 0, 0, (0, 0), false, []),
  (7, .invokevirtual 206, 6, [0, 1, 1, 3, 0, 5], 0, 0, (0, 0), false, []),
  (10, .astore_n 3, 0, [], 0, 0, (0, 0), false, []),
  (11, .lconst 0, 0, [], 0, 0, (0, 0), false, []),
  (12, .lstore 4, 0, [], 0, 0, (0, 0), false, []),
  (14, .iconst 1, 0, [], 1, 0, (0, 0), false, []),
  (15, .istore 6, 0, [], 0, 0, (0, 0), false, []),
  (17, .iload 6, 0, [], 0, 0, (0, 0), true, [5]),
  (19, .aload_n 0, 0, [], 0, 0, (0, 0), false, []),
  (20, .getfield 24, 2, [5, 2, 12, 2], 0, 0, (0, 0), false, []),
  (23, .invokevirtual 257, 6, [0, 2, 1, 1, 0, 2], 0, 0, (0, 0), false, []),
  (26, .if_icmp .gt 30, 1, [29], 0, 0, (0, 0), false, []),
  (29, .iload 6, 0, [], 0, 0, (0, 0), false, []),
  (31, .iload_n 2, 0, [], 0, 0, (0, 0), false, []),
  (32, .invokestatic 183, 6, [1, 3, 2, 1, 0, 5], 0, 0, (0, 0), false, []),
  (35, .ifCond .ne 15, 1, [27], 0, 0, (0, 0), false, []),
  (38, .lload 4, 0, [], 0, 0, (0, 0), false, []),
  (40, .aload_n 3, 0, [], 0, 0, (0, 0), false, []),
  (41, .iload 6, 0, [], 0, 0, (0, 0), false, []),
  (43, .iload_n 1, 0, [], 0, 0, (0, 0), false, []),
  (44, .invokevirtual 286, 6, [0, 4, 3, 2, 0, 4], 0, 0, (0, 0), false, []),
  (47, .ladd, 0, [], 0, 0, (0, 0), false, []),
  (48, .lstore 4, 0, [], 0, 0, (0, 0), false, []),
  (50, .iinc 6 1, 0, [], 1, 0, (0, 0), false, []),
  (53, .goto (-36), 1, [11], 0, 0, (0, 0), false, []),
  (56, .lload 4, 0, [], 0, 0, (0, 0), false, []),
  (58, .lreturn, 5, [], 0, 0, (0, 0), false, [])]
def eX5_ahead : List zm_M := [mX5_needTwoRooms, mX5_solved, mX2_everyRoom, mX5_has, mX4_toursBy]
noncomputable def vX5_ahead : List (zm_M × zm_S) := [(mX5_needTwoRooms, sX5_needTwoRooms), (mX5_solved, sX5_solved), (mX2_everyRoom, sX2_everyRoom), (mX5_has, sX5_has), (mX4_toursBy, sX4_toursBy)]
noncomputable def sX5_ahead : zm_S := zsem vX5_ahead rX5_ahead 7
set_option maxRecDepth 100000 in
theorem aX5_ahead : zall RX5 mX5_ahead eX5_ahead rX5_ahead = true := by decide +kernel
set_option maxRecDepth 100000 in
theorem wX5_ahead : ∀ w ∈ zwds RX5 mX5_ahead eX5_ahead rX5_ahead, w ∈ gT := zwd_of [1021, 1023, 33, 114, 1024, 555, 557, 21, 114, 558, 288, 796, 565, 566, 116, 567, 683, 435, 114, 436, 1026, 1027, 1028, 118, 1029] (by decide +kernel) (by decide +kernel) (z7_no (by decide +kernel))
set_option maxRecDepth 100000 in
theorem xX5_ahead : ∀ w ∈ zwxs RX5 mX5_ahead eX5_ahead rX5_ahead, zspc w = true ∧ w ∈ lw_tbl := by decide +kernel
theorem tX5_ahead {l : Launch} (hlt : l.stackTraces = false) : MetA l mX5_ahead sX5_ahead := zmet (M := mX5_ahead) (own := RX5) (envM := eX5_ahead) hlt rfl (by decide +kernel) (by decide +kernel) rfl (fun j q hq => by
  match j, hq with
  | 0, hq => cases hq; exact tX5_needTwoRooms hlt
  | 1, hq => cases hq; exact tX5_solved hlt
  | 2, hq => cases hq; exact tX2_everyRoom hlt
  | 3, hq => cases hq; exact tX5_has hlt
  | 4, hq => cases hq; exact tX4_toursBy hlt
  | n + 5, hq => cases hq) aX5_ahead wX5_ahead xX5_ahead rfl
def mX5_atPlace : zm_M := (yX5_atPlace, cX5_atPlace, 7, (some .long), (7, 0, 0, 141), 2, [], (1, 6))
def rX5_atPlace : List zm_R := [(0, .aload_n 0, 0, [], 0, 0, (0, 0), false, []),
  (1, .iload_n 1, 0, [], 0, 0, (0, 0), false, []),
  (2, .invokevirtual 144, 6, [0, 0, 2, 0, 1, 5], 0, 0, (0, 0), false, []),
  (5, .aload_n 0, 0, [], 0, 0, (0, 0), false, []),
  (6, .iload_n 2, 0, [], 0, 0, (0, 0), false, []),
  (7, .invokevirtual 225, 6, [0, 1, 2, 0, 1, 5], 0, 0, (0, 0), false, []),
  (10, .aload_n 0, 0, [], 0, 0, (0, 0), false, []),
  (11, .invokevirtual 206, 6, [0, 2, 1, 3, 0, 5], 0, 0, (0, 0), false, []),
  (14, .astore_n 3, 0, [], 0, 0, (0, 0), false, []),
  (15, .lconst 0, 0, [], 0, 0, (0, 0), false, []),
  (16, .lstore 4, 0, [], 0, 0, (0, 0), false, []),
  (18, .iconst 1, 0, [], 1, 0, (0, 0), false, []),
  (19, .istore 6, 0, [], 0, 0, (0, 0), false, []),
  (21, .iload 6, 0, [], 0, 0, (0, 0), true, [5]),
  (23, .aload_n 0, 0, [], 0, 0, (0, 0), false, []),
  (24, .getfield 24, 2, [5, 2, 12, 2], 0, 0, (0, 0), false, []),
  (27, .invokevirtual 257, 6, [0, 3, 1, 1, 0, 2], 0, 0, (0, 0), false, []),
  (30, .if_icmp .gt 32, 1, [33], 0, 0, (0, 0), false, []),
  (33, .iload 6, 0, [], 0, 0, (0, 0), false, []),
  (35, .invokestatic 289, 6, [1, 4, 1, 1, 0, 0], 0, 0, (0, 0), false, []),
  (38, .iload_n 2, 0, [], 0, 0, (0, 0), false, []),
  (39, .iconst 1, 0, [], 1, 0, (0, 0), false, []),
  (40, .iadd, 0, [], 0, 0, (0, 0), false, []),
  (41, .if_icmp .ne 15, 1, [31], 0, 0, (0, 0), false, []),
  (44, .lload 4, 0, [], 0, 0, (0, 0), false, []),
  (46, .aload_n 3, 0, [], 0, 0, (0, 0), false, []),
  (47, .iload 6, 0, [], 0, 0, (0, 0), false, []),
  (49, .iload_n 1, 0, [], 0, 0, (0, 0), false, []),
  (50, .invokevirtual 286, 6, [0, 5, 3, 2, 0, 4], 0, 0, (0, 0), false, []),
  (53, .ladd, 0, [], 0, 0, (0, 0), false, []),
  (54, .lstore 4, 0, [], 0, 0, (0, 0), false, []),
  (56, .iinc 6 1, 0, [], 1, 0, (0, 0), false, []),
  (59, .goto (-38), 1, [13], 0, 0, (0, 0), false, []),
  (62, .lload 4, 0, [], 0, 0, (0, 0), false, []),
  (64, .lreturn, 5, [], 0, 0, (0, 0), false, [])]
def eX5_atPlace : List zm_M := [mX5_needRoom, mX5_needPlace, mX5_solved, mX2_everyRoom, mJ6_bitCount_0f7a4, mX4_toursBy]
noncomputable def vX5_atPlace : List (zm_M × zm_S) := [(mX5_needRoom, sX5_needRoom), (mX5_needPlace, sX5_needPlace), (mX5_solved, sX5_solved), (mX2_everyRoom, sX2_everyRoom), (mJ6_bitCount_0f7a4, sJ6_bitCount_0f7a4), (mX4_toursBy, sX4_toursBy)]
noncomputable def sX5_atPlace : zm_S := zsem vX5_atPlace rX5_atPlace 7
set_option maxRecDepth 100000 in
theorem aX5_atPlace : zall RX5 mX5_atPlace eX5_atPlace rX5_atPlace = true := by decide +kernel
set_option maxRecDepth 100000 in
theorem wX5_atPlace : ∀ w ∈ zwds RX5 mX5_atPlace eX5_atPlace rX5_atPlace, w ∈ gT := zwd_of [609, 611, 25, 114, 612, 978, 980, 31, 114, 981, 555, 557, 21, 114, 558, 288, 796, 565, 566, 116, 567, 1037, 708, 135, 709, 1026, 1027, 1028, 118, 1029] (by decide +kernel) (by decide +kernel) (z7_no (by decide +kernel))
set_option maxRecDepth 100000 in
theorem xX5_atPlace : ∀ w ∈ zwxs RX5 mX5_atPlace eX5_atPlace rX5_atPlace, zspc w = true ∧ w ∈ lw_tbl := by decide +kernel
theorem tX5_atPlace {l : Launch} (hlt : l.stackTraces = false) : MetA l mX5_atPlace sX5_atPlace := zmet (M := mX5_atPlace) (own := RX5) (envM := eX5_atPlace) hlt rfl (by decide +kernel) (by decide +kernel) rfl (fun j q hq => by
  match j, hq with
  | 0, hq => cases hq; exact tX5_needRoom hlt
  | 1, hq => cases hq; exact tX5_needPlace hlt
  | 2, hq => cases hq; exact tX5_solved hlt
  | 3, hq => cases hq; exact tX2_everyRoom hlt
  | 4, hq => cases hq; exact tJ6_bitCount_0f7a4 hlt
  | 5, hq => cases hq; exact tX4_toursBy hlt
  | n + 6, hq => cases hq) aX5_atPlace wX5_atPlace xX5_atPlace rfl
def mX5_behind : zm_M := (yX5_behind, cX5_behind, 7, (some .long), (8, 0, 0, 163), 2, [], (1, 6))
def rX5_behind : List zm_R := [(0, .aload_n 0, 0, [], 0, 0, (0, 0), false, []),
  (1, .iload_n 1, 0, [], 0, 0, (0, 0), false, []),
  (2, .iload_n 2, 0, [], 0, 0, (0, 0), false, []),
  (3, .invokevirtual 282, 6, [0, 0, 3, 0, 1, 5], 0, 0, (0, 0), false, []),
  (6, .aload_n 0, 0, [], 0, 0, (0, 0), false, []),
  (7, .invokevirtual 206, 6, [0, 1, 1, 3, 0, 5], 0, 0, (0, 0), false, []),
  (10, .astore_n 3, 0, [], 0, 0, (0, 0), false, []),
  (11, .lconst 0, 0, [], 0, 0, (0, 0), false, []),
  (12, .lstore 4, 0, [], 0, 0, (0, 0), false, []),
  (14, .iconst 1, 0, [], 1, 0, (0, 0), false, []),
  (15, .istore 6, 0, [], 0, 0, (0, 0), false, []),
  (17, .iload 6, 0, [], 0, 0, (0, 0), true, [5]),
  (19, .aload_n 0, 0, [], 0, 0, (0, 0), false, []),
  (20, .getfield 24, 2, [5, 2, 12, 2], 0, 0, (0, 0), false, []),
  (23, .invokevirtual 257, 6, [0, 2, 1, 1, 0, 2], 0, 0, (0, 0), false, []),
  (26, .if_icmp .gt 22, 1, [26], 0, 0, (0, 0), false, []),
  (29, .lload 4, 0, [], 0, 0, (0, 0), false, []),
  (31, .aload_n 3, 0, [], 0, 0, (0, 0), false, []),
  (32, .iload 6, 0, [], 0, 0, (0, 0), false, []),
  (34, .iload_n 1, 0, [], 0, 0, (0, 0), false, []),
  (35, .iload_n 2, 0, [], 0, 0, (0, 0), false, []),
  (36, .invokevirtual 294, 6, [0, 3, 4, 2, 0, 4], 0, 0, (0, 0), false, []),
  (39, .ladd, 0, [], 0, 0, (0, 0), false, []),
  (40, .lstore 4, 0, [], 0, 0, (0, 0), false, []),
  (42, .iinc 6 1, 0, [], 1, 0, (0, 0), false, []),
  (45, .goto (-28), 1, [11], 0, 0, (0, 0), false, []),
  (48, .lload 4, 0, [], 0, 0, (0, 0), false, []),
  (50, .lreturn, 5, [], 0, 0, (0, 0), false, [])]
def eX5_behind : List zm_M := [mX5_needTwoRooms, mX5_solved, mX2_everyRoom, mX4_toursByStep]
noncomputable def vX5_behind : List (zm_M × zm_S) := [(mX5_needTwoRooms, sX5_needTwoRooms), (mX5_solved, sX5_solved), (mX2_everyRoom, sX2_everyRoom), (mX4_toursByStep, sX4_toursByStep)]
noncomputable def sX5_behind : zm_S := zsem vX5_behind rX5_behind 7
set_option maxRecDepth 100000 in
theorem aX5_behind : zall RX5 mX5_behind eX5_behind rX5_behind = true := by decide +kernel
set_option maxRecDepth 100000 in
theorem wX5_behind : ∀ w ∈ zwds RX5 mX5_behind eX5_behind rX5_behind, w ∈ gT := zwd_of [1021, 1023, 33, 114, 1024, 555, 557, 21, 114, 558, 288, 796, 565, 566, 116, 567, 1045, 1046, 1047, 118, 1048] (by decide +kernel) (by decide +kernel) (z7_no (by decide +kernel))
set_option maxRecDepth 100000 in
theorem xX5_behind : ∀ w ∈ zwxs RX5 mX5_behind eX5_behind rX5_behind, zspc w = true ∧ w ∈ lw_tbl := by decide +kernel
theorem tX5_behind {l : Launch} (hlt : l.stackTraces = false) : MetA l mX5_behind sX5_behind := zmet (M := mX5_behind) (own := RX5) (envM := eX5_behind) hlt rfl (by decide +kernel) (by decide +kernel) rfl (fun j q hq => by
  match j, hq with
  | 0, hq => cases hq; exact tX5_needTwoRooms hlt
  | 1, hq => cases hq; exact tX5_solved hlt
  | 2, hq => cases hq; exact tX2_everyRoom hlt
  | 3, hq => cases hq; exact tX4_toursByStep hlt
  | n + 4, hq => cases hq) aX5_behind wX5_behind xX5_behind rfl
def mX5_share : zm_M := (yX5_share, cX5_share, 7, (some .double), (8, 0, 0, 167), 2, [], (1, 6))
def rX5_share : List zm_R := [(0, .aload_n 0, 0, [], 0, 0, (0, 0), false, []),
  (1, .iload_n 1, 0, [], 0, 0, (0, 0), false, []),
  (2, .iload_n 2, 0, [], 0, 0, (0, 0), false, []),
  (3, .invokevirtual 298, 6, [0, 0, 3, 2, 1, 5], 0, 0, (0, 0), false, []),
  (6, .lstore_n 3, 0, [], 0, 0, (0, 0), false, []),
  (7, .aload_n 0, 0, [], 0, 0, (0, 0), false, []),
  (8, .invokevirtual 263, 6, [0, 1, 1, 2, 0, 5], 0, 0, (0, 0), false, []),
  (11, .lstore 5, 0, [], 0, 0, (0, 0), false, []),
  (13, .lload 5, 0, [], 0, 0, (0, 0), false, []),
  (15, .lconst 0, 0, [], 0, 0, (0, 0), false, []),
  (16, .lcmp, 0, [], 0, 0, (0, 0), false, []),
  (17, .ifCond .ne 7, 1, [14], 0, 0, (0, 0), false, []),
  (20, .dconst 0, 0, [], 0, 0, (0, 0), false, []),
  (21, .goto 9, 1, [19], 0, 0, (0, 0), false, []),
  (24, .lload_n 3, 0, [], 0, 0, (0, 0), false, []),
  (25, .l2d, 0, [], 0, 0, (0, 0), false, []),
  (26, .lload 5, 0, [], 0, 0, (0, 0), false, []),
  (28, .l2d, 0, [], 0, 0, (0, 0), false, []),
  (29, .ddiv, 11, [], 0, 0, (0, 0), false, []),
  (30, .dreturn, 5, [], 0, 0, (0, 0), false, [])]
def eX5_share : List zm_M := [mX5_atPlace, mX5_tours]
noncomputable def vX5_share : List (zm_M × zm_S) := [(mX5_atPlace, sX5_atPlace), (mX5_tours, sX5_tours)]
noncomputable def sX5_share : zm_S := zsem vX5_share rX5_share 7
set_option maxRecDepth 100000 in
theorem aX5_share : zall RX5 mX5_share eX5_share rX5_share = true := by decide +kernel
set_option maxRecDepth 100000 in
theorem wX5_share : ∀ w ∈ zwds RX5 mX5_share eX5_share rX5_share, w ∈ gT := zwd_of [1056, 1034, 1035, 114, 1036, 752, 552, 553, 114, 554] (by decide +kernel) (by decide +kernel) (z7_no (by decide +kernel))
set_option maxRecDepth 100000 in
theorem xX5_share : ∀ w ∈ zwxs RX5 mX5_share eX5_share rX5_share, zspc w = true ∧ w ∈ lw_tbl := by decide +kernel
theorem tX5_share {l : Launch} (hlt : l.stackTraces = false) : MetA l mX5_share sX5_share := zmet (M := mX5_share) (own := RX5) (envM := eX5_share) hlt rfl (by decide +kernel) (by decide +kernel) rfl (fun j q hq => by
  match j, hq with
  | 0, hq => cases hq; exact tX5_atPlace hlt
  | 1, hq => cases hq; exact tX5_tours hlt
  | n + 2, hq => cases hq) aX5_share wX5_share xX5_share rfl
def mX5_shown : zm_M := (yX5_shown, cX5_shown, 1, (some .float), (0, 0, 0, 0), 0, [], (0, 0))
def rX5_shown : List zm_R := [(0, .aload_n 0, 0, [], 0, 0, (0, 0), false, []),
  (1, .getfield 24, 2, [5, 2, 12, 2], 0, 0, (0, 0), false, []),
  (4, .getfield 107, 2, [2, 0, 15, 0], 0, 0, (0, 0), false, []),
  (7, .ifCond .ne 7, 1, [6], 0, 0, (0, 0), false, []),
  (10, .fconst 0, 0, [], 0, 0, (0, 0), false, []),
  (11, .goto 20, 1, [15], 0, 0, (0, 0), false, []),
  (14, .aload_n 0, 0, [], 0, 0, (0, 0), false, []),
  (15, .getfield 24, 2, [5, 2, 12, 2], 0, 0, (0, 0), false, []),
  (18, .getfield 127, 2, [2, 13, 15, 0], 0, 0, (0, 0), false, []),
  (21, .i2f, 0, [], 0, 0, (0, 0), false, []),
  (22, .aload_n 0, 0, [], 0, 0, (0, 0), false, []),
  (23, .getfield 24, 2, [5, 2, 12, 2], 0, 0, (0, 0), false, []),
  (26, .getfield 107, 2, [2, 0, 15, 0], 0, 0, (0, 0), false, []),
  (29, .i2f, 0, [], 0, 0, (0, 0), false, []),
  (30, .fdiv, 11, [], 0, 0, (0, 0), false, []),
  (31, .freturn, 5, [], 0, 0, (0, 0), false, [])]
def eX5_shown : List zm_M := []
noncomputable def vX5_shown : List (zm_M × zm_S) := []
noncomputable def sX5_shown : zm_S := zsem vX5_shown rX5_shown 1
set_option maxRecDepth 100000 in
theorem aX5_shown : zall RX5 mX5_shown eX5_shown rX5_shown = true := by decide +kernel
set_option maxRecDepth 100000 in
theorem wX5_shown : ∀ w ∈ zwds RX5 mX5_shown eX5_shown rX5_shown, w ∈ gT := zwd_of [288, 170, 288, 202, 288, 170] (by decide +kernel) (by decide +kernel) (z7_no (by decide +kernel))
set_option maxRecDepth 100000 in
theorem xX5_shown : ∀ w ∈ zwxs RX5 mX5_shown eX5_shown rX5_shown, zspc w = true ∧ w ∈ lw_tbl := by decide +kernel
theorem tX5_shown {l : Launch} (hlt : l.stackTraces = false) : MetA l mX5_shown sX5_shown := zmet (M := mX5_shown) (own := RX5) (envM := eX5_shown) hlt rfl (by decide +kernel) (by decide +kernel) rfl (fun j q hq => by cases hq) aX5_shown wX5_shown xX5_shown rfl
def mX5_leastCoins : zm_M := (yX5_leastCoins, cX5_leastCoins, 6, (some .int), (6, 0, 0, 136), 0, [], (0, 0))
def rX5_leastCoins : List zm_R := [(0, .aload_n 0, 0, [], 0, 0, (0, 0), false, []),
  (1, .invokevirtual 301, 6, [0, 0, 1, 1, 0, 5], 0, 0, (0, 0), false, []),
  (4, .istore_n 1, 0, [], 0, 0, (0, 0), false, []),
  (5, .aload_n 0, 0, [], 0, 0, (0, 0), false, []),
  (6, .getfield 24, 2, [5, 2, 12, 2], 0, 0, (0, 0), false, []),
  (9, .aload_n 0, 0, [], 0, 0, (0, 0), false, []),
  (10, .getfield 24, 2, [5, 2, 12, 2], 0, 0, (0, 0), false, []),
  (13, .invokevirtual 257, 6, [0, 1, 1, 1, 0, 2], 0, 0, (0, 0), false, []),
  (16, .invokevirtual 139, 6, [0, 2, 2, 1, 0, 2], 0, 0, (0, 0), false, []),
  (19, .istore_n 2, 0, [], 0, 0, (0, 0), false, []),
  (20, .iconst (-1), 0, [], (-1), 0, (0, 0), false, []),
  (21, .istore_n 3, 0, [], 0, 0, (0, 0), false, []),
  (22, .iconst 0, 0, [], 0, 0, (0, 0), false, []),
  (23, .istore 4, 0, [], 0, 0, (0, 0), false, []),
  (25, .iload 4, 0, [], 0, 0, (0, 0), true, [5]),
  (27, .aload_n 0, 0, [], 0, 0, (0, 0), false, []),
  (28, .getfield 24, 2, [5, 2, 12, 2], 0, 0, (0, 0), false, []),
  (31, .getfield 107, 2, [2, 0, 15, 0], 0, 0, (0, 0), false, []),
  (34, .if_icmp .ge 46, 1, [41], 0, 0, (0, 0), false, []),
  (37, .iload_n 2, 0, [], 0, 0, (0, 0), false, []),
  (38, .aload_n 0, 0, [], 0, 0, (0, 0), false, []),
  (39, .getfield 24, 2, [5, 2, 12, 2], 0, 0, (0, 0), false, []),
  (42, .getfield 150, 2, [2, 3, 15, 2], 0, 0, (0, 0), false, []),
  (45, .iload 4, 0, [], 0, 0, (0, 0), false, []),
  (47, .iaload, 3, [0], 0, 0, (0, 0), false, []),
  (48, .isub, 0, [], 0, 0, (0, 0), false, []),
  (49, .istore 5, 0, [], 0, 0, (0, 0), false, []),
  (51, .iload_n 1, 0, [], 0, 0, (0, 0), false, []),
  (52, .iload 4, 0, [], 0, 0, (0, 0), false, []),
  (54, .invokestatic 183, 6, [1, 3, 2, 1, 0, 5], 0, 0, (0, 0), false, []),
  (57, .ifCond .eq 17, 1, [39], 0, 0, (0, 0), false, []),
  (60, .iload_n 3, 0, [], 0, 0, (0, 0), false, []),
  (61, .iconst (-1), 0, [], (-1), 0, (0, 0), false, []),
  (62, .if_icmp .eq 9, 1, [37], 0, 0, (0, 0), false, []),
  (65, .iload 5, 0, [], 0, 0, (0, 0), false, []),
  (67, .iload_n 3, 0, [], 0, 0, (0, 0), false, []),
  (68, .if_icmp .ge 6, 1, [39], 0, 0, (0, 0), false, []),
  (71, .iload 5, 0, [], 0, 0, (0, 0), false, []),
  (73, .istore_n 3, 0, [], 0, 0, (0, 0), false, []),
  (74, .iinc 4 1, 0, [], 1, 0, (0, 0), false, []),
  (77, .goto (-52), 1, [14], 0, 0, (0, 0), false, []),
  (80, .iload_n 3, 0, [], 0, 0, (0, 0), false, []),
  (81, .ireturn, 5, [0], 0, 0, (0, 0), false, [])]
def eX5_leastCoins : List zm_M := [mX5_endings, mX2_everyRoom, mX2_coinsIn, mX5_has]
noncomputable def vX5_leastCoins : List (zm_M × zm_S) := [(mX5_endings, sX5_endings), (mX2_everyRoom, sX2_everyRoom), (mX2_coinsIn, sX2_coinsIn), (mX5_has, sX5_has)]
noncomputable def sX5_leastCoins : zm_S := zsem vX5_leastCoins rX5_leastCoins 6
set_option maxRecDepth 100000 in
theorem aX5_leastCoins : zall RX5 mX5_leastCoins eX5_leastCoins rX5_leastCoins = true := by decide +kernel
set_option maxRecDepth 100000 in
theorem wX5_leastCoins : ∀ w ∈ zwds RX5 mX5_leastCoins eX5_leastCoins rX5_leastCoins, w ∈ gT := zwd_of [795, 721, 722, 114, 723, 288, 288, 796, 565, 566, 116, 567, 797, 537, 538, 116, 539, 288, 170, 288, 179, 683, 435, 114, 436] (by decide +kernel) (by decide +kernel) (z7_no (by decide +kernel))
set_option maxRecDepth 100000 in
theorem xX5_leastCoins : ∀ w ∈ zwxs RX5 mX5_leastCoins eX5_leastCoins rX5_leastCoins, zspc w = true ∧ w ∈ lw_tbl := by decide +kernel
theorem tX5_leastCoins {l : Launch} (hlt : l.stackTraces = false) : MetA l mX5_leastCoins sX5_leastCoins := zmet (M := mX5_leastCoins) (own := RX5) (envM := eX5_leastCoins) hlt rfl (by decide +kernel) (by decide +kernel) rfl (fun j q hq => by
  match j, hq with
  | 0, hq => cases hq; exact tX5_endings hlt
  | 1, hq => cases hq; exact tX2_everyRoom hlt
  | 2, hq => cases hq; exact tX2_coinsIn hlt
  | 3, hq => cases hq; exact tX5_has hlt
  | n + 4, hq => cases hq) aX5_leastCoins wX5_leastCoins xX5_leastCoins rfl
def mX5_rounds : zm_M := (yX5_rounds, cX5_rounds, 7, (some .long), (6, 0, 0, 136), 0, [], (0, 0))
def rX5_rounds : List zm_R := [(0, .aload_n 0, 0, [], 0, 0, (0, 0), false, []),
  (1, .invokevirtual 301, 6, [0, 0, 1, 1, 0, 5], 0, 0, (0, 0), false, []),
  (4, .istore_n 1, 0, [], 0, 0, (0, 0), false, []),
  (5, .aload_n 0, 0, [], 0, 0, (0, 0), false, []),
  (6, .getfield 24, 2, [5, 2, 12, 2], 0, 0, (0, 0), false, []),
  (9, .invokevirtual 257, 6, [0, 1, 1, 1, 0, 2], 0, 0, (0, 0), false, []),
  (12, .istore_n 2, 0, [], 0, 0, (0, 0), false, []),
  (13, .aload_n 0, 0, [], 0, 0, (0, 0), false, []),
  (14, .getfield 24, 2, [5, 2, 12, 2], 0, 0, (0, 0), false, []),
  (17, .iload_n 2, 0, [], 0, 0, (0, 0), false, []),
  (18, .invokevirtual 202, 6, [0, 2, 2, 3, 0, 2], 0, 0, (0, 0), false, []),
  (21, .astore_n 3, 0, [], 0, 0, (0, 0), false, []),
  (22, .lconst 0, 0, [], 0, 0, (0, 0), false, []),
  (23, .lstore 4, 0, [], 0, 0, (0, 0), false, []),
  (25, .iconst 0, 0, [], 0, 0, (0, 0), false, []),
  (26, .istore 6, 0, [], 0, 0, (0, 0), false, []),
  (28, .iload 6, 0, [], 0, 0, (0, 0), true, [5]),
  (30, .aload_n 0, 0, [], 0, 0, (0, 0), false, []),
  (31, .getfield 24, 2, [5, 2, 12, 2], 0, 0, (0, 0), false, []),
  (34, .getfield 107, 2, [2, 0, 15, 0], 0, 0, (0, 0), false, []),
  (37, .if_icmp .ge 50, 1, [43], 0, 0, (0, 0), false, []),
  (40, .iload_n 1, 0, [], 0, 0, (0, 0), false, []),
  (41, .iload 6, 0, [], 0, 0, (0, 0), false, []),
  (43, .invokestatic 183, 6, [1, 3, 2, 1, 0, 5], 0, 0, (0, 0), false, []),
  (46, .ifCond .eq 35, 1, [41], 0, 0, (0, 0), false, []),
  (49, .aload_n 3, 0, [], 0, 0, (0, 0), false, []),
  (50, .iload 6, 0, [], 0, 0, (0, 0), false, []),
  (52, .iaload, 3, [0], 0, 0, (0, 0), false, []),
  (53, .aload_n 0, 0, [], 0, 0, (0, 0), false, []),
  (54, .getfield 24, 2, [5, 2, 12, 2], 0, 0, (0, 0), false, []),
  (57, .getfield 121, 2, [2, 10, 15, 0], 0, 0, (0, 0), false, []),
  (60, .invokestatic 183, 6, [1, 3, 2, 1, 0, 5], 0, 0, (0, 0), false, []),
  (63, .ifCond .eq 18, 1, [41], 0, 0, (0, 0), false, []),
  (66, .lload 4, 0, [], 0, 0, (0, 0), false, []),
  (68, .aload_n 0, 0, [], 0, 0, (0, 0), false, []),
  (69, .invokevirtual 206, 6, [0, 4, 1, 3, 0, 5], 0, 0, (0, 0), false, []),
  (72, .iload_n 2, 0, [], 0, 0, (0, 0), false, []),
  (73, .iload 6, 0, [], 0, 0, (0, 0), false, []),
  (75, .invokevirtual 260, 6, [0, 5, 3, 2, 0, 4], 0, 0, (0, 0), false, []),
  (78, .ladd, 0, [], 0, 0, (0, 0), false, []),
  (79, .lstore 4, 0, [], 0, 0, (0, 0), false, []),
  (81, .iinc 6 1, 0, [], 1, 0, (0, 0), false, []),
  (84, .goto (-56), 1, [16], 0, 0, (0, 0), false, []),
  (87, .lload 4, 0, [], 0, 0, (0, 0), false, []),
  (89, .lreturn, 5, [], 0, 0, (0, 0), false, [])]
def eX5_rounds : List zm_M := [mX5_endings, mX2_everyRoom, mX2_leads, mX5_has, mX5_solved, mX4_walksTo]
noncomputable def vX5_rounds : List (zm_M × zm_S) := [(mX5_endings, sX5_endings), (mX2_everyRoom, sX2_everyRoom), (mX2_leads, sX2_leads), (mX5_has, sX5_has), (mX5_solved, sX5_solved), (mX4_walksTo, sX4_walksTo)]
noncomputable def sX5_rounds : zm_S := zsem vX5_rounds rX5_rounds 7
set_option maxRecDepth 100000 in
theorem aX5_rounds : zall RX5 mX5_rounds eX5_rounds rX5_rounds = true := by decide +kernel
set_option maxRecDepth 100000 in
theorem wX5_rounds : ∀ w ∈ zwds RX5 mX5_rounds eX5_rounds rX5_rounds, w ∈ gT := zwd_of [795, 721, 722, 114, 723, 288, 796, 565, 566, 116, 567, 288, 527, 528, 529, 116, 530, 288, 170, 683, 435, 114, 436, 288, 195, 683, 435, 114, 436, 555, 557, 21, 114, 558, 802, 741, 742, 118, 743] (by decide +kernel) (by decide +kernel) (z7_no (by decide +kernel))
set_option maxRecDepth 100000 in
theorem xX5_rounds : ∀ w ∈ zwxs RX5 mX5_rounds eX5_rounds rX5_rounds, zspc w = true ∧ w ∈ lw_tbl := by decide +kernel
theorem tX5_rounds {l : Launch} (hlt : l.stackTraces = false) : MetA l mX5_rounds sX5_rounds := zmet (M := mX5_rounds) (own := RX5) (envM := eX5_rounds) hlt rfl (by decide +kernel) (by decide +kernel) rfl (fun j q hq => by
  match j, hq with
  | 0, hq => cases hq; exact tX5_endings hlt
  | 1, hq => cases hq; exact tX2_everyRoom hlt
  | 2, hq => cases hq; exact tX2_leads hlt
  | 3, hq => cases hq; exact tX5_has hlt
  | 4, hq => cases hq; exact tX5_solved hlt
  | 5, hq => cases hq; exact tX4_walksTo hlt
  | n + 6, hq => cases hq) aX5_rounds wX5_rounds xX5_rounds rfl
def mX5_go : zm_M := (yX5_go, cX5_go, 2, (some .long), (8, 0, 0, 163), 1, [], (1, 6))
def rX5_go : List zm_R := [(0, .aload_n 0, 0, [], 0, 0, (0, 0), false, []),
  (1, .iload_n 1, 0, [], 0, 0, (0, 0), false, []),
  (2, .invokevirtual 303, 6, [0, 0, 2, 1, 1, 5], 0, 0, (0, 0), false, []),
  (5, .ifCond .eq 14, 1, [5], 0, 0, (0, 0), false, []),
  (8, .new 71, 7, [0, 18, 71, 306, 75, 1], 0, 0, (0, 0), false, []),
  (19, .aload_n 0, 0, [], 0, 0, (0, 0), false, []),
  (20, .invokevirtual 100, 6, [0, 1, 1, 0, 0, 5], 0, 0, (0, 0), false, []),
  (23, .aload_n 0, 0, [], 0, 0, (0, 0), false, []),
  (24, .getfield 24, 2, [5, 2, 12, 2], 0, 0, (0, 0), false, []),
  (27, .iload_n 1, 0, [], 0, 0, (0, 0), false, []),
  (28, .invokevirtual 308, 6, [0, 2, 2, 0, 0, 2], 0, 0, (0, 0), false, []),
  (31, .aload_n 0, 0, [], 0, 0, (0, 0), false, []),
  (32, .invokevirtual 231, 6, [0, 3, 1, 2, 0, 5], 0, 0, (0, 0), false, []),
  (35, .lreturn, 5, [], 0, 0, (0, 0), false, [])]
def eX5_go : List zm_M := [mX5_why, mX5_record, mX2_enter, mX5_completions]
noncomputable def vX5_go : List (zm_M × zm_S) := [(mX5_why, sX5_why), (mX5_record, sX5_record), (mX2_enter, sX2_enter), (mX5_completions, sX5_completions)]
noncomputable def sX5_go : zm_S := zsem vX5_go rX5_go 2
set_option maxRecDepth 100000 in
theorem aX5_go : zall RX5 mX5_go eX5_go rX5_go = true := by decide +kernel
set_option maxRecDepth 100000 in
theorem wX5_go : ∀ w ∈ zwds RX5 mX5_go eX5_go rX5_go, w ∈ gT := zwd_of [1064, 955, 956, 114, 957, 486, 488, 19, 114, 489, 288, 1066, 1067, 1068, 116, 1069, 692, 598, 599, 114, 600] (by decide +kernel) (by decide +kernel) (z7_of (L := [(8, .new 71, 7, [0, 18, 71, 306, 75, 1], 0, 0, (0, 0), false, [])]) rfl (List.forall_mem_cons.mpr ⟨zw7 (x := 0) rfl (gT_in (List.mem_of_getElem? (i := 836) (by decide +kernel)) (by decide +kernel)) (gT_in (List.mem_of_getElem? (i := 123) (by decide +kernel)) (by decide +kernel)) zw7_0, fun _ h => absurd h List.not_mem_nil⟩))
set_option maxRecDepth 100000 in
theorem xX5_go : ∀ w ∈ zwxs RX5 mX5_go eX5_go rX5_go, zspc w = true ∧ w ∈ lw_tbl := by decide +kernel
theorem tX5_go {l : Launch} (hlt : l.stackTraces = false) : MetA l mX5_go sX5_go := zmet (M := mX5_go) (own := RX5) (envM := eX5_go) hlt rfl (by decide +kernel) (by decide +kernel) rfl (fun j q hq => by
  match j, hq with
  | 0, hq => cases hq; exact tX5_why hlt
  | 1, hq => cases hq; exact tX5_record hlt
  | 2, hq => cases hq; exact tX2_enter hlt
  | 3, hq => cases hq; exact tX5_completions hlt
  | n + 4, hq => cases hq) aX5_go wX5_go xX5_go rfl
def mX5_back : zm_M := (yX5_back, cX5_back, 2, (some .int), (6, 0, 0, 120), 1, [], (1, 6))
def rX5_back : List zm_R := [(0, .iload_n 1, 0, [], 0, 0, (0, 0), false, []),
  (1, .iconst 1, 0, [], 1, 0, (0, 0), false, []),
  (2, .if_icmp .lt 16, 1, [10], 0, 0, (0, 0), false, []),
  (5, .iload_n 1, 0, [], 0, 0, (0, 0), false, []),
  (6, .aload_n 0, 0, [], 0, 0, (0, 0), false, []),
  (7, .getfield 24, 2, [5, 2, 12, 2], 0, 0, (0, 0), false, []),
  (10, .getfield 127, 2, [2, 13, 15, 0], 0, 0, (0, 0), false, []),
  (13, .iconst 1, 0, [], 1, 0, (0, 0), false, []),
  (14, .isub, 0, [], 0, 0, (0, 0), false, []),
  (15, .if_icmp .le 14, 1, [11], 0, 0, (0, 0), false, []),
  (18, .new 81, 7, [1, 19, 81, 311, 84, 1], 0, 0, (0, 0), false, []),
  (29, .aload_n 0, 0, [], 0, 0, (0, 0), false, []),
  (30, .invokevirtual 100, 6, [0, 0, 1, 0, 0, 5], 0, 0, (0, 0), false, []),
  (33, .aload_n 0, 0, [], 0, 0, (0, 0), false, []),
  (34, .getfield 24, 2, [5, 2, 12, 2], 0, 0, (0, 0), false, []),
  (37, .dup, 0, [], 0, 0, (0, 0), false, []),
  (38, .getfield 127, 2, [2, 13, 15, 0], 0, 0, (0, 0), false, []),
  (41, .iload_n 1, 0, [], 0, 0, (0, 0), false, []),
  (42, .isub, 0, [], 0, 0, (0, 0), false, []),
  (43, .putfield 127, 2, [2, 13, 15, 0], 0, 0, (0, 0), false, []),
  (46, .aload_n 0, 0, [], 0, 0, (0, 0), false, []),
  (47, .getfield 24, 2, [5, 2, 12, 2], 0, 0, (0, 0), false, []),
  (50, .invokevirtual 128, 6, [0, 1, 1, 1, 0, 2], 0, 0, (0, 0), false, []),
  (53, .ireturn, 5, [0], 0, 0, (0, 0), false, [])]
def eX5_back : List zm_M := [mX5_record, mX2_lastRoom]
noncomputable def vX5_back : List (zm_M × zm_S) := [(mX5_record, sX5_record), (mX2_lastRoom, sX2_lastRoom)]
noncomputable def sX5_back : zm_S := zsem vX5_back rX5_back 2
set_option maxRecDepth 100000 in
theorem aX5_back : zall RX5 mX5_back eX5_back rX5_back = true := by decide +kernel
set_option maxRecDepth 100000 in
theorem wX5_back : ∀ w ∈ zwds RX5 mX5_back eX5_back rX5_back, w ∈ gT := zwd_of [288, 202, 486, 488, 19, 114, 489, 288, 202, 202, 288, 547, 548, 549, 116, 550] (by decide +kernel) (by decide +kernel) (z7_of (L := [(18, .new 81, 7, [1, 19, 81, 311, 84, 1], 0, 0, (0, 0), false, [])]) rfl (List.forall_mem_cons.mpr ⟨zw7 (x := 1) rfl (gT_in (List.mem_of_getElem? (i := 864) (by decide +kernel)) (by decide +kernel)) (gT_in (List.mem_of_getElem? (i := 124) (by decide +kernel)) (by decide +kernel)) zw7_1, fun _ h => absurd h List.not_mem_nil⟩))
set_option maxRecDepth 100000 in
theorem xX5_back : ∀ w ∈ zwxs RX5 mX5_back eX5_back rX5_back, zspc w = true ∧ w ∈ lw_tbl := by decide +kernel
theorem tX5_back {l : Launch} (hlt : l.stackTraces = false) : MetA l mX5_back sX5_back := zmet (M := mX5_back) (own := RX5) (envM := eX5_back) hlt rfl (by decide +kernel) (by decide +kernel) rfl (fun j q hq => by
  match j, hq with
  | 0, hq => cases hq; exact tX5_record hlt
  | 1, hq => cases hq; exact tX2_lastRoom hlt
  | n + 2, hq => cases hq) aX5_back wX5_back xX5_back rfl
def mX5_again : zm_M := (yX5_again, cX5_again, 2, (some .int), (4, 0, 0, 102), 0, [], (0, 0))
def rX5_again : List zm_R := [(0, .aload_n 0, 0, [], 0, 0, (0, 0), false, []),
  (1, .getfield 24, 2, [5, 2, 12, 2], 0, 0, (0, 0), false, []),
  (4, .getfield 127, 2, [2, 13, 15, 0], 0, 0, (0, 0), false, []),
  (7, .istore_n 1, 0, [], 0, 0, (0, 0), false, []),
  (8, .aload_n 0, 0, [], 0, 0, (0, 0), false, []),
  (9, .invokevirtual 100, 6, [0, 0, 1, 0, 0, 5], 0, 0, (0, 0), false, []),
  (12, .aload_n 0, 0, [], 0, 0, (0, 0), false, []),
  (13, .getfield 24, 2, [5, 2, 12, 2], 0, 0, (0, 0), false, []),
  (16, .iconst 1, 0, [], 1, 0, (0, 0), false, []),
  (17, .putfield 127, 2, [2, 13, 15, 0], 0, 0, (0, 0), false, []),
  (20, .iload_n 1, 0, [], 0, 0, (0, 0), false, []),
  (21, .ireturn, 5, [0], 0, 0, (0, 0), false, [])]
def eX5_again : List zm_M := [mX5_record]
noncomputable def vX5_again : List (zm_M × zm_S) := [(mX5_record, sX5_record)]
noncomputable def sX5_again : zm_S := zsem vX5_again rX5_again 2
set_option maxRecDepth 100000 in
theorem aX5_again : zall RX5 mX5_again eX5_again rX5_again = true := by decide +kernel
set_option maxRecDepth 100000 in
theorem wX5_again : ∀ w ∈ zwds RX5 mX5_again eX5_again rX5_again, w ∈ gT := zwd_of [288, 202, 486, 488, 19, 114, 489, 288, 202] (by decide +kernel) (by decide +kernel) (z7_no (by decide +kernel))
set_option maxRecDepth 100000 in
theorem xX5_again : ∀ w ∈ zwxs RX5 mX5_again eX5_again rX5_again, zspc w = true ∧ w ∈ lw_tbl := by decide +kernel
theorem tX5_again {l : Launch} (hlt : l.stackTraces = false) : MetA l mX5_again sX5_again := zmet (M := mX5_again) (own := RX5) (envM := eX5_again) hlt rfl (by decide +kernel) (by decide +kernel) rfl (fun j q hq => by
  match j, hq with
  | 0, hq => cases hq; exact tX5_record hlt
  | n + 1, hq => cases hq) aX5_again wX5_again xX5_again rfl
def mX5_complete : zm_M := (yX5_complete, cX5_complete, 2, (some .int), (6, 0, 0, 136), 0, [], (1, 6))
def rX5_complete : List zm_R := [(0, .aload_n 0, 0, [], 0, 0, (0, 0), false, []),
  (1, .invokevirtual 231, 6, [0, 0, 1, 2, 0, 5], 0, 0, (0, 0), false, []),
  (4, .lconst 0, 0, [], 0, 0, (0, 0), false, []),
  (5, .lcmp, 0, [], 0, 0, (0, 0), false, []),
  (6, .ifCond .ne 14, 1, [6], 0, 0, (0, 0), false, []),
  (9, .new 71, 7, [0, 20, 71, 312, 75, 1], 0, 0, (0, 0), false, []),
  (20, .aload_n 0, 0, [], 0, 0, (0, 0), false, []),
  (21, .getfield 24, 2, [5, 2, 12, 2], 0, 0, (0, 0), false, []),
  (24, .getfield 127, 2, [2, 13, 15, 0], 0, 0, (0, 0), false, []),
  (27, .istore_n 1, 0, [], 0, 0, (0, 0), false, []),
  (28, .aload_n 0, 0, [], 0, 0, (0, 0), false, []),
  (29, .invokevirtual 100, 6, [0, 1, 1, 0, 0, 5], 0, 0, (0, 0), false, []),
  (32, .aload_n 0, 0, [], 0, 0, (0, 0), false, []),
  (33, .invokevirtual 206, 6, [0, 2, 1, 3, 0, 5], 0, 0, (0, 0), false, []),
  (36, .aload_n 0, 0, [], 0, 0, (0, 0), false, []),
  (37, .getfield 24, 2, [5, 2, 12, 2], 0, 0, (0, 0), false, []),
  (40, .getfield 192, 2, [2, 12, 15, 2], 0, 0, (0, 0), false, []),
  (43, .iload_n 1, 0, [], 0, 0, (0, 0), false, []),
  (44, .lconst 0, 0, [], 0, 0, (0, 0), false, []),
  (45, .invokevirtual 314, 6, [0, 3, 4, 0, 0, 4], 0, 0, (0, 0), false, []),
  (48, .aload_n 0, 0, [], 0, 0, (0, 0), false, []),
  (49, .getfield 24, 2, [5, 2, 12, 2], 0, 0, (0, 0), false, []),
  (52, .aload_n 0, 0, [], 0, 0, (0, 0), false, []),
  (53, .getfield 24, 2, [5, 2, 12, 2], 0, 0, (0, 0), false, []),
  (56, .getfield 107, 2, [2, 0, 15, 0], 0, 0, (0, 0), false, []),
  (59, .putfield 127, 2, [2, 13, 15, 0], 0, 0, (0, 0), false, []),
  (62, .aload_n 0, 0, [], 0, 0, (0, 0), false, []),
  (63, .getfield 24, 2, [5, 2, 12, 2], 0, 0, (0, 0), false, []),
  (66, .getfield 127, 2, [2, 13, 15, 0], 0, 0, (0, 0), false, []),
  (69, .iload_n 1, 0, [], 0, 0, (0, 0), false, []),
  (70, .isub, 0, [], 0, 0, (0, 0), false, []),
  (71, .ireturn, 5, [0], 0, 0, (0, 0), false, [])]
def eX5_complete : List zm_M := [mX5_completions, mX5_record, mX5_solved, mX4_follow]
noncomputable def vX5_complete : List (zm_M × zm_S) := [(mX5_completions, sX5_completions), (mX5_record, sX5_record), (mX5_solved, sX5_solved), (mX4_follow, sX4_follow)]
noncomputable def sX5_complete : zm_S := zsem vX5_complete rX5_complete 2
set_option maxRecDepth 100000 in
theorem aX5_complete : zall RX5 mX5_complete eX5_complete rX5_complete = true := by decide +kernel
set_option maxRecDepth 100000 in
theorem wX5_complete : ∀ w ∈ zwds RX5 mX5_complete eX5_complete rX5_complete, w ∈ gT := zwd_of [692, 598, 599, 114, 600, 288, 202, 486, 488, 19, 114, 489, 555, 557, 21, 114, 558, 288, 200, 987, 988, 989, 118, 990, 288, 288, 170, 202, 288, 202] (by decide +kernel) (by decide +kernel) (z7_of (L := [(9, .new 71, 7, [0, 20, 71, 312, 75, 1], 0, 0, (0, 0), false, [])]) rfl (List.forall_mem_cons.mpr ⟨zw7 (x := 0) rfl (gT_in (List.mem_of_getElem? (i := 836) (by decide +kernel)) (by decide +kernel)) (gT_in (List.mem_of_getElem? (i := 123) (by decide +kernel)) (by decide +kernel)) zw7_0, fun _ h => absurd h List.not_mem_nil⟩))
set_option maxRecDepth 100000 in
theorem xX5_complete : ∀ w ∈ zwxs RX5 mX5_complete eX5_complete rX5_complete, zspc w = true ∧ w ∈ lw_tbl := by decide +kernel
theorem tX5_complete {l : Launch} (hlt : l.stackTraces = false) : MetA l mX5_complete sX5_complete := zmet (M := mX5_complete) (own := RX5) (envM := eX5_complete) hlt rfl (by decide +kernel) (by decide +kernel) rfl (fun j q hq => by
  match j, hq with
  | 0, hq => cases hq; exact tX5_completions hlt
  | 1, hq => cases hq; exact tX5_record hlt
  | 2, hq => cases hq; exact tX5_solved hlt
  | 3, hq => cases hq; exact tX4_follow hlt
  | n + 4, hq => cases hq) aX5_complete wX5_complete xX5_complete rfl
def mX5_walk : zm_M := (yX5_walk, cX5_walk, 3, (some .int), (7, 0, 0, 144), 1, [], (1, 6))
def rX5_walk : List zm_R := [(0, .aload_n 0, 0, [], 0, 0, (0, 0), false, []),
  (1, .lload_n 1, 0, [], 0, 0, (0, 0), false, []),
  (2, .invokevirtual 221, 6, [0, 0, 2, 0, 1, 5], 0, 0, (0, 0), false, []),
  (5, .aload_n 0, 0, [], 0, 0, (0, 0), false, []),
  (6, .invokevirtual 100, 6, [0, 1, 1, 0, 0, 5], 0, 0, (0, 0), false, []),
  (9, .aload_n 0, 0, [], 0, 0, (0, 0), false, []),
  (10, .lload_n 1, 0, [], 0, 0, (0, 0), false, []),
  (11, .invokevirtual 228, 6, [0, 2, 2, 0, 0, 5], 0, 0, (0, 0), false, []),
  (14, .aload_n 0, 0, [], 0, 0, (0, 0), false, []),
  (15, .getfield 57, 2, [5, 9, 12, 2], 0, 0, (0, 0), false, []),
  (18, .iconst 0, 0, [], 0, 0, (0, 0), false, []),
  (19, .aload_n 0, 0, [], 0, 0, (0, 0), false, []),
  (20, .getfield 24, 2, [5, 2, 12, 2], 0, 0, (0, 0), false, []),
  (23, .getfield 192, 2, [2, 12, 15, 2], 0, 0, (0, 0), false, []),
  (26, .iconst 0, 0, [], 0, 0, (0, 0), false, []),
  (27, .aload_n 0, 0, [], 0, 0, (0, 0), false, []),
  (28, .getfield 24, 2, [5, 2, 12, 2], 0, 0, (0, 0), false, []),
  (31, .getfield 107, 2, [2, 0, 15, 0], 0, 0, (0, 0), false, []),
  (34, .invokestatic 318, 8, [0], 0, 0, (0, 0), false, []),
  (37, .aload_n 0, 0, [], 0, 0, (0, 0), false, []),
  (38, .getfield 24, 2, [5, 2, 12, 2], 0, 0, (0, 0), false, []),
  (41, .aload_n 0, 0, [], 0, 0, (0, 0), false, []),
  (42, .getfield 24, 2, [5, 2, 12, 2], 0, 0, (0, 0), false, []),
  (45, .getfield 107, 2, [2, 0, 15, 0], 0, 0, (0, 0), false, []),
  (48, .putfield 127, 2, [2, 13, 15, 0], 0, 0, (0, 0), false, []),
  (51, .aload_n 0, 0, [], 0, 0, (0, 0), false, []),
  (52, .getfield 24, 2, [5, 2, 12, 2], 0, 0, (0, 0), false, []),
  (55, .invokevirtual 128, 6, [0, 3, 1, 1, 0, 2], 0, 0, (0, 0), false, []),
  (58, .ireturn, 5, [0], 0, 0, (0, 0), false, [])]
def eX5_walk : List zm_M := [mX5_needTour, mX5_record, mX5_fillRow, mX2_lastRoom]
noncomputable def vX5_walk : List (zm_M × zm_S) := [(mX5_needTour, sX5_needTour), (mX5_record, sX5_record), (mX5_fillRow, sX5_fillRow), (mX2_lastRoom, sX2_lastRoom)]
noncomputable def sX5_walk : zm_S := zsem vX5_walk rX5_walk 3
set_option maxRecDepth 100000 in
theorem aX5_walk : zall RX5 mX5_walk eX5_walk rX5_walk = true := by decide +kernel
set_option maxRecDepth 100000 in
theorem wX5_walk : ∀ w ∈ zwds RX5 mX5_walk eX5_walk rX5_walk, w ∈ gT := zwd_of [973, 975, 30, 114, 976, 486, 488, 19, 114, 489, 983, 985, 32, 114, 986, 295, 288, 200, 288, 170, 1093, 500, 499, 127, 288, 288, 170, 202, 288, 547, 548, 549, 116, 550] (by decide +kernel) (by decide +kernel) (z7_no (by decide +kernel))
set_option maxRecDepth 100000 in
theorem xX5_walk : ∀ w ∈ zwxs RX5 mX5_walk eX5_walk rX5_walk, zspc w = true ∧ w ∈ lw_tbl := by decide +kernel
theorem tX5_walk {l : Launch} (hlt : l.stackTraces = false) : MetA l mX5_walk sX5_walk := zmet (M := mX5_walk) (own := RX5) (envM := eX5_walk) hlt rfl (by decide +kernel) (by decide +kernel) rfl (fun j q hq => by
  match j, hq with
  | 0, hq => cases hq; exact tX5_needTour hlt
  | 1, hq => cases hq; exact tX5_record hlt
  | 2, hq => cases hq; exact tX5_fillRow hlt
  | 3, hq => cases hq; exact tX2_lastRoom hlt
  | n + 4, hq => cases hq) aX5_walk wX5_walk xX5_walk rfl
def mX5_setKey : zm_M := (yX5_setKey, cX5_setKey, 5, (some .boolean), (7, 0, 0, 141), 3, [], (1, 6))
def rX5_setKey : List zm_R := [(0, .aload_n 0, 0, [], 0, 0, (0, 0), false, []),
  (1, .iload_n 1, 0, [], 0, 0, (0, 0), false, []),
  (2, .invokevirtual 144, 6, [0, 0, 2, 0, 1, 5], 0, 0, (0, 0), false, []),
  (5, .iload_n 2, 0, [], 0, 0, (0, 0), false, []),
  (6, .invokestatic 195, 6, [1, 1, 1, 0, 1, 5], 0, 0, (0, 0), false, []),
  (9, .aload_n 0, 0, [], 0, 0, (0, 0), false, []),
  (10, .getfield 24, 2, [5, 2, 12, 2], 0, 0, (0, 0), false, []),
  (13, .getfield 147, 2, [2, 2, 15, 2], 0, 0, (0, 0), false, []),
  (16, .iload_n 1, 0, [], 0, 0, (0, 0), false, []),
  (17, .iaload, 3, [0], 0, 0, (0, 0), false, []),
  (18, .iload_n 2, 0, [], 0, 0, (0, 0), false, []),
  (19, .invokestatic 183, 6, [1, 2, 2, 1, 0, 5], 0, 0, (0, 0), false, []),
  (22, .istore 4, 0, [], 0, 0, (0, 0), false, []),
  (24, .aload_n 0, 0, [], 0, 0, (0, 0), false, []),
  (25, .invokevirtual 100, 6, [0, 3, 1, 0, 0, 5], 0, 0, (0, 0), false, []),
  (28, .iload_n 3, 0, [], 0, 0, (0, 0), false, []),
  (29, .ifCond .eq 21, 1, [29], 0, 0, (0, 0), false, []),
  (32, .aload_n 0, 0, [], 0, 0, (0, 0), false, []),
  (33, .getfield 24, 2, [5, 2, 12, 2], 0, 0, (0, 0), false, []),
  (36, .getfield 147, 2, [2, 2, 15, 2], 0, 0, (0, 0), false, []),
  (39, .iload_n 1, 0, [], 0, 0, (0, 0), false, []),
  (40, .dup2, 0, [], 0, 0, (0, 0), false, []),
  (41, .iaload, 3, [0], 0, 0, (0, 0), false, []),
  (42, .iconst 1, 0, [], 1, 0, (0, 0), false, []),
  (43, .iload_n 2, 0, [], 0, 0, (0, 0), false, []),
  (44, .ishl, 0, [], 0, 0, (0, 0), false, []),
  (45, .ior, 0, [], 0, 0, (0, 0), false, []),
  (46, .iastore, 3, [0], 0, 0, (0, 0), false, []),
  (47, .goto 20, 1, [42], 0, 0, (0, 0), false, []),
  (50, .aload_n 0, 0, [], 0, 0, (0, 0), false, []),
  (51, .getfield 24, 2, [5, 2, 12, 2], 0, 0, (0, 0), false, []),
  (54, .getfield 147, 2, [2, 2, 15, 2], 0, 0, (0, 0), false, []),
  (57, .iload_n 1, 0, [], 0, 0, (0, 0), false, []),
  (58, .dup2, 0, [], 0, 0, (0, 0), false, []),
  (59, .iaload, 3, [0], 0, 0, (0, 0), false, []),
  (60, .iconst 1, 0, [], 1, 0, (0, 0), false, []),
  (61, .iload_n 2, 0, [], 0, 0, (0, 0), false, []),
  (62, .ishl, 0, [], 0, 0, (0, 0), false, []),
  (63, .iconst (-1), 0, [], (-1), 0, (0, 0), false, []),
  (64, .ixor, 0, [], 0, 0, (0, 0), false, []),
  (65, .iand, 0, [], 0, 0, (0, 0), false, []),
  (66, .iastore, 3, [0], 0, 0, (0, 0), false, []),
  (67, .aload_n 0, 0, [], 0, 0, (0, 0), false, []),
  (68, .getfield 24, 2, [5, 2, 12, 2], 0, 0, (0, 0), false, []),
  (71, .invokevirtual 324, 6, [0, 4, 1, 0, 0, 2], 0, 0, (0, 0), false, []),
  (74, .iload 4, 0, [], 0, 0, (0, 0), false, []),
  (76, .ireturn, 5, [1], 0, 0, (0, 0), false, [])]
def eX5_setKey : List zm_M := [mX5_needRoom, mX5_needKey, mX5_has, mX5_record, mX2_cutWalk]
noncomputable def vX5_setKey : List (zm_M × zm_S) := [(mX5_needRoom, sX5_needRoom), (mX5_needKey, sX5_needKey), (mX5_has, sX5_has), (mX5_record, sX5_record), (mX2_cutWalk, sX2_cutWalk)]
noncomputable def sX5_setKey : zm_S := zsem vX5_setKey rX5_setKey 5
set_option maxRecDepth 100000 in
theorem aX5_setKey : zall RX5 mX5_setKey eX5_setKey rX5_setKey = true := by decide +kernel
set_option maxRecDepth 100000 in
theorem wX5_setKey : ∀ w ∈ zwds RX5 mX5_setKey eX5_setKey rX5_setKey, w ∈ gT := zwd_of [609, 611, 25, 114, 612, 757, 758, 114, 759, 288, 176, 683, 435, 114, 436, 486, 488, 19, 114, 489, 288, 176, 288, 176, 288, 1101, 1102, 1103, 116, 1104] (by decide +kernel) (by decide +kernel) (z7_no (by decide +kernel))
set_option maxRecDepth 100000 in
theorem xX5_setKey : ∀ w ∈ zwxs RX5 mX5_setKey eX5_setKey rX5_setKey, zspc w = true ∧ w ∈ lw_tbl := by decide +kernel
theorem tX5_setKey {l : Launch} (hlt : l.stackTraces = false) : MetA l mX5_setKey sX5_setKey := zmet (M := mX5_setKey) (own := RX5) (envM := eX5_setKey) hlt rfl (by decide +kernel) (by decide +kernel) rfl (fun j q hq => by
  match j, hq with
  | 0, hq => cases hq; exact tX5_needRoom hlt
  | 1, hq => cases hq; exact tX5_needKey hlt
  | 2, hq => cases hq; exact tX5_has hlt
  | 3, hq => cases hq; exact tX5_record hlt
  | 4, hq => cases hq; exact tX2_cutWalk hlt
  | n + 5, hq => cases hq) aX5_setKey wX5_setKey xX5_setKey rfl
def mX5_setCoins : zm_M := (yX5_setCoins, cX5_setCoins, 4, (some .int), (7, 0, 0, 141), 2, [], (1, 6))
def rX5_setCoins : List zm_R := [(0, .aload_n 0, 0, [], 0, 0, (0, 0), false, []),
  (1, .iload_n 1, 0, [], 0, 0, (0, 0), false, []),
  (2, .invokevirtual 144, 6, [0, 0, 2, 0, 1, 5], 0, 0, (0, 0), false, []),
  (5, .iload_n 2, 0, [], 0, 0, (0, 0), false, []),
  (6, .ifCond .lt 9, 1, [8], 0, 0, (0, 0), false, []),
  (9, .iload_n 2, 0, [], 0, 0, (0, 0), false, []),
  (10, .bipush 99, 0, [], 99, 0, (0, 0), false, []),
  (12, .if_icmp .le 14, 1, [9], 0, 0, (0, 0), false, []),
  (15, .new 81, 7, [1, 21, 81, 327, 84, 1], 0, 0, (0, 0), false, []),
  (26, .aload_n 0, 0, [], 0, 0, (0, 0), false, []),
  (27, .getfield 24, 2, [5, 2, 12, 2], 0, 0, (0, 0), false, []),
  (30, .getfield 150, 2, [2, 3, 15, 2], 0, 0, (0, 0), false, []),
  (33, .iload_n 1, 0, [], 0, 0, (0, 0), false, []),
  (34, .iaload, 3, [0], 0, 0, (0, 0), false, []),
  (35, .istore_n 3, 0, [], 0, 0, (0, 0), false, []),
  (36, .aload_n 0, 0, [], 0, 0, (0, 0), false, []),
  (37, .invokevirtual 100, 6, [0, 1, 1, 0, 0, 5], 0, 0, (0, 0), false, []),
  (40, .aload_n 0, 0, [], 0, 0, (0, 0), false, []),
  (41, .getfield 24, 2, [5, 2, 12, 2], 0, 0, (0, 0), false, []),
  (44, .getfield 150, 2, [2, 3, 15, 2], 0, 0, (0, 0), false, []),
  (47, .iload_n 1, 0, [], 0, 0, (0, 0), false, []),
  (48, .iload_n 2, 0, [], 0, 0, (0, 0), false, []),
  (49, .iastore, 3, [0], 0, 0, (0, 0), false, []),
  (50, .aload_n 0, 0, [], 0, 0, (0, 0), false, []),
  (51, .getfield 24, 2, [5, 2, 12, 2], 0, 0, (0, 0), false, []),
  (54, .invokevirtual 324, 6, [0, 2, 1, 0, 0, 2], 0, 0, (0, 0), false, []),
  (57, .iload_n 3, 0, [], 0, 0, (0, 0), false, []),
  (58, .ireturn, 5, [0], 0, 0, (0, 0), false, [])]
def eX5_setCoins : List zm_M := [mX5_needRoom, mX5_record, mX2_cutWalk]
noncomputable def vX5_setCoins : List (zm_M × zm_S) := [(mX5_needRoom, sX5_needRoom), (mX5_record, sX5_record), (mX2_cutWalk, sX2_cutWalk)]
noncomputable def sX5_setCoins : zm_S := zsem vX5_setCoins rX5_setCoins 4
set_option maxRecDepth 100000 in
theorem aX5_setCoins : zall RX5 mX5_setCoins eX5_setCoins rX5_setCoins = true := by decide +kernel
set_option maxRecDepth 100000 in
theorem wX5_setCoins : ∀ w ∈ zwds RX5 mX5_setCoins eX5_setCoins rX5_setCoins, w ∈ gT := zwd_of [609, 611, 25, 114, 612, 288, 179, 486, 488, 19, 114, 489, 288, 179, 288, 1101, 1102, 1103, 116, 1104] (by decide +kernel) (by decide +kernel) (z7_of (L := [(15, .new 81, 7, [1, 21, 81, 327, 84, 1], 0, 0, (0, 0), false, [])]) rfl (List.forall_mem_cons.mpr ⟨zw7 (x := 1) rfl (gT_in (List.mem_of_getElem? (i := 864) (by decide +kernel)) (by decide +kernel)) (gT_in (List.mem_of_getElem? (i := 124) (by decide +kernel)) (by decide +kernel)) zw7_1, fun _ h => absurd h List.not_mem_nil⟩))
set_option maxRecDepth 100000 in
theorem xX5_setCoins : ∀ w ∈ zwxs RX5 mX5_setCoins eX5_setCoins rX5_setCoins, zspc w = true ∧ w ∈ lw_tbl := by decide +kernel
theorem tX5_setCoins {l : Launch} (hlt : l.stackTraces = false) : MetA l mX5_setCoins sX5_setCoins := zmet (M := mX5_setCoins) (own := RX5) (envM := eX5_setCoins) hlt rfl (by decide +kernel) (by decide +kernel) rfl (fun j q hq => by
  match j, hq with
  | 0, hq => cases hq; exact tX5_needRoom hlt
  | 1, hq => cases hq; exact tX5_record hlt
  | 2, hq => cases hq; exact tX2_cutWalk hlt
  | n + 3, hq => cases hq) aX5_setCoins wX5_setCoins xX5_setCoins rfl
def mX5_setLock : zm_M := (yX5_setLock, cX5_setLock, 5, (some .int), (7, 0, 0, 141), 3, [], (1, 6))
def rX5_setLock : List zm_R := [(0, .aload_n 0, 0, [], 0, 0, (0, 0), false, []),
  (1, .iload_n 1, 0, [], 0, 0, (0, 0), false, []),
  (2, .invokevirtual 162, 6, [0, 0, 2, 0, 1, 5], 0, 0, (0, 0), false, []),
  (5, .iload_n 2, 0, [], 0, 0, (0, 0), false, []),
  (6, .ifCond .lt 8, 1, [8], 0, 0, (0, 0), false, []),
  (9, .iload_n 2, 0, [], 0, 0, (0, 0), false, []),
  (10, .iconst 2, 0, [], 2, 0, (0, 0), false, []),
  (11, .if_icmp .le 14, 1, [9], 0, 0, (0, 0), false, []),
  (14, .new 81, 7, [1, 22, 81, 328, 84, 1], 0, 0, (0, 0), false, []),
  (25, .iload_n 3, 0, [], 0, 0, (0, 0), false, []),
  (26, .ifCond .lt 11, 1, [15], 0, 0, (0, 0), false, []),
  (29, .iload_n 3, 0, [], 0, 0, (0, 0), false, []),
  (30, .iload_n 2, 0, [], 0, 0, (0, 0), false, []),
  (31, .invokestatic 329, 6, [1, 1, 1, 1, 0, 5], 0, 0, (0, 0), false, []),
  (34, .if_icmp .le 14, 1, [16], 0, 0, (0, 0), false, []),
  (37, .new 81, 7, [1, 23, 81, 332, 84, 1], 0, 0, (0, 0), false, []),
  (48, .sipush 1000, 0, [], 1000, 0, (0, 0), false, []),
  (51, .aload_n 0, 0, [], 0, 0, (0, 0), false, []),
  (52, .getfield 24, 2, [5, 2, 12, 2], 0, 0, (0, 0), false, []),
  (55, .getfield 171, 2, [2, 7, 15, 2], 0, 0, (0, 0), false, []),
  (58, .iload_n 1, 0, [], 0, 0, (0, 0), false, []),
  (59, .iaload, 3, [0], 0, 0, (0, 0), false, []),
  (60, .imul, 0, [], 0, 0, (0, 0), false, []),
  (61, .aload_n 0, 0, [], 0, 0, (0, 0), false, []),
  (62, .getfield 24, 2, [5, 2, 12, 2], 0, 0, (0, 0), false, []),
  (65, .getfield 174, 2, [2, 8, 15, 2], 0, 0, (0, 0), false, []),
  (68, .iload_n 1, 0, [], 0, 0, (0, 0), false, []),
  (69, .iaload, 3, [0], 0, 0, (0, 0), false, []),
  (70, .iadd, 0, [], 0, 0, (0, 0), false, []),
  (71, .istore 4, 0, [], 0, 0, (0, 0), false, []),
  (73, .aload_n 0, 0, [], 0, 0, (0, 0), false, []),
  (74, .invokevirtual 100, 6, [0, 2, 1, 0, 0, 5], 0, 0, (0, 0), false, []),
  (77, .aload_n 0, 0, [], 0, 0, (0, 0), false, []),
  (78, .getfield 24, 2, [5, 2, 12, 2], 0, 0, (0, 0), false, []),
  (81, .iload_n 1, 0, [], 0, 0, (0, 0), false, []),
  (82, .iload_n 2, 0, [], 0, 0, (0, 0), false, []),
  (83, .iload_n 3, 0, [], 0, 0, (0, 0), false, []),
  (84, .invokevirtual 275, 6, [0, 3, 4, 0, 0, 2], 0, 0, (0, 0), false, []),
  (87, .aload_n 0, 0, [], 0, 0, (0, 0), false, []),
  (88, .getfield 24, 2, [5, 2, 12, 2], 0, 0, (0, 0), false, []),
  (91, .invokevirtual 324, 6, [0, 4, 1, 0, 0, 2], 0, 0, (0, 0), false, []),
  (94, .iload 4, 0, [], 0, 0, (0, 0), false, []),
  (96, .ireturn, 5, [0], 0, 0, (0, 0), false, [])]
def eX5_setLock : List zm_M := [mX5_needDoor, mX5_greatestNumber, mX5_record, mX2_lock, mX2_cutWalk]
noncomputable def vX5_setLock : List (zm_M × zm_S) := [(mX5_needDoor, sX5_needDoor), (mX5_greatestNumber, sX5_greatestNumber), (mX5_record, sX5_record), (mX2_lock, sX2_lock), (mX2_cutWalk, sX2_cutWalk)]
noncomputable def sX5_setLock : zm_S := zsem vX5_setLock rX5_setLock 5
set_option maxRecDepth 100000 in
theorem aX5_setLock : zall RX5 mX5_setLock eX5_setLock rX5_setLock = true := by decide +kernel
set_option maxRecDepth 100000 in
theorem wX5_setLock : ∀ w ∈ zwds RX5 mX5_setLock eX5_setLock rX5_setLock, w ∈ gT := zwd_of [769, 771, 28, 114, 772, 1122, 470, 114, 471, 288, 188, 288, 190, 486, 488, 19, 114, 489, 288, 786, 462, 463, 116, 464, 288, 1101, 1102, 1103, 116, 1104] (by decide +kernel) (by decide +kernel) (z7_of (L := [(14, .new 81, 7, [1, 22, 81, 328, 84, 1], 0, 0, (0, 0), false, []), (37, .new 81, 7, [1, 23, 81, 332, 84, 1], 0, 0, (0, 0), false, [])]) rfl (List.forall_mem_cons.mpr ⟨zw7 (x := 1) rfl (gT_in (List.mem_of_getElem? (i := 864) (by decide +kernel)) (by decide +kernel)) (gT_in (List.mem_of_getElem? (i := 124) (by decide +kernel)) (by decide +kernel)) zw7_1, List.forall_mem_cons.mpr ⟨zw7 (x := 1) rfl (gT_in (List.mem_of_getElem? (i := 864) (by decide +kernel)) (by decide +kernel)) (gT_in (List.mem_of_getElem? (i := 124) (by decide +kernel)) (by decide +kernel)) zw7_1, fun _ h => absurd h List.not_mem_nil⟩⟩))
set_option maxRecDepth 100000 in
theorem xX5_setLock : ∀ w ∈ zwxs RX5 mX5_setLock eX5_setLock rX5_setLock, zspc w = true ∧ w ∈ lw_tbl := by decide +kernel
theorem tX5_setLock {l : Launch} (hlt : l.stackTraces = false) : MetA l mX5_setLock sX5_setLock := zmet (M := mX5_setLock) (own := RX5) (envM := eX5_setLock) hlt rfl (by decide +kernel) (by decide +kernel) rfl (fun j q hq => by
  match j, hq with
  | 0, hq => cases hq; exact tX5_needDoor hlt
  | 1, hq => cases hq; exact tX5_greatestNumber hlt
  | 2, hq => cases hq; exact tX5_record hlt
  | 3, hq => cases hq; exact tX2_lock hlt
  | 4, hq => cases hq; exact tX2_cutWalk hlt
  | n + 5, hq => cases hq) aX5_setLock wX5_setLock xX5_setLock rfl
def mX5_addDoor : zm_M := (yX5_addDoor, cX5_addDoor, 5, (some .int), (8, 0, 0, 163), 3, [], (1, 6))
def rX5_addDoor : List zm_R := [(0, .aload_n 0, 0, [], 0, 0, (0, 0), false, []),
  (1, .iload_n 1, 0, [], 0, 0, (0, 0), false, []),
  (2, .iload_n 2, 0, [], 0, 0, (0, 0), false, []),
  (3, .invokevirtual 282, 6, [0, 0, 3, 0, 1, 5], 0, 0, (0, 0), false, []),
  (6, .aload_n 0, 0, [], 0, 0, (0, 0), false, []),
  (7, .getfield 24, 2, [5, 2, 12, 2], 0, 0, (0, 0), false, []),
  (10, .getfield 118, 2, [2, 4, 15, 0], 0, 0, (0, 0), false, []),
  (13, .bipush 20, 0, [], 20, 0, (0, 0), false, []),
  (15, .if_icmp .lt 14, 1, [10], 0, 0, (0, 0), false, []),
  (18, .new 71, 7, [0, 24, 71, 333, 75, 1], 0, 0, (0, 0), false, []),
  (29, .aload_n 0, 0, [], 0, 0, (0, 0), false, []),
  (30, .invokevirtual 100, 6, [0, 1, 1, 0, 0, 5], 0, 0, (0, 0), false, []),
  (33, .aload_n 0, 0, [], 0, 0, (0, 0), false, []),
  (34, .getfield 24, 2, [5, 2, 12, 2], 0, 0, (0, 0), false, []),
  (37, .iload_n 1, 0, [], 0, 0, (0, 0), false, []),
  (38, .iload_n 2, 0, [], 0, 0, (0, 0), false, []),
  (39, .invokevirtual 335, 6, [0, 2, 3, 1, 0, 2], 0, 0, (0, 0), false, []),
  (42, .istore 4, 0, [], 0, 0, (0, 0), false, []),
  (44, .aload_n 0, 0, [], 0, 0, (0, 0), false, []),
  (45, .getfield 24, 2, [5, 2, 12, 2], 0, 0, (0, 0), false, []),
  (48, .getfield 177, 2, [2, 9, 15, 2], 0, 0, (0, 0), false, []),
  (51, .iload 4, 0, [], 0, 0, (0, 0), false, []),
  (53, .iload_n 3, 0, [], 0, 0, (0, 0), false, []),
  (54, .bastore, 3, [3], 0, 0, (0, 0), false, []),
  (55, .iload 4, 0, [], 0, 0, (0, 0), false, []),
  (57, .ireturn, 5, [0], 0, 0, (0, 0), false, [])]
def eX5_addDoor : List zm_M := [mX5_needTwoRooms, mX5_record, mX2_build]
noncomputable def vX5_addDoor : List (zm_M × zm_S) := [(mX5_needTwoRooms, sX5_needTwoRooms), (mX5_record, sX5_record), (mX2_build, sX2_build)]
noncomputable def sX5_addDoor : zm_S := zsem vX5_addDoor rX5_addDoor 5
set_option maxRecDepth 100000 in
theorem aX5_addDoor : zall RX5 mX5_addDoor eX5_addDoor rX5_addDoor = true := by decide +kernel
set_option maxRecDepth 100000 in
theorem wX5_addDoor : ∀ w ∈ zwds RX5 mX5_addDoor eX5_addDoor rX5_addDoor, w ∈ gT := zwd_of [1021, 1023, 33, 114, 1024, 288, 182, 486, 488, 19, 114, 489, 288, 1132, 458, 459, 116, 460, 288, 193] (by decide +kernel) (by decide +kernel) (z7_of (L := [(18, .new 71, 7, [0, 24, 71, 333, 75, 1], 0, 0, (0, 0), false, [])]) rfl (List.forall_mem_cons.mpr ⟨zw7 (x := 0) rfl (gT_in (List.mem_of_getElem? (i := 836) (by decide +kernel)) (by decide +kernel)) (gT_in (List.mem_of_getElem? (i := 123) (by decide +kernel)) (by decide +kernel)) zw7_0, fun _ h => absurd h List.not_mem_nil⟩))
set_option maxRecDepth 100000 in
theorem xX5_addDoor : ∀ w ∈ zwxs RX5 mX5_addDoor eX5_addDoor rX5_addDoor, zspc w = true ∧ w ∈ lw_tbl := by decide +kernel
theorem tX5_addDoor {l : Launch} (hlt : l.stackTraces = false) : MetA l mX5_addDoor sX5_addDoor := zmet (M := mX5_addDoor) (own := RX5) (envM := eX5_addDoor) hlt rfl (by decide +kernel) (by decide +kernel) rfl (fun j q hq => by
  match j, hq with
  | 0, hq => cases hq; exact tX5_needTwoRooms hlt
  | 1, hq => cases hq; exact tX5_record hlt
  | 2, hq => cases hq; exact tX2_build hlt
  | n + 3, hq => cases hq) aX5_addDoor wX5_addDoor xX5_addDoor rfl
def mX5_removeDoor : zm_M := (yX5_removeDoor, cX5_removeDoor, 2, (some .int), (7, 0, 0, 141), 1, [], (1, 6))
def rX5_removeDoor : List zm_R := [(0, .aload_n 0, 0, [], 0, 0, (0, 0), false, []),
  (1, .iload_n 1, 0, [], 0, 0, (0, 0), false, []),
  (2, .invokevirtual 162, 6, [0, 0, 2, 0, 1, 5], 0, 0, (0, 0), false, []),
  (5, .aload_n 0, 0, [], 0, 0, (0, 0), false, []),
  (6, .invokevirtual 100, 6, [0, 1, 1, 0, 0, 5], 0, 0, (0, 0), false, []),
  (9, .aload_n 0, 0, [], 0, 0, (0, 0), false, []),
  (10, .getfield 24, 2, [5, 2, 12, 2], 0, 0, (0, 0), false, []),
  (13, .iload_n 1, 0, [], 0, 0, (0, 0), false, []),
  (14, .invokevirtual 269, 6, [0, 2, 2, 0, 0, 2], 0, 0, (0, 0), false, []),
  (17, .aload_n 0, 0, [], 0, 0, (0, 0), false, []),
  (18, .getfield 24, 2, [5, 2, 12, 2], 0, 0, (0, 0), false, []),
  (21, .invokevirtual 324, 6, [0, 3, 1, 0, 0, 2], 0, 0, (0, 0), false, []),
  (24, .aload_n 0, 0, [], 0, 0, (0, 0), false, []),
  (25, .getfield 24, 2, [5, 2, 12, 2], 0, 0, (0, 0), false, []),
  (28, .getfield 118, 2, [2, 4, 15, 0], 0, 0, (0, 0), false, []),
  (31, .ireturn, 5, [0], 0, 0, (0, 0), false, [])]
def eX5_removeDoor : List zm_M := [mX5_needDoor, mX5_record, mX2_dropDoor, mX2_cutWalk]
noncomputable def vX5_removeDoor : List (zm_M × zm_S) := [(mX5_needDoor, sX5_needDoor), (mX5_record, sX5_record), (mX2_dropDoor, sX2_dropDoor), (mX2_cutWalk, sX2_cutWalk)]
noncomputable def sX5_removeDoor : zm_S := zsem vX5_removeDoor rX5_removeDoor 2
set_option maxRecDepth 100000 in
theorem aX5_removeDoor : zall RX5 mX5_removeDoor eX5_removeDoor rX5_removeDoor = true := by decide +kernel
set_option maxRecDepth 100000 in
theorem wX5_removeDoor : ∀ w ∈ zwds RX5 mX5_removeDoor eX5_removeDoor rX5_removeDoor, w ∈ gT := zwd_of [769, 771, 28, 114, 772, 486, 488, 19, 114, 489, 288, 774, 775, 776, 116, 777, 288, 1101, 1102, 1103, 116, 1104, 288, 182] (by decide +kernel) (by decide +kernel) (z7_no (by decide +kernel))
set_option maxRecDepth 100000 in
theorem xX5_removeDoor : ∀ w ∈ zwxs RX5 mX5_removeDoor eX5_removeDoor rX5_removeDoor, zspc w = true ∧ w ∈ lw_tbl := by decide +kernel
theorem tX5_removeDoor {l : Launch} (hlt : l.stackTraces = false) : MetA l mX5_removeDoor sX5_removeDoor := zmet (M := mX5_removeDoor) (own := RX5) (envM := eX5_removeDoor) hlt rfl (by decide +kernel) (by decide +kernel) rfl (fun j q hq => by
  match j, hq with
  | 0, hq => cases hq; exact tX5_needDoor hlt
  | 1, hq => cases hq; exact tX5_record hlt
  | 2, hq => cases hq; exact tX2_dropDoor hlt
  | 3, hq => cases hq; exact tX2_cutWalk hlt
  | n + 4, hq => cases hq) aX5_removeDoor wX5_removeDoor xX5_removeDoor rfl
def mX5_setStart : zm_M := (yX5_setStart, cX5_setStart, 3, (some .int), (7, 0, 0, 141), 1, [], (1, 6))
def rX5_setStart : List zm_R := [(0, .aload_n 0, 0, [], 0, 0, (0, 0), false, []),
  (1, .iload_n 1, 0, [], 0, 0, (0, 0), false, []),
  (2, .invokevirtual 144, 6, [0, 0, 2, 0, 1, 5], 0, 0, (0, 0), false, []),
  (5, .aload_n 0, 0, [], 0, 0, (0, 0), false, []),
  (6, .getfield 24, 2, [5, 2, 12, 2], 0, 0, (0, 0), false, []),
  (9, .getfield 121, 2, [2, 10, 15, 0], 0, 0, (0, 0), false, []),
  (12, .istore_n 2, 0, [], 0, 0, (0, 0), false, []),
  (13, .aload_n 0, 0, [], 0, 0, (0, 0), false, []),
  (14, .invokevirtual 100, 6, [0, 1, 1, 0, 0, 5], 0, 0, (0, 0), false, []),
  (17, .iload_n 1, 0, [], 0, 0, (0, 0), false, []),
  (18, .iload_n 2, 0, [], 0, 0, (0, 0), false, []),
  (19, .if_icmp .eq 11, 1, [16], 0, 0, (0, 0), false, []),
  (22, .aload_n 0, 0, [], 0, 0, (0, 0), false, []),
  (23, .getfield 24, 2, [5, 2, 12, 2], 0, 0, (0, 0), false, []),
  (26, .iload_n 1, 0, [], 0, 0, (0, 0), false, []),
  (27, .invokevirtual 339, 6, [0, 2, 2, 0, 0, 2], 0, 0, (0, 0), false, []),
  (30, .iload_n 2, 0, [], 0, 0, (0, 0), false, []),
  (31, .ireturn, 5, [0], 0, 0, (0, 0), false, [])]
def eX5_setStart : List zm_M := [mX5_needRoom, mX5_record, mX2_beginAt]
noncomputable def vX5_setStart : List (zm_M × zm_S) := [(mX5_needRoom, sX5_needRoom), (mX5_record, sX5_record), (mX2_beginAt, sX2_beginAt)]
noncomputable def sX5_setStart : zm_S := zsem vX5_setStart rX5_setStart 3
set_option maxRecDepth 100000 in
theorem aX5_setStart : zall RX5 mX5_setStart eX5_setStart rX5_setStart = true := by decide +kernel
set_option maxRecDepth 100000 in
theorem wX5_setStart : ∀ w ∈ zwds RX5 mX5_setStart eX5_setStart rX5_setStart, w ∈ gT := zwd_of [609, 611, 25, 114, 612, 288, 195, 486, 488, 19, 114, 489, 288, 1147, 372, 373, 116, 374] (by decide +kernel) (by decide +kernel) (z7_no (by decide +kernel))
set_option maxRecDepth 100000 in
theorem xX5_setStart : ∀ w ∈ zwxs RX5 mX5_setStart eX5_setStart rX5_setStart, zspc w = true ∧ w ∈ lw_tbl := by decide +kernel
theorem tX5_setStart {l : Launch} (hlt : l.stackTraces = false) : MetA l mX5_setStart sX5_setStart := zmet (M := mX5_setStart) (own := RX5) (envM := eX5_setStart) hlt rfl (by decide +kernel) (by decide +kernel) rfl (fun j q hq => by
  match j, hq with
  | 0, hq => cases hq; exact tX5_needRoom hlt
  | 1, hq => cases hq; exact tX5_record hlt
  | 2, hq => cases hq; exact tX2_beginAt hlt
  | n + 3, hq => cases hq) aX5_setStart wX5_setStart xX5_setStart rfl
def mX5_setEnd : zm_M := (yX5_setEnd, cX5_setEnd, 3, (some .int), (7, 0, 0, 141), 1, [], (1, 6))
def rX5_setEnd : List zm_R := [(0, .iload_n 1, 0, [], 0, 0, (0, 0), false, []),
  (1, .iconst (-1), 0, [], (-1), 0, (0, 0), false, []),
  (2, .if_icmp .eq 8, 1, [6], 0, 0, (0, 0), false, []),
  (5, .aload_n 0, 0, [], 0, 0, (0, 0), false, []),
  (6, .iload_n 1, 0, [], 0, 0, (0, 0), false, []),
  (7, .invokevirtual 144, 6, [0, 1, 2, 0, 1, 5], 0, 0, (0, 0), false, []),
  (10, .aload_n 0, 0, [], 0, 0, (0, 0), false, []),
  (11, .getfield 24, 2, [5, 2, 12, 2], 0, 0, (0, 0), false, []),
  (14, .getfield 124, 2, [2, 11, 15, 0], 0, 0, (0, 0), false, []),
  (17, .istore_n 2, 0, [], 0, 0, (0, 0), false, []),
  (18, .aload_n 0, 0, [], 0, 0, (0, 0), false, []),
  (19, .invokevirtual 100, 6, [0, 0, 1, 0, 0, 5], 0, 0, (0, 0), false, []),
  (22, .aload_n 0, 0, [], 0, 0, (0, 0), false, []),
  (23, .getfield 24, 2, [5, 2, 12, 2], 0, 0, (0, 0), false, []),
  (26, .iload_n 1, 0, [], 0, 0, (0, 0), false, []),
  (27, .putfield 124, 2, [2, 11, 15, 0], 0, 0, (0, 0), false, []),
  (30, .iload_n 2, 0, [], 0, 0, (0, 0), false, []),
  (31, .ireturn, 5, [0], 0, 0, (0, 0), false, [])]
def eX5_setEnd : List zm_M := [mX5_record, mX5_needRoom]
noncomputable def vX5_setEnd : List (zm_M × zm_S) := [(mX5_record, sX5_record), (mX5_needRoom, sX5_needRoom)]
noncomputable def sX5_setEnd : zm_S := zsem vX5_setEnd rX5_setEnd 3
set_option maxRecDepth 100000 in
theorem aX5_setEnd : zall RX5 mX5_setEnd eX5_setEnd rX5_setEnd = true := by decide +kernel
set_option maxRecDepth 100000 in
theorem wX5_setEnd : ∀ w ∈ zwds RX5 mX5_setEnd eX5_setEnd rX5_setEnd, w ∈ gT := zwd_of [609, 611, 25, 114, 612, 288, 197, 486, 488, 19, 114, 489, 288, 197] (by decide +kernel) (by decide +kernel) (z7_no (by decide +kernel))
set_option maxRecDepth 100000 in
theorem xX5_setEnd : ∀ w ∈ zwxs RX5 mX5_setEnd eX5_setEnd rX5_setEnd, zspc w = true ∧ w ∈ lw_tbl := by decide +kernel
theorem tX5_setEnd {l : Launch} (hlt : l.stackTraces = false) : MetA l mX5_setEnd sX5_setEnd := zmet (M := mX5_setEnd) (own := RX5) (envM := eX5_setEnd) hlt rfl (by decide +kernel) (by decide +kernel) rfl (fun j q hq => by
  match j, hq with
  | 0, hq => cases hq; exact tX5_record hlt
  | 1, hq => cases hq; exact tX5_needRoom hlt
  | n + 2, hq => cases hq) aX5_setEnd wX5_setEnd xX5_setEnd rfl
def mX5_needSlot : zm_M := (yX5_needSlot, cX5_needSlot, 1, none, (6, 0, 0, 120), 1, [], (1, 6))
def rX5_needSlot : List zm_R := [(0, .iload_n 0, 0, [], 0, 0, (0, 0), false, []),
  (1, .ifCond .lt 8, 1, [5], 0, 0, (0, 0), false, []),
  (4, .iload_n 0, 0, [], 0, 0, (0, 0), false, []),
  (5, .iconst 2, 0, [], 2, 0, (0, 0), false, []),
  (6, .if_icmp .lt 14, 1, [6], 0, 0, (0, 0), false, []),
  (9, .new 377, 7, [2, 25, 377, 388, 381, 1], 0, 0, (0, 0), false, []),
  (20, .return_, 5, [], 0, 0, (0, 0), false, [])]
def eX5_needSlot : List zm_M := []
noncomputable def vX5_needSlot : List (zm_M × zm_S) := []
noncomputable def sX5_needSlot : zm_S := zsem vX5_needSlot rX5_needSlot 1
set_option maxRecDepth 100000 in
theorem aX5_needSlot : zall RX5 mX5_needSlot eX5_needSlot rX5_needSlot = true := by decide +kernel
set_option maxRecDepth 100000 in
theorem wX5_needSlot : ∀ w ∈ zwds RX5 mX5_needSlot eX5_needSlot rX5_needSlot, w ∈ gT := zwd_of [] (by decide +kernel) (by decide +kernel) (z7_of (L := [(9, .new 377, 7, [2, 25, 377, 388, 381, 1], 0, 0, (0, 0), false, [])]) rfl (List.forall_mem_cons.mpr ⟨zw7 (x := 2) rfl (gT_in (List.mem_of_getElem? (i := 613) (by decide +kernel)) (by decide +kernel)) (gT_in (List.mem_of_getElem? (i := 132) (by decide +kernel)) (by decide +kernel)) zw7_2, fun _ h => absurd h List.not_mem_nil⟩))
set_option maxRecDepth 100000 in
theorem xX5_needSlot : ∀ w ∈ zwxs RX5 mX5_needSlot eX5_needSlot rX5_needSlot, zspc w = true ∧ w ∈ lw_tbl := by decide +kernel
theorem tX5_needSlot {l : Launch} (hlt : l.stackTraces = false) : MetA l mX5_needSlot sX5_needSlot := zmet (M := mX5_needSlot) (own := RX5) (envM := eX5_needSlot) hlt rfl (by decide +kernel) (by decide +kernel) rfl (fun j q hq => by cases hq) aX5_needSlot wX5_needSlot xX5_needSlot rfl
def mX5_keep : zm_M := (yX5_keep, cX5_keep, 2, (some .int), (7, 0, 0, 140), 1, [], (1, 6))
def rX5_keep : List zm_R := [(0, .iload_n 1, 0, [], 0, 0, (0, 0), false, []),
  (1, .invokestatic 342, 6, [1, 0, 1, 0, 1, 5], 0, 0, (0, 0), false, []),
  (4, .aload_n 0, 0, [], 0, 0, (0, 0), false, []),
  (5, .getfield 38, 2, [5, 5, 12, 2], 0, 0, (0, 0), false, []),
  (8, .iload_n 1, 0, [], 0, 0, (0, 0), false, []),
  (9, .aaload, 3, [5], 0, 0, (0, 0), false, []),
  (10, .aload_n 0, 0, [], 0, 0, (0, 0), false, []),
  (11, .getfield 24, 2, [5, 2, 12, 2], 0, 0, (0, 0), false, []),
  (14, .invokevirtual 103, 6, [0, 1, 2, 0, 0, 2], 0, 0, (0, 0), false, []),
  (17, .aload_n 0, 0, [], 0, 0, (0, 0), false, []),
  (18, .getfield 42, 2, [5, 6, 12, 2], 0, 0, (0, 0), false, []),
  (21, .iload_n 1, 0, [], 0, 0, (0, 0), false, []),
  (22, .iconst 1, 0, [], 1, 0, (0, 0), false, []),
  (23, .bastore, 3, [3], 0, 0, (0, 0), false, []),
  (24, .aload_n 0, 0, [], 0, 0, (0, 0), false, []),
  (25, .getfield 24, 2, [5, 2, 12, 2], 0, 0, (0, 0), false, []),
  (28, .getfield 127, 2, [2, 13, 15, 0], 0, 0, (0, 0), false, []),
  (31, .ireturn, 5, [0], 0, 0, (0, 0), false, [])]
def eX5_keep : List zm_M := [mX5_needSlot, mX2_copyFrom]
noncomputable def vX5_keep : List (zm_M × zm_S) := [(mX5_needSlot, sX5_needSlot), (mX2_copyFrom, sX2_copyFrom)]
noncomputable def sX5_keep : zm_S := zsem vX5_keep rX5_keep 2
set_option maxRecDepth 100000 in
theorem aX5_keep : zall RX5 mX5_keep eX5_keep rX5_keep = true := by decide +kernel
set_option maxRecDepth 100000 in
theorem wX5_keep : ∀ w ∈ zwds RX5 mX5_keep eX5_keep rX5_keep, w ∈ gT := zwd_of [1162, 1163, 114, 1164, 291, 288, 501, 495, 496, 116, 497, 292, 288, 202] (by decide +kernel) (by decide +kernel) (z7_no (by decide +kernel))
set_option maxRecDepth 100000 in
theorem xX5_keep : ∀ w ∈ zwxs RX5 mX5_keep eX5_keep rX5_keep, zspc w = true ∧ w ∈ lw_tbl := by decide +kernel
theorem tX5_keep {l : Launch} (hlt : l.stackTraces = false) : MetA l mX5_keep sX5_keep := zmet (M := mX5_keep) (own := RX5) (envM := eX5_keep) hlt rfl (by decide +kernel) (by decide +kernel) rfl (fun j q hq => by
  match j, hq with
  | 0, hq => cases hq; exact tX5_needSlot hlt
  | 1, hq => cases hq; exact tX2_copyFrom hlt
  | n + 2, hq => cases hq) aX5_keep wX5_keep xX5_keep rfl
def mX5_restore : zm_M := (yX5_restore, cX5_restore, 2, (some .int), (7, 0, 0, 140), 1, [], (1, 6))
def rX5_restore : List zm_R := [(0, .iload_n 1, 0, [], 0, 0, (0, 0), false, []),
  (1, .invokestatic 342, 6, [1, 0, 1, 0, 1, 5], 0, 0, (0, 0), false, []),
  (4, .aload_n 0, 0, [], 0, 0, (0, 0), false, []),
  (5, .getfield 42, 2, [5, 6, 12, 2], 0, 0, (0, 0), false, []),
  (8, .iload_n 1, 0, [], 0, 0, (0, 0), false, []),
  (9, .baload, 3, [3], 0, 0, (0, 0), false, []),
  (10, .ifCond .ne 14, 1, [8], 0, 0, (0, 0), false, []),
  (13, .new 71, 7, [0, 26, 71, 345, 75, 1], 0, 0, (0, 0), false, []),
  (24, .aload_n 0, 0, [], 0, 0, (0, 0), false, []),
  (25, .invokevirtual 100, 6, [0, 1, 1, 0, 0, 5], 0, 0, (0, 0), false, []),
  (28, .aload_n 0, 0, [], 0, 0, (0, 0), false, []),
  (29, .getfield 24, 2, [5, 2, 12, 2], 0, 0, (0, 0), false, []),
  (32, .aload_n 0, 0, [], 0, 0, (0, 0), false, []),
  (33, .getfield 38, 2, [5, 5, 12, 2], 0, 0, (0, 0), false, []),
  (36, .iload_n 1, 0, [], 0, 0, (0, 0), false, []),
  (37, .aaload, 3, [5], 0, 0, (0, 0), false, []),
  (38, .invokevirtual 103, 6, [0, 2, 2, 0, 0, 2], 0, 0, (0, 0), false, []),
  (41, .aload_n 0, 0, [], 0, 0, (0, 0), false, []),
  (42, .getfield 24, 2, [5, 2, 12, 2], 0, 0, (0, 0), false, []),
  (45, .getfield 127, 2, [2, 13, 15, 0], 0, 0, (0, 0), false, []),
  (48, .ireturn, 5, [0], 0, 0, (0, 0), false, [])]
def eX5_restore : List zm_M := [mX5_needSlot, mX5_record, mX2_copyFrom]
noncomputable def vX5_restore : List (zm_M × zm_S) := [(mX5_needSlot, sX5_needSlot), (mX5_record, sX5_record), (mX2_copyFrom, sX2_copyFrom)]
noncomputable def sX5_restore : zm_S := zsem vX5_restore rX5_restore 2
set_option maxRecDepth 100000 in
theorem aX5_restore : zall RX5 mX5_restore eX5_restore rX5_restore = true := by decide +kernel
set_option maxRecDepth 100000 in
theorem wX5_restore : ∀ w ∈ zwds RX5 mX5_restore eX5_restore rX5_restore, w ∈ gT := zwd_of [1162, 1163, 114, 1164, 292, 486, 488, 19, 114, 489, 288, 291, 501, 495, 496, 116, 497, 288, 202] (by decide +kernel) (by decide +kernel) (z7_of (L := [(13, .new 71, 7, [0, 26, 71, 345, 75, 1], 0, 0, (0, 0), false, [])]) rfl (List.forall_mem_cons.mpr ⟨zw7 (x := 0) rfl (gT_in (List.mem_of_getElem? (i := 836) (by decide +kernel)) (by decide +kernel)) (gT_in (List.mem_of_getElem? (i := 123) (by decide +kernel)) (by decide +kernel)) zw7_0, fun _ h => absurd h List.not_mem_nil⟩))
set_option maxRecDepth 100000 in
theorem xX5_restore : ∀ w ∈ zwxs RX5 mX5_restore eX5_restore rX5_restore, zspc w = true ∧ w ∈ lw_tbl := by decide +kernel
theorem tX5_restore {l : Launch} (hlt : l.stackTraces = false) : MetA l mX5_restore sX5_restore := zmet (M := mX5_restore) (own := RX5) (envM := eX5_restore) hlt rfl (by decide +kernel) (by decide +kernel) rfl (fun j q hq => by
  match j, hq with
  | 0, hq => cases hq; exact tX5_needSlot hlt
  | 1, hq => cases hq; exact tX5_record hlt
  | 2, hq => cases hq; exact tX2_copyFrom hlt
  | n + 3, hq => cases hq) aX5_restore wX5_restore xX5_restore rfl
def mX5_undo : zm_M := (yX5_undo, cX5_undo, 1, (some .int), (6, 0, 0, 120), 0, [], (1, 6))
def rX5_undo : List zm_R := [(0, .aload_n 0, 0, [], 0, 0, (0, 0), false, []),
  (1, .getfield 34, 2, [5, 4, 12, 2], 0, 0, (0, 0), false, []),
  (4, .getfield 347, 2, [1, 2, 3, 0], 0, 0, (0, 0), false, []),
  (7, .ifCond .ne 14, 1, [5], 0, 0, (0, 0), false, []),
  (10, .new 71, 7, [0, 27, 71, 350, 75, 1], 0, 0, (0, 0), false, []),
  (21, .aload_n 0, 0, [], 0, 0, (0, 0), false, []),
  (22, .iconst 1, 0, [], 1, 0, (0, 0), false, []),
  (23, .putfield 53, 2, [5, 8, 12, 3], 0, 0, (0, 0), false, []),
  (26, .aload_n 0, 0, [], 0, 0, (0, 0), false, []),
  (27, .getfield 34, 2, [5, 4, 12, 2], 0, 0, (0, 0), false, []),
  (30, .aload_n 0, 0, [], 0, 0, (0, 0), false, []),
  (31, .getfield 24, 2, [5, 2, 12, 2], 0, 0, (0, 0), false, []),
  (34, .invokevirtual 352, 6, [0, 0, 2, 0, 0, 1], 0, 0, (0, 0), false, []),
  (37, .aload_n 0, 0, [], 0, 0, (0, 0), false, []),
  (38, .getfield 34, 2, [5, 4, 12, 2], 0, 0, (0, 0), false, []),
  (41, .getfield 347, 2, [1, 2, 3, 0], 0, 0, (0, 0), false, []),
  (44, .ireturn, 5, [0], 0, 0, (0, 0), false, [])]
def eX5_undo : List zm_M := [mX1_pop]
noncomputable def vX5_undo : List (zm_M × zm_S) := [(mX1_pop, sX1_pop)]
noncomputable def sX5_undo : zm_S := zsem vX5_undo rX5_undo 1
set_option maxRecDepth 100000 in
theorem aX5_undo : zall RX5 mX5_undo eX5_undo rX5_undo = true := by decide +kernel
set_option maxRecDepth 100000 in
theorem wX5_undo : ∀ w ∈ zwds RX5 mX5_undo eX5_undo rX5_undo, w ∈ gT := zwd_of [290, 249, 294, 290, 288, 1182, 1183, 1184, 117, 1185, 290, 249] (by decide +kernel) (by decide +kernel) (z7_of (L := [(10, .new 71, 7, [0, 27, 71, 350, 75, 1], 0, 0, (0, 0), false, [])]) rfl (List.forall_mem_cons.mpr ⟨zw7 (x := 0) rfl (gT_in (List.mem_of_getElem? (i := 836) (by decide +kernel)) (by decide +kernel)) (gT_in (List.mem_of_getElem? (i := 123) (by decide +kernel)) (by decide +kernel)) zw7_0, fun _ h => absurd h List.not_mem_nil⟩))
set_option maxRecDepth 100000 in
theorem xX5_undo : ∀ w ∈ zwxs RX5 mX5_undo eX5_undo rX5_undo, zspc w = true ∧ w ∈ lw_tbl := by decide +kernel
theorem tX5_undo {l : Launch} (hlt : l.stackTraces = false) : MetA l mX5_undo sX5_undo := zmet (M := mX5_undo) (own := RX5) (envM := eX5_undo) hlt rfl (by decide +kernel) (by decide +kernel) rfl (fun j q hq => by
  match j, hq with
  | 0, hq => cases hq; exact tX1_pop hlt
  | n + 1, hq => cases hq) aX5_undo wX5_undo xX5_undo rfl
def mX5_undoCount : zm_M := (yX5_undoCount, cX5_undoCount, 1, (some .int), (0, 0, 0, 0), 0, [], (0, 0))
def rX5_undoCount : List zm_R := [(0, .aload_n 0, 0, [], 0, 0, (0, 0), false, []),
  (1, .getfield 34, 2, [5, 4, 12, 2], 0, 0, (0, 0), false, []),
  (4, .getfield 347, 2, [1, 2, 3, 0], 0, 0, (0, 0), false, []),
  (7, .ireturn, 5, [0], 0, 0, (0, 0), false, [])]
def eX5_undoCount : List zm_M := []
noncomputable def vX5_undoCount : List (zm_M × zm_S) := []
noncomputable def sX5_undoCount : zm_S := zsem vX5_undoCount rX5_undoCount 1
set_option maxRecDepth 100000 in
theorem aX5_undoCount : zall RX5 mX5_undoCount eX5_undoCount rX5_undoCount = true := by decide +kernel
set_option maxRecDepth 100000 in
theorem wX5_undoCount : ∀ w ∈ zwds RX5 mX5_undoCount eX5_undoCount rX5_undoCount, w ∈ gT := zwd_of [290, 249] (by decide +kernel) (by decide +kernel) (z7_no (by decide +kernel))
set_option maxRecDepth 100000 in
theorem xX5_undoCount : ∀ w ∈ zwxs RX5 mX5_undoCount eX5_undoCount rX5_undoCount, zspc w = true ∧ w ∈ lw_tbl := by decide +kernel
theorem tX5_undoCount {l : Launch} (hlt : l.stackTraces = false) : MetA l mX5_undoCount sX5_undoCount := zmet (M := mX5_undoCount) (own := RX5) (envM := eX5_undoCount) hlt rfl (by decide +kernel) (by decide +kernel) rfl (fun j q hq => by cases hq) aX5_undoCount wX5_undoCount xX5_undoCount rfl
def mX5_writeRooms : zm_M := (yX5_writeRooms, cX5_writeRooms, 4, none, (2, 0, 0, 45), 2, [], (0, 0))
def rX5_writeRooms : List zm_R := [(0, .aload_n 0, 0, [], 0, 0, (0, 0), false, []),
  (1, .getfield 18, 2, [5, 1, 12, 2], 0, 0, (0, 0), false, []),
  (4, .iconst 0, 0, [], 0, 0, (0, 0), false, []),
  (5, .putfield 68, 2, [0, 1, 2, 0], 0, 0, (0, 0), false, []),
  (8, .iconst 0, 0, [], 0, 0, (0, 0), false, []),
  (9, .istore_n 3, 0, [], 0, 0, (0, 0), false, []),
  (10, .iload_n 3, 0, [], 0, 0, (0, 0), true, []),
  (11, .iload_n 2, 0, [], 0, 0, (0, 0), false, []),
  (12, .if_icmp .ge 40, 1, [27], 0, 0, (0, 0), false, []),
  (15, .iload_n 3, 0, [], 0, 0, (0, 0), false, []),
  (16, .ifCond .le 12, 1, [15], 0, 0, (0, 0), false, []),
  (19, .aload_n 0, 0, [], 0, 0, (0, 0), false, []),
  (20, .getfield 18, 2, [5, 1, 12, 2], 0, 0, (0, 0), false, []),
  (23, .bipush 62, 0, [], 62, 0, (0, 0), false, []),
  (25, .invokevirtual 359, 6, [0, 1, 2, 0, 0, 0], 0, 0, (0, 0), false, []),
  (28, .aload_n 0, 0, [], 0, 0, (0, 0), false, []),
  (29, .getfield 18, 2, [5, 1, 12, 2], 0, 0, (0, 0), false, []),
  (32, .aload_n 0, 0, [], 0, 0, (0, 0), false, []),
  (33, .getfield 24, 2, [5, 2, 12, 2], 0, 0, (0, 0), false, []),
  (36, .getfield 362, 2, [2, 1, 15, 2], 0, 0, (0, 0), false, []),
  (39, .aload_n 1, 0, [], 0, 0, (0, 0), false, []),
  (40, .iload_n 3, 0, [], 0, 0, (0, 0), false, []),
  (41, .iaload, 3, [0], 0, 0, (0, 0), false, []),
  (42, .laload, 3, [1], 0, 0, (0, 0), false, []),
  (43, .invokevirtual 366, 6, [0, 0, 2, 0, 0, 0], 0, 0, (0, 0), false, []),
  (46, .iinc 3 1, 0, [], 1, 0, (0, 0), false, []),
  (49, .goto (-39), 1, [6], 0, 0, (0, 0), false, []),
  (52, .return_, 5, [], 0, 0, (0, 0), false, [])]
def eX5_writeRooms : List zm_M := [mX0_addName, mX0_add]
noncomputable def vX5_writeRooms : List (zm_M × zm_S) := [(mX0_addName, sX0_addName), (mX0_add, sX0_add)]
noncomputable def sX5_writeRooms : zm_S := zsem vX5_writeRooms rX5_writeRooms 4
set_option maxRecDepth 100000 in
theorem aX5_writeRooms : zall RX5 mX5_writeRooms eX5_writeRooms rX5_writeRooms = true := by decide +kernel
set_option maxRecDepth 100000 in
theorem wX5_writeRooms : ∀ w ∈ zwds RX5 mX5_writeRooms eX5_writeRooms rX5_writeRooms, w ∈ gT := zwd_of [287, 154, 287, 819, 820, 821, 115, 822, 287, 288, 173, 823, 824, 825, 115, 826] (by decide +kernel) (by decide +kernel) (z7_no (by decide +kernel))
set_option maxRecDepth 100000 in
theorem xX5_writeRooms : ∀ w ∈ zwxs RX5 mX5_writeRooms eX5_writeRooms rX5_writeRooms, zspc w = true ∧ w ∈ lw_tbl := by decide +kernel
theorem tX5_writeRooms {l : Launch} (hlt : l.stackTraces = false) : MetA l mX5_writeRooms sX5_writeRooms := zmet (M := mX5_writeRooms) (own := RX5) (envM := eX5_writeRooms) hlt rfl (by decide +kernel) (by decide +kernel) rfl (fun j q hq => by
  match j, hq with
  | 0, hq => cases hq; exact tX0_addName hlt
  | 1, hq => cases hq; exact tX0_add hlt
  | n + 2, hq => cases hq) aX5_writeRooms wX5_writeRooms xX5_writeRooms rfl
def mX5_writeWalk : zm_M := (yX5_writeWalk, cX5_writeWalk, 2, (some .int), (6, 0, 0, 136), 0, [], (0, 0))
def rX5_writeWalk : List zm_R := [(0, .aload_n 0, 0, [], 0, 0, (0, 0), false, []),
  (1, .invokevirtual 231, 6, [0, 0, 1, 2, 0, 5], 0, 0, (0, 0), false, []),
  (4, .lconst 0, 0, [], 0, 0, (0, 0), false, []),
  (5, .lcmp, 0, [], 0, 0, (0, 0), false, []),
  (6, .ifCond .ne 7, 1, [7], 0, 0, (0, 0), false, []),
  (9, .iconst 1, 0, [], 1, 0, (0, 0), false, []),
  (10, .goto 4, 1, [8], 0, 0, (0, 0), false, []),
  (13, .iconst 0, 0, [], 0, 0, (0, 0), false, []),
  (14, .istore_n 1, 0, [], 0, 0, (0, 0), false, []),
  (15, .aload_n 0, 0, [], 0, 0, (0, 0), false, []),
  (16, .aload_n 0, 0, [], 0, 0, (0, 0), false, []),
  (17, .getfield 24, 2, [5, 2, 12, 2], 0, 0, (0, 0), false, []),
  (20, .getfield 192, 2, [2, 12, 15, 2], 0, 0, (0, 0), false, []),
  (23, .aload_n 0, 0, [], 0, 0, (0, 0), false, []),
  (24, .getfield 24, 2, [5, 2, 12, 2], 0, 0, (0, 0), false, []),
  (27, .getfield 127, 2, [2, 13, 15, 0], 0, 0, (0, 0), false, []),
  (30, .invokevirtual 355, 6, [0, 1, 3, 0, 0, 5], 0, 0, (0, 0), false, []),
  (33, .iload_n 1, 0, [], 0, 0, (0, 0), false, []),
  (34, .ifCond .eq 12, 1, [23], 0, 0, (0, 0), false, []),
  (37, .aload_n 0, 0, [], 0, 0, (0, 0), false, []),
  (38, .getfield 18, 2, [5, 1, 12, 2], 0, 0, (0, 0), false, []),
  (41, .bipush 33, 0, [], 33, 0, (0, 0), false, []),
  (43, .invokevirtual 359, 6, [0, 2, 2, 0, 0, 0], 0, 0, (0, 0), false, []),
  (46, .aload_n 0, 0, [], 0, 0, (0, 0), false, []),
  (47, .getfield 18, 2, [5, 1, 12, 2], 0, 0, (0, 0), false, []),
  (50, .getfield 68, 2, [0, 1, 2, 0], 0, 0, (0, 0), false, []),
  (53, .ireturn, 5, [0], 0, 0, (0, 0), false, [])]
def eX5_writeWalk : List zm_M := [mX5_completions, mX5_writeRooms, mX0_add]
noncomputable def vX5_writeWalk : List (zm_M × zm_S) := [(mX5_completions, sX5_completions), (mX5_writeRooms, sX5_writeRooms), (mX0_add, sX0_add)]
noncomputable def sX5_writeWalk : zm_S := zsem vX5_writeWalk rX5_writeWalk 2
set_option maxRecDepth 100000 in
theorem aX5_writeWalk : zall RX5 mX5_writeWalk eX5_writeWalk rX5_writeWalk = true := by decide +kernel
set_option maxRecDepth 100000 in
theorem wX5_writeWalk : ∀ w ∈ zwds RX5 mX5_writeWalk eX5_writeWalk rX5_writeWalk, w ∈ gT := zwd_of [692, 598, 599, 114, 600, 288, 200, 288, 202, 815, 817, 29, 114, 818, 287, 819, 820, 821, 115, 822, 287, 154] (by decide +kernel) (by decide +kernel) (z7_no (by decide +kernel))
set_option maxRecDepth 100000 in
theorem xX5_writeWalk : ∀ w ∈ zwxs RX5 mX5_writeWalk eX5_writeWalk rX5_writeWalk, zspc w = true ∧ w ∈ lw_tbl := by decide +kernel
theorem tX5_writeWalk {l : Launch} (hlt : l.stackTraces = false) : MetA l mX5_writeWalk sX5_writeWalk := zmet (M := mX5_writeWalk) (own := RX5) (envM := eX5_writeWalk) hlt rfl (by decide +kernel) (by decide +kernel) rfl (fun j q hq => by
  match j, hq with
  | 0, hq => cases hq; exact tX5_completions hlt
  | 1, hq => cases hq; exact tX5_writeRooms hlt
  | 2, hq => cases hq; exact tX0_add hlt
  | n + 3, hq => cases hq) aX5_writeWalk wX5_writeWalk xX5_writeWalk rfl
def mX5_writeTour : zm_M := (yX5_writeTour, cX5_writeTour, 3, (some .int), (7, 0, 0, 144), 1, [], (1, 6))
def rX5_writeTour : List zm_R := [(0, .aload_n 0, 0, [], 0, 0, (0, 0), false, []),
  (1, .lload_n 1, 0, [], 0, 0, (0, 0), false, []),
  (2, .invokevirtual 221, 6, [0, 0, 2, 0, 1, 5], 0, 0, (0, 0), false, []),
  (5, .aload_n 0, 0, [], 0, 0, (0, 0), false, []),
  (6, .lload_n 1, 0, [], 0, 0, (0, 0), false, []),
  (7, .invokevirtual 228, 6, [0, 1, 2, 0, 0, 5], 0, 0, (0, 0), false, []),
  (10, .aload_n 0, 0, [], 0, 0, (0, 0), false, []),
  (11, .aload_n 0, 0, [], 0, 0, (0, 0), false, []),
  (12, .getfield 57, 2, [5, 9, 12, 2], 0, 0, (0, 0), false, []),
  (15, .aload_n 0, 0, [], 0, 0, (0, 0), false, []),
  (16, .getfield 24, 2, [5, 2, 12, 2], 0, 0, (0, 0), false, []),
  (19, .getfield 107, 2, [2, 0, 15, 0], 0, 0, (0, 0), false, []),
  (22, .invokevirtual 355, 6, [0, 2, 3, 0, 0, 5], 0, 0, (0, 0), false, []),
  (25, .aload_n 0, 0, [], 0, 0, (0, 0), false, []),
  (26, .getfield 18, 2, [5, 1, 12, 2], 0, 0, (0, 0), false, []),
  (29, .getfield 68, 2, [0, 1, 2, 0], 0, 0, (0, 0), false, []),
  (32, .ireturn, 5, [0], 0, 0, (0, 0), false, [])]
def eX5_writeTour : List zm_M := [mX5_needTour, mX5_fillRow, mX5_writeRooms]
noncomputable def vX5_writeTour : List (zm_M × zm_S) := [(mX5_needTour, sX5_needTour), (mX5_fillRow, sX5_fillRow), (mX5_writeRooms, sX5_writeRooms)]
noncomputable def sX5_writeTour : zm_S := zsem vX5_writeTour rX5_writeTour 3
set_option maxRecDepth 100000 in
theorem aX5_writeTour : zall RX5 mX5_writeTour eX5_writeTour rX5_writeTour = true := by decide +kernel
set_option maxRecDepth 100000 in
theorem wX5_writeTour : ∀ w ∈ zwds RX5 mX5_writeTour eX5_writeTour rX5_writeTour, w ∈ gT := zwd_of [973, 975, 30, 114, 976, 983, 985, 32, 114, 986, 295, 288, 170, 815, 817, 29, 114, 818, 287, 154] (by decide +kernel) (by decide +kernel) (z7_no (by decide +kernel))
set_option maxRecDepth 100000 in
theorem xX5_writeTour : ∀ w ∈ zwxs RX5 mX5_writeTour eX5_writeTour rX5_writeTour, zspc w = true ∧ w ∈ lw_tbl := by decide +kernel
theorem tX5_writeTour {l : Launch} (hlt : l.stackTraces = false) : MetA l mX5_writeTour sX5_writeTour := zmet (M := mX5_writeTour) (own := RX5) (envM := eX5_writeTour) hlt rfl (by decide +kernel) (by decide +kernel) rfl (fun j q hq => by
  match j, hq with
  | 0, hq => cases hq; exact tX5_needTour hlt
  | 1, hq => cases hq; exact tX5_fillRow hlt
  | 2, hq => cases hq; exact tX5_writeRooms hlt
  | n + 3, hq => cases hq) aX5_writeTour wX5_writeTour xX5_writeTour rfl
def mX5_writeDoor : zm_M := (yX5_writeDoor, cX5_writeDoor, 2, (some .int), (7, 0, 0, 141), 1, [], (1, 6))
def rX5_writeDoor : List zm_R := [(0, .aload_n 0, 0, [], 0, 0, (0, 0), false, []),
  (1, .iload_n 1, 0, [], 0, 0, (0, 0), false, []),
  (2, .invokevirtual 162, 6, [0, 0, 2, 0, 1, 5], 0, 0, (0, 0), false, []),
  (5, .aload_n 0, 0, [], 0, 0, (0, 0), false, []),
  (6, .getfield 18, 2, [5, 1, 12, 2], 0, 0, (0, 0), false, []),
  (9, .iconst 0, 0, [], 0, 0, (0, 0), false, []),
  (10, .putfield 68, 2, [0, 1, 2, 0], 0, 0, (0, 0), false, []),
  (13, .aload_n 0, 0, [], 0, 0, (0, 0), false, []),
  (14, .getfield 18, 2, [5, 1, 12, 2], 0, 0, (0, 0), false, []),
  (17, .aload_n 0, 0, [], 0, 0, (0, 0), false, []),
  (18, .getfield 24, 2, [5, 2, 12, 2], 0, 0, (0, 0), false, []),
  (21, .getfield 362, 2, [2, 1, 15, 2], 0, 0, (0, 0), false, []),
  (24, .aload_n 0, 0, [], 0, 0, (0, 0), false, []),
  (25, .getfield 24, 2, [5, 2, 12, 2], 0, 0, (0, 0), false, []),
  (28, .getfield 165, 2, [2, 5, 15, 2], 0, 0, (0, 0), false, []),
  (31, .iload_n 1, 0, [], 0, 0, (0, 0), false, []),
  (32, .iaload, 3, [0], 0, 0, (0, 0), false, []),
  (33, .laload, 3, [1], 0, 0, (0, 0), false, []),
  (34, .invokevirtual 366, 6, [0, 1, 2, 0, 0, 0], 0, 0, (0, 0), false, []),
  (37, .aload_n 0, 0, [], 0, 0, (0, 0), false, []),
  (38, .getfield 18, 2, [5, 1, 12, 2], 0, 0, (0, 0), false, []),
  (41, .aload_n 0, 0, [], 0, 0, (0, 0), false, []),
  (42, .getfield 24, 2, [5, 2, 12, 2], 0, 0, (0, 0), false, []),
  (45, .getfield 177, 2, [2, 9, 15, 2], 0, 0, (0, 0), false, []),
  (48, .iload_n 1, 0, [], 0, 0, (0, 0), false, []),
  (49, .baload, 3, [3], 0, 0, (0, 0), false, []),
  (50, .ifCond .eq 8, 1, [29], 0, 0, (0, 0), false, []),
  (53, .bipush 62, 0, [], 62, 0, (0, 0), false, []),
  (55, .goto 5, 1, [30], 0, 0, (0, 0), false, []),
  (58, .bipush 45, 0, [], 45, 0, (0, 0), false, []),
  (60, .invokevirtual 359, 6, [0, 2, 2, 0, 0, 0], 0, 0, (0, 0), false, []),
  (63, .aload_n 0, 0, [], 0, 0, (0, 0), false, []),
  (64, .getfield 18, 2, [5, 1, 12, 2], 0, 0, (0, 0), false, []),
  (67, .aload_n 0, 0, [], 0, 0, (0, 0), false, []),
  (68, .getfield 24, 2, [5, 2, 12, 2], 0, 0, (0, 0), false, []),
  (71, .getfield 362, 2, [2, 1, 15, 2], 0, 0, (0, 0), false, []),
  (74, .aload_n 0, 0, [], 0, 0, (0, 0), false, []),
  (75, .getfield 24, 2, [5, 2, 12, 2], 0, 0, (0, 0), false, []),
  (78, .getfield 168, 2, [2, 6, 15, 2], 0, 0, (0, 0), false, []),
  (81, .iload_n 1, 0, [], 0, 0, (0, 0), false, []),
  (82, .iaload, 3, [0], 0, 0, (0, 0), false, []),
  (83, .laload, 3, [1], 0, 0, (0, 0), false, []),
  (84, .invokevirtual 366, 6, [0, 1, 2, 0, 0, 0], 0, 0, (0, 0), false, []),
  (87, .aload_n 0, 0, [], 0, 0, (0, 0), false, []),
  (88, .getfield 24, 2, [5, 2, 12, 2], 0, 0, (0, 0), false, []),
  (91, .getfield 171, 2, [2, 7, 15, 2], 0, 0, (0, 0), false, []),
  (94, .iload_n 1, 0, [], 0, 0, (0, 0), false, []),
  (95, .iaload, 3, [0], 0, 0, (0, 0), false, []),
  (96, .ifCond .eq 55, 1, [74], 0, 0, (0, 0), false, []),
  (99, .aload_n 0, 0, [], 0, 0, (0, 0), false, []),
  (100, .getfield 18, 2, [5, 1, 12, 2], 0, 0, (0, 0), false, []),
  (103, .bipush 32, 0, [], 32, 0, (0, 0), false, []),
  (105, .invokevirtual 359, 6, [0, 2, 2, 0, 0, 0], 0, 0, (0, 0), false, []),
  (108, .aload_n 0, 0, [], 0, 0, (0, 0), false, []),
  (109, .getfield 18, 2, [5, 1, 12, 2], 0, 0, (0, 0), false, []),
  (112, .aload_n 0, 0, [], 0, 0, (0, 0), false, []),
  (113, .getfield 24, 2, [5, 2, 12, 2], 0, 0, (0, 0), false, []),
  (116, .getfield 171, 2, [2, 7, 15, 2], 0, 0, (0, 0), false, []),
  (119, .iload_n 1, 0, [], 0, 0, (0, 0), false, []),
  (120, .iaload, 3, [0], 0, 0, (0, 0), false, []),
  (121, .iconst 1, 0, [], 1, 0, (0, 0), false, []),
  (122, .if_icmp .ne 8, 1, [64], 0, 0, (0, 0), false, []),
  (125, .bipush 107, 0, [], 107, 0, (0, 0), false, []),
  (127, .goto 5, 1, [65], 0, 0, (0, 0), false, []),
  (130, .bipush 116, 0, [], 116, 0, (0, 0), false, []),
  (132, .invokevirtual 359, 6, [0, 2, 2, 0, 0, 0], 0, 0, (0, 0), false, []),
  (135, .aload_n 0, 0, [], 0, 0, (0, 0), false, []),
  (136, .getfield 18, 2, [5, 1, 12, 2], 0, 0, (0, 0), false, []),
  (139, .aload_n 0, 0, [], 0, 0, (0, 0), false, []),
  (140, .getfield 24, 2, [5, 2, 12, 2], 0, 0, (0, 0), false, []),
  (143, .getfield 174, 2, [2, 8, 15, 2], 0, 0, (0, 0), false, []),
  (146, .iload_n 1, 0, [], 0, 0, (0, 0), false, []),
  (147, .iaload, 3, [0], 0, 0, (0, 0), false, []),
  (148, .invokevirtual 369, 6, [0, 3, 2, 0, 0, 0], 0, 0, (0, 0), false, []),
  (151, .aload_n 0, 0, [], 0, 0, (0, 0), false, []),
  (152, .getfield 18, 2, [5, 1, 12, 2], 0, 0, (0, 0), false, []),
  (155, .getfield 68, 2, [0, 1, 2, 0], 0, 0, (0, 0), false, []),
  (158, .ireturn, 5, [0], 0, 0, (0, 0), false, [])]
def eX5_writeDoor : List zm_M := [mX5_needDoor, mX0_addName, mX0_add, mX0_addNumber]
noncomputable def vX5_writeDoor : List (zm_M × zm_S) := [(mX5_needDoor, sX5_needDoor), (mX0_addName, sX0_addName), (mX0_add, sX0_add), (mX0_addNumber, sX0_addNumber)]
noncomputable def sX5_writeDoor : zm_S := zsem vX5_writeDoor rX5_writeDoor 2
set_option maxRecDepth 100000 in
theorem aX5_writeDoor : zall RX5 mX5_writeDoor eX5_writeDoor rX5_writeDoor = true := by decide +kernel
set_option maxRecDepth 100000 in
theorem wX5_writeDoor : ∀ w ∈ zwds RX5 mX5_writeDoor eX5_writeDoor rX5_writeDoor, w ∈ gT := zwd_of [769, 771, 28, 114, 772, 287, 154, 287, 288, 173, 288, 184, 823, 824, 825, 115, 826, 287, 288, 193, 819, 820, 821, 115, 822, 287, 288, 173, 288, 186, 823, 824, 825, 115, 826, 288, 188, 287, 819, 820, 821, 115, 822, 287, 288, 188, 819, 820, 821, 115, 822, 287, 288, 190, 1200, 1201, 1202, 115, 1203, 287, 154] (by decide +kernel) (by decide +kernel) (z7_no (by decide +kernel))
set_option maxRecDepth 100000 in
theorem xX5_writeDoor : ∀ w ∈ zwxs RX5 mX5_writeDoor eX5_writeDoor rX5_writeDoor, zspc w = true ∧ w ∈ lw_tbl := by decide +kernel
theorem tX5_writeDoor {l : Launch} (hlt : l.stackTraces = false) : MetA l mX5_writeDoor sX5_writeDoor := zmet (M := mX5_writeDoor) (own := RX5) (envM := eX5_writeDoor) hlt rfl (by decide +kernel) (by decide +kernel) rfl (fun j q hq => by
  match j, hq with
  | 0, hq => cases hq; exact tX5_needDoor hlt
  | 1, hq => cases hq; exact tX0_addName hlt
  | 2, hq => cases hq; exact tX0_add hlt
  | 3, hq => cases hq; exact tX0_addNumber hlt
  | n + 4, hq => cases hq) aX5_writeDoor wX5_writeDoor xX5_writeDoor rfl
def mX5_outputByte : zm_M := (yX5_outputByte, cX5_outputByte, 2, (some .int), (6, 0, 0, 120), 1, [], (1, 6))
def rX5_outputByte : List zm_R := [(0, .iload_n 1, 0, [], 0, 0, (0, 0), false, []),
  (1, .ifCond .lt 14, 1, [7], 0, 0, (0, 0), false, []),
  (4, .iload_n 1, 0, [], 0, 0, (0, 0), false, []),
  (5, .aload_n 0, 0, [], 0, 0, (0, 0), false, []),
  (6, .getfield 18, 2, [5, 1, 12, 2], 0, 0, (0, 0), false, []),
  (9, .getfield 68, 2, [0, 1, 2, 0], 0, 0, (0, 0), false, []),
  (12, .if_icmp .lt 14, 1, [8], 0, 0, (0, 0), false, []),
  (15, .new 187, 7, [3, 28, 187, 372, 191, 1], 0, 0, (0, 0), false, []),
  (26, .aload_n 0, 0, [], 0, 0, (0, 0), false, []),
  (27, .getfield 18, 2, [5, 1, 12, 2], 0, 0, (0, 0), false, []),
  (30, .getfield 374, 2, [0, 0, 2, 2], 0, 0, (0, 0), false, []),
  (33, .iload_n 1, 0, [], 0, 0, (0, 0), false, []),
  (34, .iaload, 3, [0], 0, 0, (0, 0), false, []),
  (35, .ireturn, 5, [0], 0, 0, (0, 0), false, [])]
def eX5_outputByte : List zm_M := []
noncomputable def vX5_outputByte : List (zm_M × zm_S) := []
noncomputable def sX5_outputByte : zm_S := zsem vX5_outputByte rX5_outputByte 2
set_option maxRecDepth 100000 in
theorem aX5_outputByte : zall RX5 mX5_outputByte eX5_outputByte rX5_outputByte = true := by decide +kernel
set_option maxRecDepth 100000 in
theorem wX5_outputByte : ∀ w ∈ zwds RX5 mX5_outputByte eX5_outputByte rX5_outputByte, w ∈ gT := zwd_of [287, 154, 287, 152] (by decide +kernel) (by decide +kernel) (z7_of (L := [(15, .new 187, 7, [3, 28, 187, 372, 191, 1], 0, 0, (0, 0), false, [])]) rfl (List.forall_mem_cons.mpr ⟨zw7 (x := 3) rfl (gT_in (List.mem_of_getElem? (i := 928) (by decide +kernel)) (by decide +kernel)) (gT_in (List.mem_of_getElem? (i := 133) (by decide +kernel)) (by decide +kernel)) zw7_3, fun _ h => absurd h List.not_mem_nil⟩))
set_option maxRecDepth 100000 in
theorem xX5_outputByte : ∀ w ∈ zwxs RX5 mX5_outputByte eX5_outputByte rX5_outputByte, zspc w = true ∧ w ∈ lw_tbl := by decide +kernel
theorem tX5_outputByte {l : Launch} (hlt : l.stackTraces = false) : MetA l mX5_outputByte sX5_outputByte := zmet (M := mX5_outputByte) (own := RX5) (envM := eX5_outputByte) hlt rfl (by decide +kernel) (by decide +kernel) rfl (fun j q hq => by cases hq) aX5_outputByte wX5_outputByte xX5_outputByte rfl
