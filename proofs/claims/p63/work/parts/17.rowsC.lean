/-! ROWS: the bytecode of the methods as the abstract machine runs it, and their contracts (written by wip/p63/emit.py). -/
def mX5_init : zm_M := (yX5_init, cX5_init, 1, none, (3, 135, 72537, 53), 0, [], (135, 72537))
set_option maxRecDepth 100000 in
def rX5_init : List zm_R := [(0, .aload_n 0, 0, [], 0, 0, (0, 0), false, []),
  (1, .invokespecial 3, 10, [], 0, 0, (0, 0), false, []),
  (4, .aload_n 0, 0, [], 0, 0, (0, 0), false, []),
  (5, .new 9, 4, [0, 2], 0, 0, (0, 0), false, []),
  (8, .dup, 0, [], 0, 0, (1, 2), true, []),
  (9, .sipush 500, 0, [], 500, 0, (1, 2), false, []),
  (12, .invokespecial 11, 6, [2, 0, 2, 0, 0, 0], 0, 0, (1, 2), false, []),
  (15, .putfield 14, 2, [5, 0, 12, 2], 0, 0, (2, 502), true, []),
  (18, .aload_n 0, 0, [], 0, 0, (2, 502), false, []),
  (19, .new 9, 4, [0, 2], 0, 0, (2, 502), false, []),
  (22, .dup, 0, [], 0, 0, (3, 504), true, []),
  (23, .bipush 77, 0, [], 77, 0, (3, 504), false, []),
  (25, .invokespecial 11, 6, [2, 0, 2, 0, 0, 0], 0, 0, (3, 504), false, []),
  (28, .putfield 18, 2, [5, 1, 12, 2], 0, 0, (4, 1004), true, []),
  (31, .aload_n 0, 0, [], 0, 0, (4, 1004), false, []),
  (32, .new 21, 4, [2, 15], 0, 0, (4, 1004), false, []),
  (35, .dup, 0, [], 0, 0, (5, 1019), true, []),
  (36, .invokespecial 23, 6, [4, 1, 1, 0, 0, 2], 0, 0, (5, 1019), false, []),
  (39, .putfield 24, 2, [5, 2, 12, 2], 0, 0, (15, 1174), true, []),
  (42, .aload_n 0, 0, [], 0, 0, (15, 1174), false, []),
  (43, .new 21, 4, [2, 15], 0, 0, (15, 1174), false, []),
  (46, .dup, 0, [], 0, 0, (16, 1189), true, []),
  (47, .invokespecial 23, 6, [4, 1, 1, 0, 0, 2], 0, 0, (16, 1189), false, []),
  (50, .putfield 28, 2, [5, 3, 12, 2], 0, 0, (26, 1344), true, []),
  (53, .aload_n 0, 0, [], 0, 0, (26, 1344), false, []),
  (54, .new 31, 4, [1, 3], 0, 0, (26, 1344), false, []),
  (57, .dup, 0, [], 0, 0, (27, 1347), true, []),
  (58, .invokespecial 33, 6, [2, 2, 1, 0, 0, 1], 0, 0, (27, 1347), false, []),
  (61, .putfield 34, 2, [5, 4, 12, 2], 0, 0, (105, 2543), true, []),
  (64, .aload_n 0, 0, [], 0, 0, (105, 2543), false, []),
  (65, .iconst 2, 0, [], 2, 0, (105, 2543), false, []),
  (66, .anewarray 21, 4, [5, 2], 0, 0, (105, 2543), false, []),
  (69, .dup, 0, [], 0, 0, (106, 2545), true, []),
  (70, .iconst 0, 0, [], 0, 0, (106, 2545), false, []),
  (71, .new 21, 4, [2, 15], 0, 0, (106, 2545), false, []),
  (74, .dup, 0, [], 0, 0, (107, 2560), true, []),
  (75, .invokespecial 23, 6, [4, 1, 1, 0, 0, 2], 0, 0, (107, 2560), false, []),
  (78, .aastore, 3, [5], 0, 0, (117, 2715), true, []),
  (79, .dup, 0, [], 0, 0, (117, 2715), false, []),
  (80, .iconst 1, 0, [], 1, 0, (117, 2715), false, []),
  (81, .new 21, 4, [2, 15], 0, 0, (117, 2715), false, []),
  (84, .dup, 0, [], 0, 0, (118, 2730), true, []),
  (85, .invokespecial 23, 6, [4, 1, 1, 0, 0, 2], 0, 0, (118, 2730), false, []),
  (88, .aastore, 3, [5], 0, 0, (128, 2885), true, []),
  (89, .putfield 38, 2, [5, 5, 12, 2], 0, 0, (128, 2885), false, []),
  (92, .aload_n 0, 0, [], 0, 0, (128, 2885), false, []),
  (93, .iconst 2, 0, [], 2, 0, (128, 2885), false, []),
  (94, .newarray .boolean, 4, [3, 2], 0, 0, (128, 2885), false, []),
  (96, .putfield 42, 2, [5, 6, 12, 2], 0, 0, (129, 2887), true, []),
  (99, .aload_n 0, 0, [], 0, 0, (129, 2887), false, []),
  (100, .new 46, 4, [4, 7], 0, 0, (129, 2887), false, []),
  (103, .dup, 0, [], 0, 0, (130, 2894), true, []),
  (104, .invokespecial 48, 6, [4, 3, 1, 0, 0, 4], 0, 0, (130, 2894), false, []),
  (107, .putfield 49, 2, [5, 7, 12, 2], 0, 0, (134, 72526), true, []),
  (110, .aload_n 0, 0, [], 0, 0, (134, 72526), false, []),
  (111, .iconst 1, 0, [], 1, 0, (134, 72526), false, []),
  (112, .putfield 53, 2, [5, 8, 12, 3], 0, 0, (134, 72526), false, []),
  (115, .aload_n 0, 0, [], 0, 0, (134, 72526), false, []),
  (116, .bipush 11, 0, [], 11, 0, (134, 72526), false, []),
  (118, .newarray .int, 4, [0, 11], 0, 0, (134, 72526), false, []),
  (120, .putfield 57, 2, [5, 9, 12, 2], 0, 0, (135, 72537), true, []),
  (123, .aload_n 0, 0, [], 0, 0, (135, 72537), false, []),
  (124, .iconst 0, 0, [], 0, 0, (135, 72537), false, []),
  (125, .putfield 61, 2, [5, 10, 12, 0], 0, 0, (135, 72537), false, []),
  (128, .aload_n 0, 0, [], 0, 0, (135, 72537), false, []),
  (129, .iconst (-1), 0, [], (-1), 0, (135, 72537), false, []),
  (130, .putfield 65, 2, [5, 11, 12, 0], 0, 0, (135, 72537), false, []),
  (133, .return_, 5, [], 0, 0, (135, 72537), false, [])]
def eX5_init : List zm_M := [mX0_init, mX2_init, mX1_init, mX4_init]
noncomputable def vX5_init : List (zm_M × zm_S) := [(mX0_init, sX0_init), (mX2_init, sX2_init), (mX1_init, sX1_init), (mX4_init, sX4_init)]
noncomputable def sX5_init : zm_S := zsem vX5_init rX5_init 1
set_option maxRecDepth 100000 in
theorem aX5_init : zall RX5 mX5_init eX5_init rX5_init = true := by decide +kernel
set_option maxRecDepth 100000 in
theorem wX5_init : ∀ w ∈ zwds RX5 mX5_init eX5_init rX5_init, w ∈ gT := zwd_of [68, 69, 70, 71, 72, 39, 73, 74, 39, 75, 211, 71, 72, 39, 73, 74, 39, 75, 212, 88, 89, 40, 91, 40, 92, 213, 88, 89, 40, 91, 40, 92, 214, 162, 163, 41, 164, 165, 41, 166, 215, 88, 88, 89, 40, 91, 40, 92, 88, 89, 40, 91, 40, 92, 216, 161, 217, 182, 183, 42, 185, 42, 186, 218, 219, 87, 220, 221, 222] (by decide +kernel) (by decide +kernel) (z7_no (by decide +kernel))
set_option maxRecDepth 100000 in
theorem xX5_init : ∀ w ∈ zwxs RX5 mX5_init eX5_init rX5_init, zspc w = true ∧ w ∈ lw_tbl := by decide +kernel
theorem tX5_init {sc : Nat × (Nat → Int32)} {l : Launch} (hlt : l.stackTraces = false) : MetA sc l mX5_init (sX5_init) := zmet (M := mX5_init) (own := RX5) (envM := eX5_init) hlt rfl (by decide +kernel) (by decide +kernel) rfl (fun j q hq => by
  match j, hq with
  | 0, hq => cases hq; exact tX0_init hlt
  | 1, hq => cases hq; exact tX2_init hlt
  | 2, hq => cases hq; exact tX1_init hlt
  | 3, hq => cases hq; exact tX4_init hlt
  | n + 4, hq => cases hq) aX5_init wX5_init xX5_init rfl
def mX5_append : zm_M := (yX5_append, cX5_append, 6, (some .int), (6, 0, 0, 120), 5, [], (1, 6))
set_option maxRecDepth 100000 in
def rX5_append : List zm_R := [(0, .aload_n 0, 0, [], 0, 0, (0, 0), false, []),
  (1, .getfield 14, 2, [5, 0, 12, 2], 0, 0, (0, 0), false, []),
  (4, .getfield 68, 2, [0, 1, 2, 0], 0, 0, (0, 0), false, []),
  (7, .bipush 20, 0, [], 20, 0, (0, 0), false, []),
  (9, .iadd, 0, [], 0, 0, (0, 0), false, []),
  (10, .sipush 500, 0, [], 500, 0, (0, 0), false, []),
  (13, .if_icmp .le 13, 1, [8], 0, 0, (0, 0), false, []),
  (16, .new 71, 7, [0, 13, 71, 73, 75, 0], 0, 0, (0, 0), false, []),
  (26, .aload_n 0, 0, [], 0, 0, (0, 0), false, []),
  (27, .getfield 14, 2, [5, 0, 12, 2], 0, 0, (0, 0), false, []),
  (30, .iload_n 1, 0, [], 0, 0, (0, 0), false, []),
  (31, .invokevirtual 78, 6, [0, 0, 2, 0, 0, 0], 0, 0, (0, 0), false, []),
  (34, .aload_n 0, 0, [], 0, 0, (0, 0), false, []),
  (35, .getfield 14, 2, [5, 0, 12, 2], 0, 0, (0, 0), false, []),
  (38, .iload_n 2, 0, [], 0, 0, (0, 0), false, []),
  (39, .invokevirtual 78, 6, [0, 0, 2, 0, 0, 0], 0, 0, (0, 0), false, []),
  (42, .aload_n 0, 0, [], 0, 0, (0, 0), false, []),
  (43, .getfield 14, 2, [5, 0, 12, 2], 0, 0, (0, 0), false, []),
  (46, .iload_n 3, 0, [], 0, 0, (0, 0), false, []),
  (47, .invokevirtual 78, 6, [0, 0, 2, 0, 0, 0], 0, 0, (0, 0), false, []),
  (50, .aload_n 0, 0, [], 0, 0, (0, 0), false, []),
  (51, .getfield 14, 2, [5, 0, 12, 2], 0, 0, (0, 0), false, []),
  (54, .iload 4, 0, [], 0, 0, (0, 0), false, []),
  (56, .invokevirtual 78, 6, [0, 0, 2, 0, 0, 0], 0, 0, (0, 0), false, []),
  (59, .aload_n 0, 0, [], 0, 0, (0, 0), false, []),
  (60, .getfield 14, 2, [5, 0, 12, 2], 0, 0, (0, 0), false, []),
  (63, .iload 5, 0, [], 0, 0, (0, 0), false, []),
  (65, .invokevirtual 78, 6, [0, 0, 2, 0, 0, 0], 0, 0, (0, 0), false, []),
  (68, .aload_n 0, 0, [], 0, 0, (0, 0), false, []),
  (69, .getfield 14, 2, [5, 0, 12, 2], 0, 0, (0, 0), false, []),
  (72, .getfield 68, 2, [0, 1, 2, 0], 0, 0, (0, 0), false, []),
  (75, .ireturn, 5, [0], 0, 0, (0, 0), false, [])]
def eX5_append : List zm_M := [mX0_addFour]
noncomputable def vX5_append : List (zm_M × zm_S) := [(mX0_addFour, sX0_addFour)]
noncomputable def sX5_append : zm_S := zsem vX5_append rX5_append 6
set_option maxRecDepth 100000 in
theorem aX5_append : zall RX5 mX5_append eX5_append rX5_append = true := by decide +kernel
set_option maxRecDepth 100000 in
theorem wX5_append : ∀ w ∈ zwds RX5 mX5_append eX5_append rX5_append, w ∈ gT := zwd_of [211, 80, 211, 768, 769, 770, 39, 771, 211, 768, 769, 770, 39, 771, 211, 768, 769, 770, 39, 771, 211, 768, 769, 770, 39, 771, 211, 768, 769, 770, 39, 771, 211, 80] (by decide +kernel) (by decide +kernel) (z7_of (L := [(16, .new 71, 7, [0, 13, 71, 73, 75, 0], 0, 0, (0, 0), false, [])]) rfl (List.forall_mem_cons.mpr ⟨zw7 (x := 0) rfl (gT_in (List.mem_of_getElem? (i := 413) (by decide +kernel)) (by decide +kernel)) (gT_in (List.mem_of_getElem? (i := 59) (by decide +kernel)) (by decide +kernel)) zw7_0, fun _ h => absurd h List.not_mem_nil⟩))
set_option maxRecDepth 100000 in
theorem xX5_append : ∀ w ∈ zwxs RX5 mX5_append eX5_append rX5_append, zspc w = true ∧ w ∈ lw_tbl := by decide +kernel
theorem tX5_append {sc : Nat × (Nat → Int32)} {l : Launch} (hlt : l.stackTraces = false) : MetA sc l mX5_append (sX5_append) := zmet (M := mX5_append) (own := RX5) (envM := eX5_append) hlt rfl (by decide +kernel) (by decide +kernel) rfl (fun j q hq => by
  match j, hq with
  | 0, hq => cases hq; exact tX0_addFour hlt
  | n + 1, hq => cases hq) aX5_append wX5_append xX5_append rfl
def mX5_truncate : zm_M := (yX5_truncate, cX5_truncate, 2, none, (6, 0, 0, 120), 1, [], (1, 6))
set_option maxRecDepth 100000 in
def rX5_truncate : List zm_R := [(0, .iload_n 1, 0, [], 0, 0, (0, 0), false, []),
  (1, .ifCond .lt 14, 1, [7], 0, 0, (0, 0), false, []),
  (4, .iload_n 1, 0, [], 0, 0, (0, 0), false, []),
  (5, .aload_n 0, 0, [], 0, 0, (0, 0), false, []),
  (6, .getfield 14, 2, [5, 0, 12, 2], 0, 0, (0, 0), false, []),
  (9, .getfield 68, 2, [0, 1, 2, 0], 0, 0, (0, 0), false, []),
  (12, .if_icmp .le 13, 1, [8], 0, 0, (0, 0), false, []),
  (15, .new 81, 7, [1, 14, 81, 83, 84, 0], 0, 0, (0, 0), false, []),
  (25, .aload_n 0, 0, [], 0, 0, (0, 0), false, []),
  (26, .getfield 14, 2, [5, 0, 12, 2], 0, 0, (0, 0), false, []),
  (29, .iload_n 1, 0, [], 0, 0, (0, 0), false, []),
  (30, .putfield 68, 2, [0, 1, 2, 0], 0, 0, (0, 0), false, []),
  (33, .return_, 5, [], 0, 0, (0, 0), false, [])]
def eX5_truncate : List zm_M := []
noncomputable def vX5_truncate : List (zm_M × zm_S) := []
noncomputable def sX5_truncate : zm_S := zsem vX5_truncate rX5_truncate 2
set_option maxRecDepth 100000 in
theorem aX5_truncate : zall RX5 mX5_truncate eX5_truncate rX5_truncate = true := by decide +kernel
set_option maxRecDepth 100000 in
theorem wX5_truncate : ∀ w ∈ zwds RX5 mX5_truncate eX5_truncate rX5_truncate, w ∈ gT := zwd_of [211, 80, 211, 80] (by decide +kernel) (by decide +kernel) (z7_of (L := [(15, .new 81, 7, [1, 14, 81, 83, 84, 0], 0, 0, (0, 0), false, [])]) rfl (List.forall_mem_cons.mpr ⟨zw7 (x := 1) rfl (gT_in (List.mem_of_getElem? (i := 271) (by decide +kernel)) (by decide +kernel)) (gT_in (List.mem_of_getElem? (i := 58) (by decide +kernel)) (by decide +kernel)) zw7_1, fun _ h => absurd h List.not_mem_nil⟩))
set_option maxRecDepth 100000 in
theorem xX5_truncate : ∀ w ∈ zwxs RX5 mX5_truncate eX5_truncate rX5_truncate, zspc w = true ∧ w ∈ lw_tbl := by decide +kernel
theorem tX5_truncate {sc : Nat × (Nat → Int32)} {l : Launch} (hlt : l.stackTraces = false) : MetA sc l mX5_truncate (sX5_truncate) := zmet (M := mX5_truncate) (own := RX5) (envM := eX5_truncate) hlt rfl (by decide +kernel) (by decide +kernel) rfl (fun j q hq => by cases hq) aX5_truncate wX5_truncate xX5_truncate rfl
def mX5_record : zm_M := (yX5_record, cX5_record, 1, none, (3, 0, 0, 82), 0, [], (0, 0))
set_option maxRecDepth 100000 in
def rX5_record : List zm_R := [(0, .aload_n 0, 0, [], 0, 0, (0, 0), false, []),
  (1, .getfield 34, 2, [5, 4, 12, 2], 0, 0, (0, 0), false, []),
  (4, .aload_n 0, 0, [], 0, 0, (0, 0), false, []),
  (5, .getfield 24, 2, [5, 2, 12, 2], 0, 0, (0, 0), false, []),
  (8, .invokevirtual 394, 6, [0, 0, 2, 0, 0, 1], 0, 0, (0, 0), false, []),
  (11, .aload_n 0, 0, [], 0, 0, (0, 0), false, []),
  (12, .iconst 1, 0, [], 1, 0, (0, 0), false, []),
  (13, .putfield 53, 2, [5, 8, 12, 3], 0, 0, (0, 0), false, []),
  (16, .return_, 5, [], 0, 0, (0, 0), false, [])]
def eX5_record : List zm_M := [mX1_push]
noncomputable def vX5_record : List (zm_M × zm_S) := [(mX1_push, sX1_push)]
noncomputable def sX5_record : zm_S := zsem vX5_record rX5_record 1
set_option maxRecDepth 100000 in
theorem aX5_record : zall RX5 mX5_record eX5_record rX5_record = true := by decide +kernel
set_option maxRecDepth 100000 in
theorem wX5_record : ∀ w ∈ zwds RX5 mX5_record eX5_record rX5_record, w ∈ gT := zwd_of [215, 213, 433, 434, 435, 41, 436, 219] (by decide +kernel) (by decide +kernel) (z7_no (by decide +kernel))
set_option maxRecDepth 100000 in
theorem xX5_record : ∀ w ∈ zwxs RX5 mX5_record eX5_record rX5_record, zspc w = true ∧ w ∈ lw_tbl := by decide +kernel
theorem tX5_record {sc : Nat × (Nat → Int32)} {l : Launch} (hlt : l.stackTraces = false) : MetA sc l mX5_record (sX5_record) := zmet (M := mX5_record) (own := RX5) (envM := eX5_record) hlt rfl (by decide +kernel) (by decide +kernel) rfl (fun j q hq => by
  match j, hq with
  | 0, hq => cases hq; exact tX1_push hlt
  | n + 1, hq => cases hq) aX5_record wX5_record xX5_record rfl
def mX5_load : zm_M := (yX5_load, cX5_load, 3, (some .int), (6, 1, 9, 131), 0, [], (1, 9))
set_option maxRecDepth 100000 in
def rX5_load : List zm_R := [(0, .new 85, 4, [3, 9], 0, 0, (0, 0), false, []),
  (3, .dup, 0, [], 0, 0, (1, 9), false, []),
  (4, .aload_n 0, 0, [], 0, 0, (1, 9), false, []),
  (5, .getfield 14, 2, [5, 0, 12, 2], 0, 0, (1, 9), false, []),
  (8, .aload_n 0, 0, [], 0, 0, (1, 9), false, []),
  (9, .getfield 28, 2, [5, 3, 12, 2], 0, 0, (1, 9), false, []),
  (12, .invokespecial 87, 6, [2, 0, 3, 0, 0, 3], 0, 0, (1, 9), false, []),
  (15, .astore_n 1, 0, [], 0, 0, (1, 9), false, []),
  (16, .aload_n 1, 0, [], 0, 0, (1, 9), false, []),
  (17, .invokevirtual 90, 6, [0, 1, 1, 1, 0, 3], 0, 0, (1, 9), false, []),
  (20, .istore_n 2, 0, [], 0, 0, (1, 9), false, []),
  (21, .aload_n 0, 0, [], 0, 0, (1, 9), false, []),
  (22, .getfield 14, 2, [5, 0, 12, 2], 0, 0, (1, 9), false, []),
  (25, .iconst 0, 0, [], 0, 0, (1, 9), false, []),
  (26, .putfield 68, 2, [0, 1, 2, 0], 0, 0, (1, 9), false, []),
  (29, .aload_n 0, 0, [], 0, 0, (1, 9), false, []),
  (30, .iload_n 2, 0, [], 0, 0, (1, 9), false, []),
  (31, .ifCond .eq 7, 1, [20], 0, 0, (1, 9), false, []),
  (34, .iconst 0, 0, [], 0, 0, (1, 9), false, []),
  (35, .goto 7, 1, [22], 0, 0, (1, 9), false, []),
  (38, .aload_n 1, 0, [], 0, 0, (1, 9), false, []),
  (39, .getfield 94, 2, [3, 8, 9, 0], 0, 0, (1, 9), false, []),
  (42, .putfield 61, 2, [5, 10, 12, 0], 0, 0, (1, 9), false, []),
  (45, .aload_n 0, 0, [], 0, 0, (1, 9), false, []),
  (46, .iload_n 2, 0, [], 0, 0, (1, 9), false, []),
  (47, .ifCond .eq 7, 1, [28], 0, 0, (1, 9), false, []),
  (50, .iconst (-1), 0, [], (-1), 0, (1, 9), false, []),
  (51, .goto 7, 1, [30], 0, 0, (1, 9), false, []),
  (54, .aload_n 1, 0, [], 0, 0, (1, 9), false, []),
  (55, .getfield 97, 2, [3, 7, 9, 0], 0, 0, (1, 9), false, []),
  (58, .putfield 65, 2, [5, 11, 12, 0], 0, 0, (1, 9), false, []),
  (61, .iload_n 2, 0, [], 0, 0, (1, 9), false, []),
  (62, .ifCond .ne 6, 1, [35], 0, 0, (1, 9), false, []),
  (65, .bipush (-4), 0, [], (-4), 0, (1, 9), false, []),
  (67, .ireturn, 5, [0], 0, 0, (1, 9), false, []),
  (68, .aload_n 0, 0, [], 0, 0, (1, 9), false, []),
  (69, .invokevirtual 100, 6, [0, 2, 1, 0, 0, 5], 0, 0, (1, 9), false, []),
  (72, .aload_n 0, 0, [], 0, 0, (1, 9), false, []),
  (73, .getfield 24, 2, [5, 2, 12, 2], 0, 0, (1, 9), false, []),
  (76, .aload_n 0, 0, [], 0, 0, (1, 9), false, []),
  (77, .getfield 28, 2, [5, 3, 12, 2], 0, 0, (1, 9), false, []),
  (80, .invokevirtual 103, 6, [0, 3, 2, 0, 0, 2], 0, 0, (1, 9), false, []),
  (83, .aload_n 0, 0, [], 0, 0, (1, 9), false, []),
  (84, .getfield 24, 2, [5, 2, 12, 2], 0, 0, (1, 9), false, []),
  (87, .getfield 107, 2, [2, 0, 15, 0], 0, 0, (1, 9), false, []),
  (90, .ireturn, 5, [0], 0, 0, (1, 9), false, [])]
def eX5_load : List zm_M := [mX3_init, mX3_parse, mX5_record, mX2_copyFrom]
noncomputable def vX5_load : List (zm_M × zm_S) := [(mX3_init, sX3_init), (mX3_parse, sX3_parse), (mX5_record, sX5_record), (mX2_copyFrom, sX2_copyFrom)]
noncomputable def sX5_load : zm_S := zsem vX5_load rX5_load 3
set_option maxRecDepth 100000 in
theorem aX5_load : zall RX5 mX5_load eX5_load rX5_load = true := by decide +kernel
set_option maxRecDepth 100000 in
theorem wX5_load : ∀ w ∈ zwds RX5 mX5_load eX5_load rX5_load, w ∈ gT := zwd_of [786, 787, 60, 211, 214, 788, 789, 60, 790, 822, 823, 824, 60, 825, 211, 80, 802, 221, 800, 222, 429, 431, 10, 38, 432, 213, 214, 941, 438, 439, 40, 440, 213, 96] (by decide +kernel) (by decide +kernel) (z7_no (by decide +kernel))
set_option maxRecDepth 100000 in
theorem xX5_load : ∀ w ∈ zwxs RX5 mX5_load eX5_load rX5_load, zspc w = true ∧ w ∈ lw_tbl := by decide +kernel
theorem tX5_load {sc : Nat × (Nat → Int32)} {l : Launch} (hlt : l.stackTraces = false) : MetA sc l mX5_load (sX5_load) := zmet (M := mX5_load) (own := RX5) (envM := eX5_load) hlt rfl (by decide +kernel) (by decide +kernel) rfl (fun j q hq => by
  match j, hq with
  | 0, hq => cases hq; exact tX3_init hlt
  | 1, hq => cases hq; exact tX3_parse hlt
  | 2, hq => cases hq; exact tX5_record hlt
  | 3, hq => cases hq; exact tX2_copyFrom hlt
  | n + 4, hq => cases hq) aX5_load wX5_load xX5_load rfl
def mX5_errorCode : zm_M := (yX5_errorCode, cX5_errorCode, 1, (some .int), (0, 0, 0, 0), 0, [], (0, 0))
set_option maxRecDepth 100000 in
def rX5_errorCode : List zm_R := [(0, .aload_n 0, 0, [], 0, 0, (0, 0), false, []),
  (1, .getfield 61, 2, [5, 10, 12, 0], 0, 0, (0, 0), false, []),
  (4, .ireturn, 5, [0], 0, 0, (0, 0), false, [])]
def eX5_errorCode : List zm_M := []
noncomputable def vX5_errorCode : List (zm_M × zm_S) := []
noncomputable def sX5_errorCode : zm_S := zsem vX5_errorCode rX5_errorCode 1
set_option maxRecDepth 100000 in
theorem aX5_errorCode : zall RX5 mX5_errorCode eX5_errorCode rX5_errorCode = true := by decide +kernel
set_option maxRecDepth 100000 in
theorem wX5_errorCode : ∀ w ∈ zwds RX5 mX5_errorCode eX5_errorCode rX5_errorCode, w ∈ gT := zwd_of [221] (by decide +kernel) (by decide +kernel) (z7_no (by decide +kernel))
set_option maxRecDepth 100000 in
theorem xX5_errorCode : ∀ w ∈ zwxs RX5 mX5_errorCode eX5_errorCode rX5_errorCode, zspc w = true ∧ w ∈ lw_tbl := by decide +kernel
theorem tX5_errorCode {sc : Nat × (Nat → Int32)} {l : Launch} (hlt : l.stackTraces = false) : MetA sc l mX5_errorCode (sX5_errorCode) := zmet (M := mX5_errorCode) (own := RX5) (envM := eX5_errorCode) hlt rfl (by decide +kernel) (by decide +kernel) rfl (fun j q hq => by cases hq) aX5_errorCode wX5_errorCode xX5_errorCode rfl
def mX5_property : zm_M := (yX5_property, cX5_property, 2, (some .int), (6, 0, 0, 120), 1, [], (1, 6))
set_option maxRecDepth 100000 in
def rX5_property : List zm_R := [(0, .iload_n 1, 0, [], 0, 0, (0, 0), false, []),
  (1, .tableswitch 137 0 8 #[51, 59, 67, 75, 83, 91, 99, 107, 122], 1, [44, 2, 6, 10, 14, 18, 22, 26, 30, 37], 0, 0, (0, 0), true, [1]),
  (52, .aload_n 0, 0, [], 0, 0, (0, 0), true, [1]),
  (53, .getfield 24, 2, [5, 2, 12, 2], 0, 0, (0, 0), false, []),
  (56, .getfield 107, 2, [2, 0, 15, 0], 0, 0, (0, 0), false, []),
  (59, .ireturn, 5, [0], 0, 0, (0, 0), false, []),
  (60, .aload_n 0, 0, [], 0, 0, (0, 0), true, [1]),
  (61, .getfield 24, 2, [5, 2, 12, 2], 0, 0, (0, 0), false, []),
  (64, .getfield 118, 2, [2, 4, 15, 0], 0, 0, (0, 0), false, []),
  (67, .ireturn, 5, [0], 0, 0, (0, 0), false, []),
  (68, .aload_n 0, 0, [], 0, 0, (0, 0), true, [1]),
  (69, .getfield 24, 2, [5, 2, 12, 2], 0, 0, (0, 0), false, []),
  (72, .getfield 121, 2, [2, 10, 15, 0], 0, 0, (0, 0), false, []),
  (75, .ireturn, 5, [0], 0, 0, (0, 0), false, []),
  (76, .aload_n 0, 0, [], 0, 0, (0, 0), true, [1]),
  (77, .getfield 24, 2, [5, 2, 12, 2], 0, 0, (0, 0), false, []),
  (80, .getfield 124, 2, [2, 11, 15, 0], 0, 0, (0, 0), false, []),
  (83, .ireturn, 5, [0], 0, 0, (0, 0), false, []),
  (84, .aload_n 0, 0, [], 0, 0, (0, 0), true, [1]),
  (85, .getfield 24, 2, [5, 2, 12, 2], 0, 0, (0, 0), false, []),
  (88, .getfield 127, 2, [2, 13, 15, 0], 0, 0, (0, 0), false, []),
  (91, .ireturn, 5, [0], 0, 0, (0, 0), false, []),
  (92, .aload_n 0, 0, [], 0, 0, (0, 0), true, [1]),
  (93, .getfield 24, 2, [5, 2, 12, 2], 0, 0, (0, 0), false, []),
  (96, .invokevirtual 128, 6, [0, 3, 1, 1, 0, 2], 0, 0, (0, 0), false, []),
  (99, .ireturn, 5, [0], 0, 0, (0, 0), false, []),
  (100, .aload_n 0, 0, [], 0, 0, (0, 0), true, [1]),
  (101, .getfield 24, 2, [5, 2, 12, 2], 0, 0, (0, 0), false, []),
  (104, .invokevirtual 132, 6, [0, 0, 1, 1, 0, 2], 0, 0, (0, 0), false, []),
  (107, .ireturn, 5, [0], 0, 0, (0, 0), false, []),
  (108, .aload_n 0, 0, [], 0, 0, (0, 0), true, [1]),
  (109, .getfield 24, 2, [5, 2, 12, 2], 0, 0, (0, 0), false, []),
  (112, .aload_n 0, 0, [], 0, 0, (0, 0), false, []),
  (113, .getfield 24, 2, [5, 2, 12, 2], 0, 0, (0, 0), false, []),
  (116, .invokevirtual 132, 6, [0, 0, 1, 1, 0, 2], 0, 0, (0, 0), false, []),
  (119, .invokevirtual 135, 6, [0, 2, 2, 1, 0, 2], 0, 0, (0, 0), false, []),
  (122, .ireturn, 5, [0], 0, 0, (0, 0), false, []),
  (123, .aload_n 0, 0, [], 0, 0, (0, 0), true, [1]),
  (124, .getfield 24, 2, [5, 2, 12, 2], 0, 0, (0, 0), false, []),
  (127, .aload_n 0, 0, [], 0, 0, (0, 0), false, []),
  (128, .getfield 24, 2, [5, 2, 12, 2], 0, 0, (0, 0), false, []),
  (131, .invokevirtual 132, 6, [0, 0, 1, 1, 0, 2], 0, 0, (0, 0), false, []),
  (134, .invokevirtual 139, 6, [0, 1, 2, 1, 0, 2], 0, 0, (0, 0), false, []),
  (137, .ireturn, 5, [0], 0, 0, (0, 0), false, []),
  (138, .new 81, 7, [1, 15, 81, 142, 84, 0], 0, 0, (0, 0), true, [0, 1])]
def eX5_property : List zm_M := [mX2_walkSet, mX2_coinsIn, mX2_keysIn, mX2_lastRoom]
noncomputable def vX5_property : List (zm_M × zm_S) := [(mX2_walkSet, sX2_walkSet), (mX2_coinsIn, sX2_coinsIn), (mX2_keysIn, sX2_keysIn), (mX2_lastRoom, sX2_lastRoom)]
noncomputable def sX5_property : zm_S := zsem vX5_property rX5_property 2
set_option maxRecDepth 100000 in
theorem aX5_property : zall RX5 mX5_property eX5_property rX5_property = true := by decide +kernel
set_option maxRecDepth 100000 in
theorem wX5_property : ∀ w ∈ zwds RX5 mX5_property eX5_property rX5_property, w ∈ gT := zwd_of [213, 96, 213, 107, 213, 120, 213, 122, 213, 127, 213, 252, 253, 254, 40, 255, 213, 256, 257, 258, 40, 259, 213, 213, 256, 257, 258, 40, 259, 260, 261, 262, 40, 263, 213, 213, 256, 257, 258, 40, 259, 267, 268, 269, 40, 270] (by decide +kernel) (by decide +kernel) (z7_of (L := [(138, .new 81, 7, [1, 15, 81, 142, 84, 0], 0, 0, (0, 0), true, [0, 1])]) rfl (List.forall_mem_cons.mpr ⟨zw7 (x := 1) rfl (gT_in (List.mem_of_getElem? (i := 271) (by decide +kernel)) (by decide +kernel)) (gT_in (List.mem_of_getElem? (i := 58) (by decide +kernel)) (by decide +kernel)) zw7_1, fun _ h => absurd h List.not_mem_nil⟩))
set_option maxRecDepth 100000 in
theorem xX5_property : ∀ w ∈ zwxs RX5 mX5_property eX5_property rX5_property, zspc w = true ∧ w ∈ lw_tbl := by decide +kernel
theorem tX5_property {sc : Nat × (Nat → Int32)} {l : Launch} (hlt : l.stackTraces = false) : MetA sc l mX5_property (sX5_property) := zmet (M := mX5_property) (own := RX5) (envM := eX5_property) hlt rfl (by decide +kernel) (by decide +kernel) rfl (fun j q hq => by
  match j, hq with
  | 0, hq => cases hq; exact tX2_walkSet hlt
  | 1, hq => cases hq; exact tX2_coinsIn hlt
  | 2, hq => cases hq; exact tX2_keysIn hlt
  | 3, hq => cases hq; exact tX2_lastRoom hlt
  | n + 4, hq => cases hq) aX5_property wX5_property xX5_property rfl
def mX5_needRoom : zm_M := (yX5_needRoom, cX5_needRoom, 2, none, (6, 0, 0, 120), 1, [], (1, 6))
set_option maxRecDepth 100000 in
def rX5_needRoom : List zm_R := [(0, .iload_n 1, 0, [], 0, 0, (0, 0), false, []),
  (1, .ifCond .lt 14, 1, [7], 0, 0, (0, 0), false, []),
  (4, .iload_n 1, 0, [], 0, 0, (0, 0), false, []),
  (5, .aload_n 0, 0, [], 0, 0, (0, 0), false, []),
  (6, .getfield 24, 2, [5, 2, 12, 2], 0, 0, (0, 0), false, []),
  (9, .getfield 107, 2, [2, 0, 15, 0], 0, 0, (0, 0), false, []),
  (12, .if_icmp .lt 14, 1, [8], 0, 0, (0, 0), false, []),
  (15, .new 377, 7, [2, 10, 377, 379, 381, 1], 0, 0, (0, 0), false, []),
  (26, .return_, 5, [], 0, 0, (0, 0), false, [])]
def eX5_needRoom : List zm_M := []
noncomputable def vX5_needRoom : List (zm_M × zm_S) := []
noncomputable def sX5_needRoom : zm_S := zsem vX5_needRoom rX5_needRoom 2
set_option maxRecDepth 100000 in
theorem aX5_needRoom : zall RX5 mX5_needRoom eX5_needRoom rX5_needRoom = true := by decide +kernel
set_option maxRecDepth 100000 in
theorem wX5_needRoom : ∀ w ∈ zwds RX5 mX5_needRoom eX5_needRoom rX5_needRoom, w ∈ gT := zwd_of [213, 96] (by decide +kernel) (by decide +kernel) (z7_of (L := [(15, .new 377, 7, [2, 10, 377, 379, 381, 1], 0, 0, (0, 0), false, [])]) rfl (List.forall_mem_cons.mpr ⟨zw7 (x := 2) rfl (gT_in (List.mem_of_getElem? (i := 966) (by decide +kernel)) (by decide +kernel)) (gT_in (List.mem_of_getElem? (i := 62) (by decide +kernel)) (by decide +kernel)) zw7_2, fun _ h => absurd h List.not_mem_nil⟩))
set_option maxRecDepth 100000 in
theorem xX5_needRoom : ∀ w ∈ zwxs RX5 mX5_needRoom eX5_needRoom rX5_needRoom, zspc w = true ∧ w ∈ lw_tbl := by decide +kernel
theorem tX5_needRoom {sc : Nat × (Nat → Int32)} {l : Launch} (hlt : l.stackTraces = false) : MetA sc l mX5_needRoom (sX5_needRoom) := zmet (M := mX5_needRoom) (own := RX5) (envM := eX5_needRoom) hlt rfl (by decide +kernel) (by decide +kernel) rfl (fun j q hq => by cases hq) aX5_needRoom wX5_needRoom xX5_needRoom rfl
def mX5_room : zm_M := (yX5_room, cX5_room, 3, (some .int), (7, 0, 0, 141), 2, [], (1, 6))
set_option maxRecDepth 100000 in
def rX5_room : List zm_R := [(0, .aload_n 0, 0, [], 0, 0, (0, 0), false, []),
  (1, .iload_n 1, 0, [], 0, 0, (0, 0), false, []),
  (2, .invokevirtual 144, 6, [0, 0, 2, 0, 1, 5], 0, 0, (0, 0), false, []),
  (5, .iload_n 2, 0, [], 0, 0, (0, 0), false, []),
  (6, .tableswitch 81 0 4 #[34, 44, 54, 63, 72], 1, [32, 5, 11, 17, 22, 27], 0, 0, (0, 0), true, [2]),
  (40, .aload_n 0, 0, [], 0, 0, (0, 0), true, [2]),
  (41, .getfield 24, 2, [5, 2, 12, 2], 0, 0, (0, 0), false, []),
  (44, .getfield 147, 2, [2, 2, 15, 2], 0, 0, (0, 0), false, []),
  (47, .iload_n 1, 0, [], 0, 0, (0, 0), false, []),
  (48, .iaload, 3, [0], 0, 0, (0, 0), false, []),
  (49, .ireturn, 5, [0], 0, 0, (0, 0), false, []),
  (50, .aload_n 0, 0, [], 0, 0, (0, 0), true, [2]),
  (51, .getfield 24, 2, [5, 2, 12, 2], 0, 0, (0, 0), false, []),
  (54, .getfield 150, 2, [2, 3, 15, 2], 0, 0, (0, 0), false, []),
  (57, .iload_n 1, 0, [], 0, 0, (0, 0), false, []),
  (58, .iaload, 3, [0], 0, 0, (0, 0), false, []),
  (59, .ireturn, 5, [0], 0, 0, (0, 0), false, []),
  (60, .aload_n 0, 0, [], 0, 0, (0, 0), true, [2]),
  (61, .getfield 24, 2, [5, 2, 12, 2], 0, 0, (0, 0), false, []),
  (64, .iload_n 1, 0, [], 0, 0, (0, 0), false, []),
  (65, .invokevirtual 153, 6, [0, 3, 2, 1, 0, 2], 0, 0, (0, 0), false, []),
  (68, .ireturn, 5, [0], 0, 0, (0, 0), false, []),
  (69, .aload_n 0, 0, [], 0, 0, (0, 0), true, [2]),
  (70, .getfield 24, 2, [5, 2, 12, 2], 0, 0, (0, 0), false, []),
  (73, .iload_n 1, 0, [], 0, 0, (0, 0), false, []),
  (74, .invokevirtual 156, 6, [0, 2, 2, 1, 0, 2], 0, 0, (0, 0), false, []),
  (77, .ireturn, 5, [0], 0, 0, (0, 0), false, []),
  (78, .aload_n 0, 0, [], 0, 0, (0, 0), true, [2]),
  (79, .getfield 24, 2, [5, 2, 12, 2], 0, 0, (0, 0), false, []),
  (82, .iload_n 1, 0, [], 0, 0, (0, 0), false, []),
  (83, .invokevirtual 159, 6, [0, 1, 2, 1, 0, 2], 0, 0, (0, 0), false, []),
  (86, .ireturn, 5, [0], 0, 0, (0, 0), false, []),
  (87, .new 81, 7, [1, 15, 81, 142, 84, 0], 0, 0, (0, 0), true, [0, 1, 2])]
def eX5_room : List zm_M := [mX5_needRoom, mX2_placeOf, mX2_doorsInto, mX2_doorsFrom]
noncomputable def vX5_room : List (zm_M × zm_S) := [(mX5_needRoom, sX5_needRoom), (mX2_placeOf, sX2_placeOf), (mX2_doorsInto, sX2_doorsInto), (mX2_doorsFrom, sX2_doorsFrom)]
noncomputable def sX5_room : zm_S := zsem vX5_room rX5_room 3
set_option maxRecDepth 100000 in
theorem aX5_room : zall RX5 mX5_room eX5_room rX5_room = true := by decide +kernel
set_option maxRecDepth 100000 in
theorem wX5_room : ∀ w ∈ zwds RX5 mX5_room eX5_room rX5_room, w ∈ gT := zwd_of [962, 964, 30, 38, 965, 213, 101, 213, 104, 213, 986, 987, 988, 40, 989, 213, 990, 991, 992, 40, 993, 213, 982, 983, 984, 40, 985] (by decide +kernel) (by decide +kernel) (z7_of (L := [(87, .new 81, 7, [1, 15, 81, 142, 84, 0], 0, 0, (0, 0), true, [0, 1, 2])]) rfl (List.forall_mem_cons.mpr ⟨zw7 (x := 1) rfl (gT_in (List.mem_of_getElem? (i := 271) (by decide +kernel)) (by decide +kernel)) (gT_in (List.mem_of_getElem? (i := 58) (by decide +kernel)) (by decide +kernel)) zw7_1, fun _ h => absurd h List.not_mem_nil⟩))
set_option maxRecDepth 100000 in
theorem xX5_room : ∀ w ∈ zwxs RX5 mX5_room eX5_room rX5_room, zspc w = true ∧ w ∈ lw_tbl := by decide +kernel
theorem tX5_room {sc : Nat × (Nat → Int32)} {l : Launch} (hlt : l.stackTraces = false) : MetA sc l mX5_room (sX5_room) := zmet (M := mX5_room) (own := RX5) (envM := eX5_room) hlt rfl (by decide +kernel) (by decide +kernel) rfl (fun j q hq => by
  match j, hq with
  | 0, hq => cases hq; exact tX5_needRoom hlt
  | 1, hq => cases hq; exact tX2_placeOf hlt
  | 2, hq => cases hq; exact tX2_doorsInto hlt
  | 3, hq => cases hq; exact tX2_doorsFrom hlt
  | n + 4, hq => cases hq) aX5_room wX5_room xX5_room rfl
def mX5_needDoor : zm_M := (yX5_needDoor, cX5_needDoor, 2, none, (6, 0, 0, 120), 1, [], (1, 6))
set_option maxRecDepth 100000 in
def rX5_needDoor : List zm_R := [(0, .iload_n 1, 0, [], 0, 0, (0, 0), false, []),
  (1, .ifCond .lt 14, 1, [7], 0, 0, (0, 0), false, []),
  (4, .iload_n 1, 0, [], 0, 0, (0, 0), false, []),
  (5, .aload_n 0, 0, [], 0, 0, (0, 0), false, []),
  (6, .getfield 24, 2, [5, 2, 12, 2], 0, 0, (0, 0), false, []),
  (9, .getfield 118, 2, [2, 4, 15, 0], 0, 0, (0, 0), false, []),
  (12, .if_icmp .lt 14, 1, [8], 0, 0, (0, 0), false, []),
  (15, .new 377, 7, [2, 12, 377, 384, 381, 1], 0, 0, (0, 0), false, []),
  (26, .return_, 5, [], 0, 0, (0, 0), false, [])]
def eX5_needDoor : List zm_M := []
noncomputable def vX5_needDoor : List (zm_M × zm_S) := []
noncomputable def sX5_needDoor : zm_S := zsem vX5_needDoor rX5_needDoor 2
set_option maxRecDepth 100000 in
theorem aX5_needDoor : zall RX5 mX5_needDoor eX5_needDoor rX5_needDoor = true := by decide +kernel
set_option maxRecDepth 100000 in
theorem wX5_needDoor : ∀ w ∈ zwds RX5 mX5_needDoor eX5_needDoor rX5_needDoor, w ∈ gT := zwd_of [213, 107] (by decide +kernel) (by decide +kernel) (z7_of (L := [(15, .new 377, 7, [2, 12, 377, 384, 381, 1], 0, 0, (0, 0), false, [])]) rfl (List.forall_mem_cons.mpr ⟨zw7 (x := 2) rfl (gT_in (List.mem_of_getElem? (i := 966) (by decide +kernel)) (by decide +kernel)) (gT_in (List.mem_of_getElem? (i := 62) (by decide +kernel)) (by decide +kernel)) zw7_2, fun _ h => absurd h List.not_mem_nil⟩))
set_option maxRecDepth 100000 in
theorem xX5_needDoor : ∀ w ∈ zwxs RX5 mX5_needDoor eX5_needDoor rX5_needDoor, zspc w = true ∧ w ∈ lw_tbl := by decide +kernel
theorem tX5_needDoor {sc : Nat × (Nat → Int32)} {l : Launch} (hlt : l.stackTraces = false) : MetA sc l mX5_needDoor (sX5_needDoor) := zmet (M := mX5_needDoor) (own := RX5) (envM := eX5_needDoor) hlt rfl (by decide +kernel) (by decide +kernel) rfl (fun j q hq => by cases hq) aX5_needDoor wX5_needDoor xX5_needDoor rfl
def mX5_door : zm_M := (yX5_door, cX5_door, 3, (some .int), (7, 0, 0, 141), 2, [], (1, 6))
set_option maxRecDepth 100000 in
def rX5_door : List zm_R := [(0, .aload_n 0, 0, [], 0, 0, (0, 0), false, []),
  (1, .iload_n 1, 0, [], 0, 0, (0, 0), false, []),
  (2, .invokevirtual 162, 6, [0, 0, 2, 0, 1, 5], 0, 0, (0, 0), false, []),
  (5, .iload_n 2, 0, [], 0, 0, (0, 0), false, []),
  (6, .tableswitch 123 0 5 #[38, 48, 58, 68, 78, 96], 1, [52, 5, 11, 17, 23, 29, 39], 0, 0, (0, 0), true, [2]),
  (44, .aload_n 0, 0, [], 0, 0, (0, 0), true, [2]),
  (45, .getfield 24, 2, [5, 2, 12, 2], 0, 0, (0, 0), false, []),
  (48, .getfield 165, 2, [2, 5, 15, 2], 0, 0, (0, 0), false, []),
  (51, .iload_n 1, 0, [], 0, 0, (0, 0), false, []),
  (52, .iaload, 3, [0], 0, 0, (0, 0), false, []),
  (53, .ireturn, 5, [0], 0, 0, (0, 0), false, []),
  (54, .aload_n 0, 0, [], 0, 0, (0, 0), true, [2]),
  (55, .getfield 24, 2, [5, 2, 12, 2], 0, 0, (0, 0), false, []),
  (58, .getfield 168, 2, [2, 6, 15, 2], 0, 0, (0, 0), false, []),
  (61, .iload_n 1, 0, [], 0, 0, (0, 0), false, []),
  (62, .iaload, 3, [0], 0, 0, (0, 0), false, []),
  (63, .ireturn, 5, [0], 0, 0, (0, 0), false, []),
  (64, .aload_n 0, 0, [], 0, 0, (0, 0), true, [2]),
  (65, .getfield 24, 2, [5, 2, 12, 2], 0, 0, (0, 0), false, []),
  (68, .getfield 171, 2, [2, 7, 15, 2], 0, 0, (0, 0), false, []),
  (71, .iload_n 1, 0, [], 0, 0, (0, 0), false, []),
  (72, .iaload, 3, [0], 0, 0, (0, 0), false, []),
  (73, .ireturn, 5, [0], 0, 0, (0, 0), false, []),
  (74, .aload_n 0, 0, [], 0, 0, (0, 0), true, [2]),
  (75, .getfield 24, 2, [5, 2, 12, 2], 0, 0, (0, 0), false, []),
  (78, .getfield 174, 2, [2, 8, 15, 2], 0, 0, (0, 0), false, []),
  (81, .iload_n 1, 0, [], 0, 0, (0, 0), false, []),
  (82, .iaload, 3, [0], 0, 0, (0, 0), false, []),
  (83, .ireturn, 5, [0], 0, 0, (0, 0), false, []),
  (84, .aload_n 0, 0, [], 0, 0, (0, 0), true, [2]),
  (85, .getfield 24, 2, [5, 2, 12, 2], 0, 0, (0, 0), false, []),
  (88, .getfield 177, 2, [2, 9, 15, 2], 0, 0, (0, 0), false, []),
  (91, .iload_n 1, 0, [], 0, 0, (0, 0), false, []),
  (92, .baload, 3, [3], 0, 0, (0, 0), false, []),
  (93, .ifCond .eq 7, 1, [37], 0, 0, (0, 0), false, []),
  (96, .iconst 1, 0, [], 1, 0, (0, 0), false, []),
  (97, .goto 4, 1, [38], 0, 0, (0, 0), false, []),
  (100, .iconst 0, 0, [], 0, 0, (0, 0), false, []),
  (101, .ireturn, 5, [0], 0, 0, (0, 0), false, []),
  (102, .aload_n 0, 0, [], 0, 0, (0, 0), true, [2]),
  (103, .getfield 24, 2, [5, 2, 12, 2], 0, 0, (0, 0), false, []),
  (106, .aload_n 0, 0, [], 0, 0, (0, 0), false, []),
  (107, .getfield 24, 2, [5, 2, 12, 2], 0, 0, (0, 0), false, []),
  (110, .invokevirtual 132, 6, [0, 1, 1, 1, 0, 2], 0, 0, (0, 0), false, []),
  (113, .invokevirtual 180, 6, [0, 2, 2, 1, 0, 2], 0, 0, (0, 0), false, []),
  (116, .iload_n 1, 0, [], 0, 0, (0, 0), false, []),
  (117, .invokestatic 183, 6, [1, 3, 2, 1, 0, 5], 0, 0, (0, 0), false, []),
  (120, .ifCond .eq 7, 1, [50], 0, 0, (0, 0), false, []),
  (123, .iconst 1, 0, [], 1, 0, (0, 0), false, []),
  (124, .goto 4, 1, [51], 0, 0, (0, 0), false, []),
  (127, .iconst 0, 0, [], 0, 0, (0, 0), false, []),
  (128, .ireturn, 5, [0], 0, 0, (0, 0), false, []),
  (129, .new 81, 7, [1, 15, 81, 142, 84, 0], 0, 0, (0, 0), true, [0, 1, 2])]
def eX5_door : List zm_M := [mX5_needDoor, mX2_walkSet, mX2_openDoors, mX5_has]
noncomputable def vX5_door : List (zm_M × zm_S) := [(mX5_needDoor, sX5_needDoor), (mX2_walkSet, sX2_walkSet), (mX2_openDoors, sX2_openDoors), (mX5_has, sX5_has)]
noncomputable def sX5_door : zm_S := zsem vX5_door rX5_door 3
set_option maxRecDepth 100000 in
theorem aX5_door : zall RX5 mX5_door eX5_door rX5_door = true := by decide +kernel
set_option maxRecDepth 100000 in
theorem wX5_door : ∀ w ∈ zwds RX5 mX5_door eX5_door rX5_door, w ∈ gT := zwd_of [1061, 1063, 33, 38, 1064, 213, 109, 213, 111, 213, 113, 213, 115, 213, 118, 213, 213, 256, 257, 258, 40, 259, 994, 995, 996, 40, 997, 1046, 265, 38, 266] (by decide +kernel) (by decide +kernel) (z7_of (L := [(129, .new 81, 7, [1, 15, 81, 142, 84, 0], 0, 0, (0, 0), true, [0, 1, 2])]) rfl (List.forall_mem_cons.mpr ⟨zw7 (x := 1) rfl (gT_in (List.mem_of_getElem? (i := 271) (by decide +kernel)) (by decide +kernel)) (gT_in (List.mem_of_getElem? (i := 58) (by decide +kernel)) (by decide +kernel)) zw7_1, fun _ h => absurd h List.not_mem_nil⟩))
set_option maxRecDepth 100000 in
theorem xX5_door : ∀ w ∈ zwxs RX5 mX5_door eX5_door rX5_door, zspc w = true ∧ w ∈ lw_tbl := by decide +kernel
theorem tX5_door {sc : Nat × (Nat → Int32)} {l : Launch} (hlt : l.stackTraces = false) : MetA sc l mX5_door (sX5_door) := zmet (M := mX5_door) (own := RX5) (envM := eX5_door) hlt rfl (by decide +kernel) (by decide +kernel) rfl (fun j q hq => by
  match j, hq with
  | 0, hq => cases hq; exact tX5_needDoor hlt
  | 1, hq => cases hq; exact tX2_walkSet hlt
  | 2, hq => cases hq; exact tX2_openDoors hlt
  | 3, hq => cases hq; exact tX5_has hlt
  | n + 4, hq => cases hq) aX5_door wX5_door xX5_door rfl
def mX5_walked : zm_M := (yX5_walked, cX5_walked, 2, (some .int), (6, 0, 0, 120), 1, [], (1, 6))
set_option maxRecDepth 100000 in
def rX5_walked : List zm_R := [(0, .iload_n 1, 0, [], 0, 0, (0, 0), false, []),
  (1, .ifCond .lt 14, 1, [7], 0, 0, (0, 0), false, []),
  (4, .iload_n 1, 0, [], 0, 0, (0, 0), false, []),
  (5, .aload_n 0, 0, [], 0, 0, (0, 0), false, []),
  (6, .getfield 24, 2, [5, 2, 12, 2], 0, 0, (0, 0), false, []),
  (9, .getfield 127, 2, [2, 13, 15, 0], 0, 0, (0, 0), false, []),
  (12, .if_icmp .lt 13, 1, [8], 0, 0, (0, 0), false, []),
  (15, .new 187, 7, [3, 16, 187, 189, 191, 0], 0, 0, (0, 0), false, []),
  (25, .aload_n 0, 0, [], 0, 0, (0, 0), false, []),
  (26, .getfield 24, 2, [5, 2, 12, 2], 0, 0, (0, 0), false, []),
  (29, .getfield 192, 2, [2, 12, 15, 2], 0, 0, (0, 0), false, []),
  (32, .iload_n 1, 0, [], 0, 0, (0, 0), false, []),
  (33, .iaload, 3, [0], 0, 0, (0, 0), false, []),
  (34, .ireturn, 5, [0], 0, 0, (0, 0), false, [])]
def eX5_walked : List zm_M := []
noncomputable def vX5_walked : List (zm_M × zm_S) := []
noncomputable def sX5_walked : zm_S := zsem vX5_walked rX5_walked 2
set_option maxRecDepth 100000 in
theorem aX5_walked : zall RX5 mX5_walked eX5_walked rX5_walked = true := by decide +kernel
set_option maxRecDepth 100000 in
theorem wX5_walked : ∀ w ∈ zwds RX5 mX5_walked eX5_walked rX5_walked, w ∈ gT := zwd_of [213, 127, 213, 125] (by decide +kernel) (by decide +kernel) (z7_of (L := [(15, .new 187, 7, [3, 16, 187, 189, 191, 0], 0, 0, (0, 0), false, [])]) rfl (List.forall_mem_cons.mpr ⟨zw7 (x := 3) rfl (gT_in (List.mem_of_getElem? (i := 1109) (by decide +kernel)) (by decide +kernel)) (gT_in (List.mem_of_getElem? (i := 61) (by decide +kernel)) (by decide +kernel)) zw7_3, fun _ h => absurd h List.not_mem_nil⟩))
set_option maxRecDepth 100000 in
theorem xX5_walked : ∀ w ∈ zwxs RX5 mX5_walked eX5_walked rX5_walked, zspc w = true ∧ w ∈ lw_tbl := by decide +kernel
theorem tX5_walked {sc : Nat × (Nat → Int32)} {l : Launch} (hlt : l.stackTraces = false) : MetA sc l mX5_walked (sX5_walked) := zmet (M := mX5_walked) (own := RX5) (envM := eX5_walked) hlt rfl (by decide +kernel) (by decide +kernel) rfl (fun j q hq => by cases hq) aX5_walked wX5_walked xX5_walked rfl
def mX5_why : zm_M := (yX5_why, cX5_why, 3, (some .int), (7, 0, 0, 141), 1, [], (1, 6))
set_option maxRecDepth 100000 in
def rX5_why : List zm_R := [(0, .aload_n 0, 0, [], 0, 0, (0, 0), false, []),
  (1, .iload_n 1, 0, [], 0, 0, (0, 0), false, []),
  (2, .invokevirtual 144, 6, [0, 0, 2, 0, 1, 5], 0, 0, (0, 0), false, []),
  (5, .aload_n 0, 0, [], 0, 0, (0, 0), false, []),
  (6, .getfield 24, 2, [5, 2, 12, 2], 0, 0, (0, 0), false, []),
  (9, .iload_n 1, 0, [], 0, 0, (0, 0), false, []),
  (10, .invokevirtual 159, 6, [0, 1, 2, 1, 0, 2], 0, 0, (0, 0), false, []),
  (13, .iconst (-1), 0, [], (-1), 0, (0, 0), false, []),
  (14, .if_icmp .eq 5, 1, [11], 0, 0, (0, 0), false, []),
  (17, .iconst 1, 0, [], 1, 0, (0, 0), false, []),
  (18, .ireturn, 5, [0], 0, 0, (0, 0), false, []),
  (19, .aload_n 0, 0, [], 0, 0, (0, 0), false, []),
  (20, .getfield 24, 2, [5, 2, 12, 2], 0, 0, (0, 0), false, []),
  (23, .aload_n 0, 0, [], 0, 0, (0, 0), false, []),
  (24, .getfield 24, 2, [5, 2, 12, 2], 0, 0, (0, 0), false, []),
  (27, .invokevirtual 128, 6, [0, 2, 1, 1, 0, 2], 0, 0, (0, 0), false, []),
  (30, .invokevirtual 153, 6, [0, 3, 2, 1, 0, 2], 0, 0, (0, 0), false, []),
  (33, .aload_n 0, 0, [], 0, 0, (0, 0), false, []),
  (34, .getfield 24, 2, [5, 2, 12, 2], 0, 0, (0, 0), false, []),
  (37, .iload_n 1, 0, [], 0, 0, (0, 0), false, []),
  (38, .invokevirtual 156, 6, [0, 4, 2, 1, 0, 2], 0, 0, (0, 0), false, []),
  (41, .iand, 0, [], 0, 0, (0, 0), false, []),
  (42, .istore_n 2, 0, [], 0, 0, (0, 0), false, []),
  (43, .iload_n 2, 0, [], 0, 0, (0, 0), false, []),
  (44, .ifCond .ne 5, 1, [27], 0, 0, (0, 0), false, []),
  (47, .iconst 2, 0, [], 2, 0, (0, 0), false, []),
  (48, .ireturn, 5, [0], 0, 0, (0, 0), false, []),
  (49, .iload_n 2, 0, [], 0, 0, (0, 0), false, []),
  (50, .aload_n 0, 0, [], 0, 0, (0, 0), false, []),
  (51, .getfield 24, 2, [5, 2, 12, 2], 0, 0, (0, 0), false, []),
  (54, .aload_n 0, 0, [], 0, 0, (0, 0), false, []),
  (55, .getfield 24, 2, [5, 2, 12, 2], 0, 0, (0, 0), false, []),
  (58, .invokevirtual 132, 6, [0, 5, 1, 1, 0, 2], 0, 0, (0, 0), false, []),
  (61, .invokevirtual 180, 6, [0, 6, 2, 1, 0, 2], 0, 0, (0, 0), false, []),
  (64, .iand, 0, [], 0, 0, (0, 0), false, []),
  (65, .ifCond .eq 5, 1, [38], 0, 0, (0, 0), false, []),
  (68, .iconst 0, 0, [], 0, 0, (0, 0), false, []),
  (69, .ireturn, 5, [0], 0, 0, (0, 0), false, []),
  (70, .aload_n 0, 0, [], 0, 0, (0, 0), false, []),
  (71, .getfield 24, 2, [5, 2, 12, 2], 0, 0, (0, 0), false, []),
  (74, .iload_n 2, 0, [], 0, 0, (0, 0), false, []),
  (75, .invokevirtual 198, 6, [0, 7, 2, 1, 0, 2], 0, 0, (0, 0), false, []),
  (78, .ifCond .eq 7, 1, [45], 0, 0, (0, 0), false, []),
  (81, .iconst 4, 0, [], 4, 0, (0, 0), false, []),
  (82, .goto 4, 1, [46], 0, 0, (0, 0), false, []),
  (85, .iconst 3, 0, [], 3, 0, (0, 0), false, []),
  (86, .ireturn, 5, [0], 0, 0, (0, 0), false, [])]
def eX5_why : List zm_M := [mX5_needRoom, mX2_placeOf, mX2_lastRoom, mX2_doorsFrom, mX2_doorsInto, mX2_walkSet, mX2_openDoors, mX2_anyToll]
noncomputable def vX5_why : List (zm_M × zm_S) := [(mX5_needRoom, sX5_needRoom), (mX2_placeOf, sX2_placeOf), (mX2_lastRoom, sX2_lastRoom), (mX2_doorsFrom, sX2_doorsFrom), (mX2_doorsInto, sX2_doorsInto), (mX2_walkSet, sX2_walkSet), (mX2_openDoors, sX2_openDoors), (mX2_anyToll, sX2_anyToll)]
noncomputable def sX5_why : zm_S := zsem vX5_why rX5_why 3
set_option maxRecDepth 100000 in
theorem aX5_why : zall RX5 mX5_why eX5_why rX5_why = true := by decide +kernel
set_option maxRecDepth 100000 in
theorem wX5_why : ∀ w ∈ zwds RX5 mX5_why eX5_why rX5_why, w ∈ gT := zwd_of [962, 964, 30, 38, 965, 213, 982, 983, 984, 40, 985, 213, 213, 252, 253, 254, 40, 255, 986, 987, 988, 40, 989, 213, 990, 991, 992, 40, 993, 213, 213, 256, 257, 258, 40, 259, 994, 995, 996, 40, 997, 213, 998, 999, 1000, 40, 1001] (by decide +kernel) (by decide +kernel) (z7_no (by decide +kernel))
set_option maxRecDepth 100000 in
theorem xX5_why : ∀ w ∈ zwxs RX5 mX5_why eX5_why rX5_why, zspc w = true ∧ w ∈ lw_tbl := by decide +kernel
theorem tX5_why {sc : Nat × (Nat → Int32)} {l : Launch} (hlt : l.stackTraces = false) : MetA sc l mX5_why (sX5_why) := zmet (M := mX5_why) (own := RX5) (envM := eX5_why) hlt rfl (by decide +kernel) (by decide +kernel) rfl (fun j q hq => by
  match j, hq with
  | 0, hq => cases hq; exact tX5_needRoom hlt
  | 1, hq => cases hq; exact tX2_placeOf hlt
  | 2, hq => cases hq; exact tX2_lastRoom hlt
  | 3, hq => cases hq; exact tX2_doorsFrom hlt
  | 4, hq => cases hq; exact tX2_doorsInto hlt
  | 5, hq => cases hq; exact tX2_walkSet hlt
  | 6, hq => cases hq; exact tX2_openDoors hlt
  | 7, hq => cases hq; exact tX2_anyToll hlt
  | n + 8, hq => cases hq) aX5_why wX5_why xX5_why rfl
def mX5_exits : zm_M := (yX5_exits, cX5_exits, 2, (some .int), (3, 0, 0, 68), 0, [], (0, 0))
set_option maxRecDepth 100000 in
def rX5_exits : List zm_R := [(0, .aload_n 0, 0, [], 0, 0, (0, 0), false, []),
  (1, .getfield 24, 2, [5, 2, 12, 2], 0, 0, (0, 0), false, []),
  (4, .invokevirtual 132, 6, [0, 0, 1, 1, 0, 2], 0, 0, (0, 0), false, []),
  (7, .istore_n 1, 0, [], 0, 0, (0, 0), false, []),
  (8, .aload_n 0, 0, [], 0, 0, (0, 0), false, []),
  (9, .getfield 24, 2, [5, 2, 12, 2], 0, 0, (0, 0), false, []),
  (12, .iload_n 1, 0, [], 0, 0, (0, 0), false, []),
  (13, .invokevirtual 202, 6, [0, 1, 2, 3, 0, 2], 0, 0, (0, 0), false, []),
  (16, .aload_n 0, 0, [], 0, 0, (0, 0), false, []),
  (17, .getfield 24, 2, [5, 2, 12, 2], 0, 0, (0, 0), false, []),
  (20, .invokevirtual 128, 6, [0, 2, 1, 1, 0, 2], 0, 0, (0, 0), false, []),
  (23, .iaload, 3, [0], 0, 0, (0, 0), false, []),
  (24, .iload_n 1, 0, [], 0, 0, (0, 0), false, []),
  (25, .iconst (-1), 0, [], (-1), 0, (0, 0), false, []),
  (26, .ixor, 0, [], 0, 0, (0, 0), false, []),
  (27, .iand, 0, [], 0, 0, (0, 0), false, []),
  (28, .ireturn, 5, [0], 0, 0, (0, 0), false, [])]
def eX5_exits : List zm_M := [mX2_walkSet, mX2_leads, mX2_lastRoom]
noncomputable def vX5_exits : List (zm_M × zm_S) := [(mX2_walkSet, sX2_walkSet), (mX2_leads, sX2_leads), (mX2_lastRoom, sX2_lastRoom)]
noncomputable def sX5_exits : zm_S := zsem vX5_exits rX5_exits 2
set_option maxRecDepth 100000 in
theorem aX5_exits : zall RX5 mX5_exits eX5_exits rX5_exits = true := by decide +kernel
set_option maxRecDepth 100000 in
theorem wX5_exits : ∀ w ∈ zwds RX5 mX5_exits eX5_exits rX5_exits, w ∈ gT := zwd_of [213, 256, 257, 258, 40, 259, 213, 1160, 368, 369, 40, 370, 213, 252, 253, 254, 40, 255] (by decide +kernel) (by decide +kernel) (z7_no (by decide +kernel))
set_option maxRecDepth 100000 in
theorem xX5_exits : ∀ w ∈ zwxs RX5 mX5_exits eX5_exits rX5_exits, zspc w = true ∧ w ∈ lw_tbl := by decide +kernel
theorem tX5_exits {sc : Nat × (Nat → Int32)} {l : Launch} (hlt : l.stackTraces = false) : MetA sc l mX5_exits (sX5_exits) := zmet (M := mX5_exits) (own := RX5) (envM := eX5_exits) hlt rfl (by decide +kernel) (by decide +kernel) rfl (fun j q hq => by
  match j, hq with
  | 0, hq => cases hq; exact tX2_walkSet hlt
  | 1, hq => cases hq; exact tX2_leads hlt
  | 2, hq => cases hq; exact tX2_lastRoom hlt
  | n + 3, hq => cases hq) aX5_exits wX5_exits xX5_exits rfl
def mX5_solved : zm_M := (yX5_solved, cX5_solved, 1, (some (.object "KeyTour$Tables")), (4, 0, 0, 96), 0, [], (0, 0))
set_option maxRecDepth 100000 in
def rX5_solved : List zm_R := [(0, .aload_n 0, 0, [], 0, 0, (0, 0), false, []),
  (1, .getfield 53, 2, [5, 8, 12, 3], 0, 0, (0, 0), false, []),
  (4, .ifCond .eq 42, 1, [22], 0, 0, (0, 0), false, []),
  (7, .aload_n 0, 0, [], 0, 0, (0, 0), false, []),
  (8, .getfield 49, 2, [5, 7, 12, 2], 0, 0, (0, 0), false, []),
  (11, .aload_n 0, 0, [], 0, 0, (0, 0), false, []),
  (12, .getfield 24, 2, [5, 2, 12, 2], 0, 0, (0, 0), false, []),
  (15, .iconst 1, 0, [], 1, 0, (0, 0), false, []),
  (16, .aload_n 0, 0, [], 0, 0, (0, 0), false, []),
  (17, .getfield 24, 2, [5, 2, 12, 2], 0, 0, (0, 0), false, []),
  (20, .getfield 121, 2, [2, 10, 15, 0], 0, 0, (0, 0), false, []),
  (23, .ishl, 0, [], 0, 0, (0, 0), false, []),
  (24, .aload_n 0, 0, [], 0, 0, (0, 0), false, []),
  (25, .getfield 24, 2, [5, 2, 12, 2], 0, 0, (0, 0), false, []),
  (28, .getfield 121, 2, [2, 10, 15, 0], 0, 0, (0, 0), false, []),
  (31, .invokevirtual 243, 6, [0, 0, 4, 0, 0, 4], 0, 0, (0, 0), false, []),
  (34, .aload_n 0, 0, [], 0, 0, (0, 0), false, []),
  (35, .getfield 49, 2, [5, 7, 12, 2], 0, 0, (0, 0), false, []),
  (38, .invokevirtual 397, 6, [0, 1, 1, 0, 0, 4], 0, 0, (0, 0), false, []),
  (41, .aload_n 0, 0, [], 0, 0, (0, 0), false, []),
  (42, .iconst 0, 0, [], 0, 0, (0, 0), false, []),
  (43, .putfield 53, 2, [5, 8, 12, 3], 0, 0, (0, 0), false, []),
  (46, .aload_n 0, 0, [], 0, 0, (0, 0), false, []),
  (47, .getfield 49, 2, [5, 7, 12, 2], 0, 0, (0, 0), false, []),
  (50, .areturn, 5, [], 0, 0, (0, 0), false, [])]
def eX5_solved : List zm_M := [mX4_spread, mX4_gather]
noncomputable def vX5_solved : List (zm_M × zm_S) := [(mX4_spread, sX4_spread), (mX4_gather, sX4_gather)]
noncomputable def sX5_solved : zm_S := zsem vX5_solved rX5_solved 1
set_option maxRecDepth 100000 in
theorem aX5_solved : zall RX5 mX5_solved eX5_solved rX5_solved = true := by decide +kernel
set_option maxRecDepth 100000 in
theorem wX5_solved : ∀ w ∈ zwds RX5 mX5_solved eX5_solved rX5_solved, w ∈ gT := zwd_of [219, 218, 213, 213, 120, 213, 120, 348, 349, 350, 42, 351, 218, 386, 387, 388, 42, 389, 219, 218] (by decide +kernel) (by decide +kernel) (z7_no (by decide +kernel))
set_option maxRecDepth 100000 in
theorem xX5_solved : ∀ w ∈ zwxs RX5 mX5_solved eX5_solved rX5_solved, zspc w = true ∧ w ∈ lw_tbl := by decide +kernel
theorem tX5_solved {sc : Nat × (Nat → Int32)} {l : Launch} (hlt : l.stackTraces = false) : MetA sc l mX5_solved (sX5_solved) := zmet (M := mX5_solved) (own := RX5) (envM := eX5_solved) hlt rfl (by decide +kernel) (by decide +kernel) rfl (fun j q hq => by
  match j, hq with
  | 0, hq => cases hq; exact tX4_spread hlt
  | 1, hq => cases hq; exact tX4_gather hlt
  | n + 2, hq => cases hq) aX5_solved wX5_solved xX5_solved rfl
def mX5_tours : zm_M := (yX5_tours, cX5_tours, 1, (some .long), (5, 0, 0, 116), 0, [], (0, 0))
set_option maxRecDepth 100000 in
def rX5_tours : List zm_R := [(0, .aload_n 0, 0, [], 0, 0, (0, 0), false, []),
  (1, .invokevirtual 206, 6, [0, 0, 1, 3, 0, 5], 0, 0, (0, 0), false, []),
  (4, .iconst 1, 0, [], 1, 0, (0, 0), false, []),
  (5, .aload_n 0, 0, [], 0, 0, (0, 0), false, []),
  (6, .getfield 24, 2, [5, 2, 12, 2], 0, 0, (0, 0), false, []),
  (9, .getfield 121, 2, [2, 10, 15, 0], 0, 0, (0, 0), false, []),
  (12, .ishl, 0, [], 0, 0, (0, 0), false, []),
  (13, .aload_n 0, 0, [], 0, 0, (0, 0), false, []),
  (14, .getfield 24, 2, [5, 2, 12, 2], 0, 0, (0, 0), false, []),
  (17, .getfield 121, 2, [2, 10, 15, 0], 0, 0, (0, 0), false, []),
  (20, .invokevirtual 210, 6, [0, 1, 3, 2, 0, 4], 0, 0, (0, 0), false, []),
  (23, .lreturn, 5, [], 0, 0, (0, 0), false, [])]
def eX5_tours : List zm_M := [mX5_solved, mX4_begun]
noncomputable def vX5_tours : List (zm_M × zm_S) := [(mX5_solved, sX5_solved), (mX4_begun, sX4_begun)]
noncomputable def sX5_tours : zm_S := zsem vX5_tours rX5_tours 1
set_option maxRecDepth 100000 in
theorem aX5_tours : zall RX5 mX5_tours eX5_tours rX5_tours = true := by decide +kernel
set_option maxRecDepth 100000 in
theorem wX5_tours : ∀ w ∈ zwds RX5 mX5_tours eX5_tours rX5_tours, w ∈ gT := zwd_of [344, 346, 5, 38, 347, 213, 120, 213, 120, 394, 395, 396, 42, 397] (by decide +kernel) (by decide +kernel) (z7_no (by decide +kernel))
set_option maxRecDepth 100000 in
theorem xX5_tours : ∀ w ∈ zwxs RX5 mX5_tours eX5_tours rX5_tours, zspc w = true ∧ w ∈ lw_tbl := by decide +kernel
theorem tX5_tours {sc : Nat × (Nat → Int32)} {l : Launch} (hlt : l.stackTraces = false) : MetA sc l mX5_tours (sX5_tours) := zmet (M := mX5_tours) (own := RX5) (envM := eX5_tours) hlt rfl (by decide +kernel) (by decide +kernel) rfl (fun j q hq => by
  match j, hq with
  | 0, hq => cases hq; exact tX5_solved hlt
  | 1, hq => cases hq; exact tX4_begun hlt
  | n + 2, hq => cases hq) aX5_tours wX5_tours xX5_tours rfl
def mX5_completions : zm_M := (yX5_completions, cX5_completions, 1, (some .long), (5, 0, 0, 116), 0, [], (0, 0))
set_option maxRecDepth 100000 in
def rX5_completions : List zm_R := [(0, .aload_n 0, 0, [], 0, 0, (0, 0), false, []),
  (1, .invokevirtual 206, 6, [0, 0, 1, 3, 0, 5], 0, 0, (0, 0), false, []),
  (4, .aload_n 0, 0, [], 0, 0, (0, 0), false, []),
  (5, .getfield 24, 2, [5, 2, 12, 2], 0, 0, (0, 0), false, []),
  (8, .invokevirtual 132, 6, [0, 1, 1, 1, 0, 2], 0, 0, (0, 0), false, []),
  (11, .aload_n 0, 0, [], 0, 0, (0, 0), false, []),
  (12, .getfield 24, 2, [5, 2, 12, 2], 0, 0, (0, 0), false, []),
  (15, .invokevirtual 128, 6, [0, 2, 1, 1, 0, 2], 0, 0, (0, 0), false, []),
  (18, .invokevirtual 210, 6, [0, 3, 3, 2, 0, 4], 0, 0, (0, 0), false, []),
  (21, .lreturn, 5, [], 0, 0, (0, 0), false, [])]
def eX5_completions : List zm_M := [mX5_solved, mX2_walkSet, mX2_lastRoom, mX4_begun]
noncomputable def vX5_completions : List (zm_M × zm_S) := [(mX5_solved, sX5_solved), (mX2_walkSet, sX2_walkSet), (mX2_lastRoom, sX2_lastRoom), (mX4_begun, sX4_begun)]
noncomputable def sX5_completions : zm_S := zsem vX5_completions rX5_completions 1
set_option maxRecDepth 100000 in
theorem aX5_completions : zall RX5 mX5_completions eX5_completions rX5_completions = true := by decide +kernel
set_option maxRecDepth 100000 in
theorem wX5_completions : ∀ w ∈ zwds RX5 mX5_completions eX5_completions rX5_completions, w ∈ gT := zwd_of [344, 346, 5, 38, 347, 213, 256, 257, 258, 40, 259, 213, 252, 253, 254, 40, 255, 394, 395, 396, 42, 397] (by decide +kernel) (by decide +kernel) (z7_no (by decide +kernel))
set_option maxRecDepth 100000 in
theorem xX5_completions : ∀ w ∈ zwxs RX5 mX5_completions eX5_completions rX5_completions, zspc w = true ∧ w ∈ lw_tbl := by decide +kernel
theorem tX5_completions {sc : Nat × (Nat → Int32)} {l : Launch} (hlt : l.stackTraces = false) : MetA sc l mX5_completions (sX5_completions) := zmet (M := mX5_completions) (own := RX5) (envM := eX5_completions) hlt rfl (by decide +kernel) (by decide +kernel) rfl (fun j q hq => by
  match j, hq with
  | 0, hq => cases hq; exact tX5_solved hlt
  | 1, hq => cases hq; exact tX2_walkSet hlt
  | 2, hq => cases hq; exact tX2_lastRoom hlt
  | 3, hq => cases hq; exact tX4_begun hlt
  | n + 4, hq => cases hq) aX5_completions wX5_completions xX5_completions rfl
def mX5_completionsBy : zm_M := (yX5_completionsBy, cX5_completionsBy, 2, (some .long), (7, 0, 0, 141), 1, [], (1, 6))
set_option maxRecDepth 100000 in
def rX5_completionsBy : List zm_R := [(0, .aload_n 0, 0, [], 0, 0, (0, 0), false, []),
  (1, .iload_n 1, 0, [], 0, 0, (0, 0), false, []),
  (2, .invokevirtual 144, 6, [0, 0, 2, 0, 1, 5], 0, 0, (0, 0), false, []),
  (5, .aload_n 0, 0, [], 0, 0, (0, 0), false, []),
  (6, .invokevirtual 214, 6, [0, 1, 1, 1, 0, 5], 0, 0, (0, 0), false, []),
  (9, .iload_n 1, 0, [], 0, 0, (0, 0), false, []),
  (10, .invokestatic 183, 6, [1, 2, 2, 1, 0, 5], 0, 0, (0, 0), false, []),
  (13, .ifCond .ne 5, 1, [10], 0, 0, (0, 0), false, []),
  (16, .lconst 0, 0, [], 0, 0, (0, 0), false, []),
  (17, .lreturn, 5, [], 0, 0, (0, 0), false, []),
  (18, .aload_n 0, 0, [], 0, 0, (0, 0), false, []),
  (19, .invokevirtual 206, 6, [0, 3, 1, 3, 0, 5], 0, 0, (0, 0), false, []),
  (22, .aload_n 0, 0, [], 0, 0, (0, 0), false, []),
  (23, .getfield 24, 2, [5, 2, 12, 2], 0, 0, (0, 0), false, []),
  (26, .invokevirtual 132, 6, [0, 4, 1, 1, 0, 2], 0, 0, (0, 0), false, []),
  (29, .iconst 1, 0, [], 1, 0, (0, 0), false, []),
  (30, .iload_n 1, 0, [], 0, 0, (0, 0), false, []),
  (31, .ishl, 0, [], 0, 0, (0, 0), false, []),
  (32, .ior, 0, [], 0, 0, (0, 0), false, []),
  (33, .iload_n 1, 0, [], 0, 0, (0, 0), false, []),
  (34, .invokevirtual 210, 6, [0, 5, 3, 2, 0, 4], 0, 0, (0, 0), false, []),
  (37, .lreturn, 5, [], 0, 0, (0, 0), false, [])]
def eX5_completionsBy : List zm_M := [mX5_needRoom, mX5_exits, mX5_has, mX5_solved, mX2_walkSet, mX4_begun]
noncomputable def vX5_completionsBy : List (zm_M × zm_S) := [(mX5_needRoom, sX5_needRoom), (mX5_exits, sX5_exits), (mX5_has, sX5_has), (mX5_solved, sX5_solved), (mX2_walkSet, sX2_walkSet), (mX4_begun, sX4_begun)]
noncomputable def sX5_completionsBy : zm_S := zsem vX5_completionsBy rX5_completionsBy 2
set_option maxRecDepth 100000 in
theorem aX5_completionsBy : zall RX5 mX5_completionsBy eX5_completionsBy rX5_completionsBy = true := by decide +kernel
set_option maxRecDepth 100000 in
theorem wX5_completionsBy : ∀ w ∈ zwds RX5 mX5_completionsBy eX5_completionsBy rX5_completionsBy, w ∈ gT := zwd_of [962, 964, 30, 38, 965, 1156, 1157, 1158, 38, 1159, 1046, 265, 38, 266, 344, 346, 5, 38, 347, 213, 256, 257, 258, 40, 259, 394, 395, 396, 42, 397] (by decide +kernel) (by decide +kernel) (z7_no (by decide +kernel))
set_option maxRecDepth 100000 in
theorem xX5_completionsBy : ∀ w ∈ zwxs RX5 mX5_completionsBy eX5_completionsBy rX5_completionsBy, zspc w = true ∧ w ∈ lw_tbl := by decide +kernel
theorem tX5_completionsBy {sc : Nat × (Nat → Int32)} {l : Launch} (hlt : l.stackTraces = false) : MetA sc l mX5_completionsBy (sX5_completionsBy) := zmet (M := mX5_completionsBy) (own := RX5) (envM := eX5_completionsBy) hlt rfl (by decide +kernel) (by decide +kernel) rfl (fun j q hq => by
  match j, hq with
  | 0, hq => cases hq; exact tX5_needRoom hlt
  | 1, hq => cases hq; exact tX5_exits hlt
  | 2, hq => cases hq; exact tX5_has hlt
  | 3, hq => cases hq; exact tX5_solved hlt
  | 4, hq => cases hq; exact tX2_walkSet hlt
  | 5, hq => cases hq; exact tX4_begun hlt
  | n + 6, hq => cases hq) aX5_completionsBy wX5_completionsBy xX5_completionsBy rfl
def mX5_good : zm_M := (yX5_good, cX5_good, 3, (some .int), (8, 0, 0, 162), 0, [], (1, 6))
set_option maxRecDepth 100000 in
def rX5_good : List zm_R := [(0, .iconst 0, 0, [], 0, 0, (0, 0), false, []),
  (1, .istore_n 1, 0, [], 0, 0, (0, 0), false, []),
  (2, .iconst 0, 0, [], 0, 0, (0, 0), false, []),
  (3, .istore_n 2, 0, [], 0, 0, (0, 0), false, []),
  (4, .iload_n 2, 0, [], 0, 0, (0, 0), true, []),
  (5, .aload_n 0, 0, [], 0, 0, (0, 0), false, []),
  (6, .getfield 24, 2, [5, 2, 12, 2], 0, 0, (0, 0), false, []),
  (9, .getfield 107, 2, [2, 0, 15, 0], 0, 0, (0, 0), false, []),
  (12, .if_icmp .ge 25, 1, [23], 0, 0, (0, 0), false, []),
  (15, .aload_n 0, 0, [], 0, 0, (0, 0), false, []),
  (16, .iload_n 2, 0, [], 0, 0, (0, 0), false, []),
  (17, .invokevirtual 217, 6, [0, 0, 2, 2, 1, 5], 0, 0, (0, 0), false, []),
  (20, .lconst 0, 0, [], 0, 0, (0, 0), false, []),
  (21, .lcmp, 0, [], 0, 0, (0, 0), false, []),
  (22, .ifCond .le 9, 1, [21], 0, 0, (0, 0), false, []),
  (25, .iload_n 1, 0, [], 0, 0, (0, 0), false, []),
  (26, .iconst 1, 0, [], 1, 0, (0, 0), false, []),
  (27, .iload_n 2, 0, [], 0, 0, (0, 0), false, []),
  (28, .ishl, 0, [], 0, 0, (0, 0), false, []),
  (29, .ior, 0, [], 0, 0, (0, 0), false, []),
  (30, .istore_n 1, 0, [], 0, 0, (0, 0), false, []),
  (31, .iinc 2 1, 0, [], 1, 0, (0, 0), false, []),
  (34, .goto (-30), 1, [4], 0, 0, (0, 0), false, []),
  (37, .iload_n 1, 0, [], 0, 0, (0, 0), false, []),
  (38, .ireturn, 5, [0], 0, 0, (0, 0), false, [])]
def eX5_good : List zm_M := [mX5_completionsBy]
noncomputable def vX5_good : List (zm_M × zm_S) := [(mX5_completionsBy, sX5_completionsBy)]
noncomputable def sX5_good : zm_S := zsem vX5_good rX5_good 3
set_option maxRecDepth 100000 in
theorem aX5_good : zall RX5 mX5_good eX5_good rX5_good = true := by decide +kernel
set_option maxRecDepth 100000 in
theorem wX5_good : ∀ w ∈ zwds RX5 mX5_good eX5_good rX5_good, w ∈ gT := zwd_of [213, 96, 1166, 1153, 1154, 38, 1155] (by decide +kernel) (by decide +kernel) (z7_no (by decide +kernel))
set_option maxRecDepth 100000 in
theorem xX5_good : ∀ w ∈ zwxs RX5 mX5_good eX5_good rX5_good, zspc w = true ∧ w ∈ lw_tbl := by decide +kernel
theorem tX5_good {sc : Nat × (Nat → Int32)} {l : Launch} (hlt : l.stackTraces = false) : MetA sc l mX5_good (sX5_good) := zmet (M := mX5_good) (own := RX5) (envM := eX5_good) hlt rfl (by decide +kernel) (by decide +kernel) rfl (fun j q hq => by
  match j, hq with
  | 0, hq => cases hq; exact tX5_completionsBy hlt
  | n + 1, hq => cases hq) aX5_good wX5_good xX5_good rfl
def mX5_wrong : zm_M := (yX5_wrong, cX5_wrong, 5, (some .int), (5, 0, 0, 116), 0, [], (0, 0))
set_option maxRecDepth 100000 in
def rX5_wrong : List zm_R := [(0, .aload_n 0, 0, [], 0, 0, (0, 0), false, []),
  (1, .invokevirtual 206, 6, [0, 0, 1, 3, 0, 5], 0, 0, (0, 0), false, []),
  (4, .astore_n 1, 0, [], 0, 0, (0, 0), false, []),
  (5, .aload_n 0, 0, [], 0, 0, (0, 0), false, []),
  (6, .getfield 24, 2, [5, 2, 12, 2], 0, 0, (0, 0), false, []),
  (9, .invokevirtual 132, 6, [0, 1, 1, 1, 0, 2], 0, 0, (0, 0), false, []),
  (12, .istore_n 2, 0, [], 0, 0, (0, 0), false, []),
  (13, .aload_n 0, 0, [], 0, 0, (0, 0), false, []),
  (14, .getfield 24, 2, [5, 2, 12, 2], 0, 0, (0, 0), false, []),
  (17, .getfield 127, 2, [2, 13, 15, 0], 0, 0, (0, 0), false, []),
  (20, .iconst 1, 0, [], 1, 0, (0, 0), false, []),
  (21, .isub, 0, [], 0, 0, (0, 0), false, []),
  (22, .istore_n 3, 0, [], 0, 0, (0, 0), false, []),
  (23, .iload_n 3, 0, [], 0, 0, (0, 0), true, [4]),
  (24, .ifCond .lt 53, 1, [46], 0, 0, (0, 0), false, []),
  (27, .aload_n 0, 0, [], 0, 0, (0, 0), false, []),
  (28, .getfield 24, 2, [5, 2, 12, 2], 0, 0, (0, 0), false, []),
  (31, .getfield 192, 2, [2, 12, 15, 2], 0, 0, (0, 0), false, []),
  (34, .iload_n 3, 0, [], 0, 0, (0, 0), false, []),
  (35, .iaload, 3, [0], 0, 0, (0, 0), false, []),
  (36, .istore 4, 0, [], 0, 0, (0, 0), false, []),
  (38, .aload_n 1, 0, [], 0, 0, (0, 0), false, []),
  (39, .iload_n 2, 0, [], 0, 0, (0, 0), false, []),
  (40, .iload 4, 0, [], 0, 0, (0, 0), false, []),
  (42, .invokevirtual 210, 6, [0, 2, 3, 2, 0, 4], 0, 0, (0, 0), false, []),
  (45, .lconst 0, 0, [], 0, 0, (0, 0), false, []),
  (46, .lcmp, 0, [], 0, 0, (0, 0), false, []),
  (47, .ifCond .le 15, 1, [36], 0, 0, (0, 0), false, []),
  (50, .aload_n 0, 0, [], 0, 0, (0, 0), false, []),
  (51, .getfield 24, 2, [5, 2, 12, 2], 0, 0, (0, 0), false, []),
  (54, .getfield 127, 2, [2, 13, 15, 0], 0, 0, (0, 0), false, []),
  (57, .iconst 1, 0, [], 1, 0, (0, 0), false, []),
  (58, .isub, 0, [], 0, 0, (0, 0), false, []),
  (59, .iload_n 3, 0, [], 0, 0, (0, 0), false, []),
  (60, .isub, 0, [], 0, 0, (0, 0), false, []),
  (61, .ireturn, 5, [0], 0, 0, (0, 0), false, []),
  (62, .iload_n 2, 0, [], 0, 0, (0, 0), false, []),
  (63, .iconst 1, 0, [], 1, 0, (0, 0), false, []),
  (64, .iload 4, 0, [], 0, 0, (0, 0), false, []),
  (66, .ishl, 0, [], 0, 0, (0, 0), false, []),
  (67, .iconst (-1), 0, [], (-1), 0, (0, 0), false, []),
  (68, .ixor, 0, [], 0, 0, (0, 0), false, []),
  (69, .iand, 0, [], 0, 0, (0, 0), false, []),
  (70, .istore_n 2, 0, [], 0, 0, (0, 0), false, []),
  (71, .iinc 3 (-1), 0, [], (-1), 0, (0, 0), false, []),
  (74, .goto (-51), 1, [13], 0, 0, (0, 0), false, []),
  (77, .iconst (-1), 0, [], (-1), 0, (0, 0), false, []),
  (78, .ireturn, 5, [0], 0, 0, (0, 0), false, [])]
def eX5_wrong : List zm_M := [mX5_solved, mX2_walkSet, mX4_begun]
noncomputable def vX5_wrong : List (zm_M × zm_S) := [(mX5_solved, sX5_solved), (mX2_walkSet, sX2_walkSet), (mX4_begun, sX4_begun)]
noncomputable def sX5_wrong : zm_S := zsem vX5_wrong rX5_wrong 5
set_option maxRecDepth 100000 in
theorem aX5_wrong : zall RX5 mX5_wrong eX5_wrong rX5_wrong = true := by decide +kernel
set_option maxRecDepth 100000 in
theorem wX5_wrong : ∀ w ∈ zwds RX5 mX5_wrong eX5_wrong rX5_wrong, w ∈ gT := zwd_of [344, 346, 5, 38, 347, 213, 256, 257, 258, 40, 259, 213, 127, 213, 125, 394, 395, 396, 42, 397, 213, 127] (by decide +kernel) (by decide +kernel) (z7_no (by decide +kernel))
set_option maxRecDepth 100000 in
theorem xX5_wrong : ∀ w ∈ zwxs RX5 mX5_wrong eX5_wrong rX5_wrong, zspc w = true ∧ w ∈ lw_tbl := by decide +kernel
theorem tX5_wrong {sc : Nat × (Nat → Int32)} {l : Launch} (hlt : l.stackTraces = false) : MetA sc l mX5_wrong (sX5_wrong) := zmet (M := mX5_wrong) (own := RX5) (envM := eX5_wrong) hlt rfl (by decide +kernel) (by decide +kernel) rfl (fun j q hq => by
  match j, hq with
  | 0, hq => cases hq; exact tX5_solved hlt
  | 1, hq => cases hq; exact tX2_walkSet hlt
  | 2, hq => cases hq; exact tX4_begun hlt
  | n + 3, hq => cases hq) aX5_wrong wX5_wrong xX5_wrong rfl
def mX5_rank : zm_M := (yX5_rank, cX5_rank, 1, (some .long), (6, 0, 0, 136), 0, [], (0, 0))
set_option maxRecDepth 100000 in
def rX5_rank : List zm_R := [(0, .aload_n 0, 0, [], 0, 0, (0, 0), false, []),
  (1, .getfield 24, 2, [5, 2, 12, 2], 0, 0, (0, 0), false, []),
  (4, .getfield 127, 2, [2, 13, 15, 0], 0, 0, (0, 0), false, []),
  (7, .aload_n 0, 0, [], 0, 0, (0, 0), false, []),
  (8, .getfield 24, 2, [5, 2, 12, 2], 0, 0, (0, 0), false, []),
  (11, .getfield 107, 2, [2, 0, 15, 0], 0, 0, (0, 0), false, []),
  (14, .if_icmp .lt 12, 1, [12], 0, 0, (0, 0), false, []),
  (17, .aload_n 0, 0, [], 0, 0, (0, 0), false, []),
  (18, .invokevirtual 231, 6, [0, 0, 1, 2, 0, 5], 0, 0, (0, 0), false, []),
  (21, .lconst 0, 0, [], 0, 0, (0, 0), false, []),
  (22, .lcmp, 0, [], 0, 0, (0, 0), false, []),
  (23, .ifCond .ne 7, 1, [14], 0, 0, (0, 0), false, []),
  (26, .ldc2_w 234, 9, [1], 0, (-1), (0, 0), false, []),
  (29, .lreturn, 5, [], 0, 0, (0, 0), false, []),
  (30, .aload_n 0, 0, [], 0, 0, (0, 0), false, []),
  (31, .invokevirtual 206, 6, [0, 1, 1, 3, 0, 5], 0, 0, (0, 0), false, []),
  (34, .aload_n 0, 0, [], 0, 0, (0, 0), false, []),
  (35, .getfield 24, 2, [5, 2, 12, 2], 0, 0, (0, 0), false, []),
  (38, .getfield 192, 2, [2, 12, 15, 2], 0, 0, (0, 0), false, []),
  (41, .aload_n 0, 0, [], 0, 0, (0, 0), false, []),
  (42, .getfield 24, 2, [5, 2, 12, 2], 0, 0, (0, 0), false, []),
  (45, .getfield 127, 2, [2, 13, 15, 0], 0, 0, (0, 0), false, []),
  (48, .invokevirtual 236, 6, [0, 2, 3, 2, 0, 4], 0, 0, (0, 0), false, []),
  (51, .lreturn, 5, [], 0, 0, (0, 0), false, [])]
def eX5_rank : List zm_M := [mX5_completions, mX5_solved, mX4_toursAhead]
noncomputable def vX5_rank : List (zm_M × zm_S) := [(mX5_completions, sX5_completions), (mX5_solved, sX5_solved), (mX4_toursAhead, sX4_toursAhead)]
noncomputable def sX5_rank : zm_S := zsem vX5_rank rX5_rank 1
set_option maxRecDepth 100000 in
theorem aX5_rank : zall RX5 mX5_rank eX5_rank rX5_rank = true := by decide +kernel
set_option maxRecDepth 100000 in
theorem wX5_rank : ∀ w ∈ zwds RX5 mX5_rank eX5_rank rX5_rank, w ∈ gT := zwd_of [213, 127, 213, 96, 402, 341, 342, 38, 343, 403, 344, 346, 5, 38, 347, 213, 125, 213, 127, 404, 405, 406, 42, 407] (by decide +kernel) (by decide +kernel) (z7_no (by decide +kernel))
set_option maxRecDepth 100000 in
theorem xX5_rank : ∀ w ∈ zwxs RX5 mX5_rank eX5_rank rX5_rank, zspc w = true ∧ w ∈ lw_tbl := by decide +kernel
theorem tX5_rank {sc : Nat × (Nat → Int32)} {l : Launch} (hlt : l.stackTraces = false) : MetA sc l mX5_rank (sX5_rank) := zmet (M := mX5_rank) (own := RX5) (envM := eX5_rank) hlt rfl (by decide +kernel) (by decide +kernel) rfl (fun j q hq => by
  match j, hq with
  | 0, hq => cases hq; exact tX5_completions hlt
  | 1, hq => cases hq; exact tX5_solved hlt
  | 2, hq => cases hq; exact tX4_toursAhead hlt
  | n + 3, hq => cases hq) aX5_rank wX5_rank xX5_rank rfl
def mX5_endings : zm_M := (yX5_endings, cX5_endings, 1, (some .int), (5, 0, 0, 116), 0, [], (0, 0))
set_option maxRecDepth 100000 in
def rX5_endings : List zm_R := [(0, .aload_n 0, 0, [], 0, 0, (0, 0), false, []),
  (1, .invokevirtual 206, 6, [0, 0, 1, 3, 0, 5], 0, 0, (0, 0), false, []),
  (4, .getfield 247, 2, [4, 6, 7, 0], 0, 0, (0, 0), false, []),
  (7, .ireturn, 5, [0], 0, 0, (0, 0), false, [])]
def eX5_endings : List zm_M := [mX5_solved]
noncomputable def vX5_endings : List (zm_M × zm_S) := [(mX5_solved, sX5_solved)]
noncomputable def sX5_endings : zm_S := zsem vX5_endings rX5_endings 1
set_option maxRecDepth 100000 in
theorem aX5_endings : zall RX5 mX5_endings eX5_endings rX5_endings = true := by decide +kernel
set_option maxRecDepth 100000 in
theorem wX5_endings : ∀ w ∈ zwds RX5 mX5_endings eX5_endings rX5_endings, w ∈ gT := zwd_of [344, 346, 5, 38, 347, 195] (by decide +kernel) (by decide +kernel) (z7_no (by decide +kernel))
set_option maxRecDepth 100000 in
theorem xX5_endings : ∀ w ∈ zwxs RX5 mX5_endings eX5_endings rX5_endings, zspc w = true ∧ w ∈ lw_tbl := by decide +kernel
theorem tX5_endings {sc : Nat × (Nat → Int32)} {l : Launch} (hlt : l.stackTraces = false) : MetA sc l mX5_endings (sX5_endings) := zmet (M := mX5_endings) (own := RX5) (envM := eX5_endings) hlt rfl (by decide +kernel) (by decide +kernel) rfl (fun j q hq => by
  match j, hq with
  | 0, hq => cases hq; exact tX5_solved hlt
  | n + 1, hq => cases hq) aX5_endings wX5_endings xX5_endings rfl
def mX5_countTours : zm_M := (yX5_countTours, cX5_countTours, 3, (some .long), (4, 0, 0, 96), 2, [], (0, 0))
set_option maxRecDepth 100000 in
def rX5_countTours : List zm_R := [(0, .aload_n 0, 0, [], 0, 0, (0, 0), false, []),
  (1, .iconst 1, 0, [], 1, 0, (0, 0), false, []),
  (2, .putfield 53, 2, [5, 8, 12, 3], 0, 0, (0, 0), false, []),
  (5, .aload_n 0, 0, [], 0, 0, (0, 0), false, []),
  (6, .getfield 49, 2, [5, 7, 12, 2], 0, 0, (0, 0), false, []),
  (9, .aload_n 1, 0, [], 0, 0, (0, 0), false, []),
  (10, .iconst 1, 0, [], 1, 0, (0, 0), false, []),
  (11, .iload_n 2, 0, [], 0, 0, (0, 0), false, []),
  (12, .ishl, 0, [], 0, 0, (0, 0), false, []),
  (13, .iload_n 2, 0, [], 0, 0, (0, 0), false, []),
  (14, .invokevirtual 243, 6, [0, 0, 4, 0, 0, 4], 0, 0, (0, 0), false, []),
  (17, .aload_n 0, 0, [], 0, 0, (0, 0), false, []),
  (18, .getfield 49, 2, [5, 7, 12, 2], 0, 0, (0, 0), false, []),
  (21, .invokevirtual 400, 6, [0, 1, 1, 2, 0, 4], 0, 0, (0, 0), false, []),
  (24, .lreturn, 5, [], 0, 0, (0, 0), false, [])]
def eX5_countTours : List zm_M := [mX4_spread, mX4_fullWalks]
noncomputable def vX5_countTours : List (zm_M × zm_S) := [(mX4_spread, sX4_spread), (mX4_fullWalks, sX4_fullWalks)]
noncomputable def sX5_countTours : zm_S := zsem vX5_countTours rX5_countTours 3
set_option maxRecDepth 100000 in
theorem aX5_countTours : zall RX5 mX5_countTours eX5_countTours rX5_countTours = true := by decide +kernel
set_option maxRecDepth 100000 in
theorem wX5_countTours : ∀ w ∈ zwds RX5 mX5_countTours eX5_countTours rX5_countTours, w ∈ gT := zwd_of [219, 218, 348, 349, 350, 42, 351, 218, 1178, 1179, 1180, 42, 1181] (by decide +kernel) (by decide +kernel) (z7_no (by decide +kernel))
set_option maxRecDepth 100000 in
theorem xX5_countTours : ∀ w ∈ zwxs RX5 mX5_countTours eX5_countTours rX5_countTours, zspc w = true ∧ w ∈ lw_tbl := by decide +kernel
theorem tX5_countTours {sc : Nat × (Nat → Int32)} {l : Launch} (hlt : l.stackTraces = false) : MetA sc l mX5_countTours (sX5_countTours) := zmet (M := mX5_countTours) (own := RX5) (envM := eX5_countTours) hlt rfl (by decide +kernel) (by decide +kernel) rfl (fun j q hq => by
  match j, hq with
  | 0, hq => cases hq; exact tX4_spread hlt
  | 1, hq => cases hq; exact tX4_fullWalks hlt
  | n + 2, hq => cases hq) aX5_countTours wX5_countTours xX5_countTours rfl
def mX5_toursFrom : zm_M := (yX5_toursFrom, cX5_toursFrom, 2, (some .long), (7, 0, 0, 141), 1, [], (1, 6))
set_option maxRecDepth 100000 in
def rX5_toursFrom : List zm_R := [(0, .aload_n 0, 0, [], 0, 0, (0, 0), false, []),
  (1, .iload_n 1, 0, [], 0, 0, (0, 0), false, []),
  (2, .invokevirtual 144, 6, [0, 0, 2, 0, 1, 5], 0, 0, (0, 0), false, []),
  (5, .aload_n 0, 0, [], 0, 0, (0, 0), false, []),
  (6, .aload_n 0, 0, [], 0, 0, (0, 0), false, []),
  (7, .getfield 24, 2, [5, 2, 12, 2], 0, 0, (0, 0), false, []),
  (10, .iload_n 1, 0, [], 0, 0, (0, 0), false, []),
  (11, .invokevirtual 253, 6, [0, 1, 3, 2, 0, 5], 0, 0, (0, 0), false, []),
  (14, .lreturn, 5, [], 0, 0, (0, 0), false, [])]
def eX5_toursFrom : List zm_M := [mX5_needRoom, mX5_countTours]
noncomputable def vX5_toursFrom : List (zm_M × zm_S) := [(mX5_needRoom, sX5_needRoom), (mX5_countTours, sX5_countTours)]
noncomputable def sX5_toursFrom : zm_S := zsem vX5_toursFrom rX5_toursFrom 2
set_option maxRecDepth 100000 in
theorem aX5_toursFrom : zall RX5 mX5_toursFrom eX5_toursFrom rX5_toursFrom = true := by decide +kernel
set_option maxRecDepth 100000 in
theorem wX5_toursFrom : ∀ w ∈ zwds RX5 mX5_toursFrom eX5_toursFrom rX5_toursFrom, w ∈ gT := zwd_of [962, 964, 30, 38, 965, 213, 1174, 1176, 35, 38, 1177] (by decide +kernel) (by decide +kernel) (z7_no (by decide +kernel))
set_option maxRecDepth 100000 in
theorem xX5_toursFrom : ∀ w ∈ zwxs RX5 mX5_toursFrom eX5_toursFrom rX5_toursFrom, zspc w = true ∧ w ∈ lw_tbl := by decide +kernel
theorem tX5_toursFrom {sc : Nat × (Nat → Int32)} {l : Launch} (hlt : l.stackTraces = false) : MetA sc l mX5_toursFrom (sX5_toursFrom) := zmet (M := mX5_toursFrom) (own := RX5) (envM := eX5_toursFrom) hlt rfl (by decide +kernel) (by decide +kernel) rfl (fun j q hq => by
  match j, hq with
  | 0, hq => cases hq; exact tX5_needRoom hlt
  | 1, hq => cases hq; exact tX5_countTours hlt
  | n + 2, hq => cases hq) aX5_toursFrom wX5_toursFrom xX5_toursFrom rfl
def mX5_starts : zm_M := (yX5_starts, cX5_starts, 3, (some .int), (8, 0, 0, 162), 0, [], (1, 6))
set_option maxRecDepth 100000 in
def rX5_starts : List zm_R := [(0, .iconst 0, 0, [], 0, 0, (0, 0), false, []),
  (1, .istore_n 1, 0, [], 0, 0, (0, 0), false, []),
  (2, .iconst 0, 0, [], 0, 0, (0, 0), false, []),
  (3, .istore_n 2, 0, [], 0, 0, (0, 0), false, []),
  (4, .iload_n 2, 0, [], 0, 0, (0, 0), true, []),
  (5, .aload_n 0, 0, [], 0, 0, (0, 0), false, []),
  (6, .getfield 24, 2, [5, 2, 12, 2], 0, 0, (0, 0), false, []),
  (9, .getfield 107, 2, [2, 0, 15, 0], 0, 0, (0, 0), false, []),
  (12, .if_icmp .ge 25, 1, [23], 0, 0, (0, 0), false, []),
  (15, .aload_n 0, 0, [], 0, 0, (0, 0), false, []),
  (16, .iload_n 2, 0, [], 0, 0, (0, 0), false, []),
  (17, .invokevirtual 250, 6, [0, 0, 2, 2, 1, 5], 0, 0, (0, 0), false, []),
  (20, .lconst 0, 0, [], 0, 0, (0, 0), false, []),
  (21, .lcmp, 0, [], 0, 0, (0, 0), false, []),
  (22, .ifCond .le 9, 1, [21], 0, 0, (0, 0), false, []),
  (25, .iload_n 1, 0, [], 0, 0, (0, 0), false, []),
  (26, .iconst 1, 0, [], 1, 0, (0, 0), false, []),
  (27, .iload_n 2, 0, [], 0, 0, (0, 0), false, []),
  (28, .ishl, 0, [], 0, 0, (0, 0), false, []),
  (29, .ior, 0, [], 0, 0, (0, 0), false, []),
  (30, .istore_n 1, 0, [], 0, 0, (0, 0), false, []),
  (31, .iinc 2 1, 0, [], 1, 0, (0, 0), false, []),
  (34, .goto (-30), 1, [4], 0, 0, (0, 0), false, []),
  (37, .iload_n 1, 0, [], 0, 0, (0, 0), false, []),
  (38, .ireturn, 5, [0], 0, 0, (0, 0), false, [])]
def eX5_starts : List zm_M := [mX5_toursFrom]
noncomputable def vX5_starts : List (zm_M × zm_S) := [(mX5_toursFrom, sX5_toursFrom)]
noncomputable def sX5_starts : zm_S := zsem vX5_starts rX5_starts 3
set_option maxRecDepth 100000 in
theorem aX5_starts : zall RX5 mX5_starts eX5_starts rX5_starts = true := by decide +kernel
set_option maxRecDepth 100000 in
theorem wX5_starts : ∀ w ∈ zwds RX5 mX5_starts eX5_starts rX5_starts, w ∈ gT := zwd_of [213, 96, 1190, 1171, 1172, 38, 1173] (by decide +kernel) (by decide +kernel) (z7_no (by decide +kernel))
set_option maxRecDepth 100000 in
theorem xX5_starts : ∀ w ∈ zwxs RX5 mX5_starts eX5_starts rX5_starts, zspc w = true ∧ w ∈ lw_tbl := by decide +kernel
theorem tX5_starts {sc : Nat × (Nat → Int32)} {l : Launch} (hlt : l.stackTraces = false) : MetA sc l mX5_starts (sX5_starts) := zmet (M := mX5_starts) (own := RX5) (envM := eX5_starts) hlt rfl (by decide +kernel) (by decide +kernel) rfl (fun j q hq => by
  match j, hq with
  | 0, hq => cases hq; exact tX5_toursFrom hlt
  | n + 1, hq => cases hq) aX5_starts wX5_starts xX5_starts rfl
def mX5_toursTo : zm_M := (yX5_toursTo, cX5_toursTo, 2, (some .long), (7, 0, 0, 141), 1, [], (1, 6))
set_option maxRecDepth 100000 in
def rX5_toursTo : List zm_R := [(0, .aload_n 0, 0, [], 0, 0, (0, 0), false, []),
  (1, .iload_n 1, 0, [], 0, 0, (0, 0), false, []),
  (2, .invokevirtual 144, 6, [0, 0, 2, 0, 1, 5], 0, 0, (0, 0), false, []),
  (5, .aload_n 0, 0, [], 0, 0, (0, 0), false, []),
  (6, .invokevirtual 206, 6, [0, 1, 1, 3, 0, 5], 0, 0, (0, 0), false, []),
  (9, .aload_n 0, 0, [], 0, 0, (0, 0), false, []),
  (10, .getfield 24, 2, [5, 2, 12, 2], 0, 0, (0, 0), false, []),
  (13, .invokevirtual 257, 6, [0, 2, 1, 1, 0, 2], 0, 0, (0, 0), false, []),
  (16, .iload_n 1, 0, [], 0, 0, (0, 0), false, []),
  (17, .invokevirtual 260, 6, [0, 3, 3, 2, 0, 4], 0, 0, (0, 0), false, []),
  (20, .lreturn, 5, [], 0, 0, (0, 0), false, [])]
def eX5_toursTo : List zm_M := [mX5_needRoom, mX5_solved, mX2_everyRoom, mX4_walksTo]
noncomputable def vX5_toursTo : List (zm_M × zm_S) := [(mX5_needRoom, sX5_needRoom), (mX5_solved, sX5_solved), (mX2_everyRoom, sX2_everyRoom), (mX4_walksTo, sX4_walksTo)]
noncomputable def sX5_toursTo : zm_S := zsem vX5_toursTo rX5_toursTo 2
set_option maxRecDepth 100000 in
theorem aX5_toursTo : zall RX5 mX5_toursTo eX5_toursTo rX5_toursTo = true := by decide +kernel
set_option maxRecDepth 100000 in
theorem wX5_toursTo : ∀ w ∈ zwds RX5 mX5_toursTo eX5_toursTo rX5_toursTo, w ∈ gT := zwd_of [962, 964, 30, 38, 965, 344, 346, 5, 38, 347, 213, 1195, 356, 357, 40, 358, 1196, 1183, 1184, 42, 1185] (by decide +kernel) (by decide +kernel) (z7_no (by decide +kernel))
set_option maxRecDepth 100000 in
theorem xX5_toursTo : ∀ w ∈ zwxs RX5 mX5_toursTo eX5_toursTo rX5_toursTo, zspc w = true ∧ w ∈ lw_tbl := by decide +kernel
theorem tX5_toursTo {sc : Nat × (Nat → Int32)} {l : Launch} (hlt : l.stackTraces = false) : MetA sc l mX5_toursTo (sX5_toursTo) := zmet (M := mX5_toursTo) (own := RX5) (envM := eX5_toursTo) hlt rfl (by decide +kernel) (by decide +kernel) rfl (fun j q hq => by
  match j, hq with
  | 0, hq => cases hq; exact tX5_needRoom hlt
  | 1, hq => cases hq; exact tX5_solved hlt
  | 2, hq => cases hq; exact tX2_everyRoom hlt
  | 3, hq => cases hq; exact tX4_walksTo hlt
  | n + 4, hq => cases hq) aX5_toursTo wX5_toursTo xX5_toursTo rfl
def mX5_needTwoRooms : zm_M := (yX5_needTwoRooms, cX5_needTwoRooms, 3, none, (7, 0, 0, 141), 2, [], (1, 6))
set_option maxRecDepth 100000 in
def rX5_needTwoRooms : List zm_R := [(0, .aload_n 0, 0, [], 0, 0, (0, 0), false, []),
  (1, .iload_n 1, 0, [], 0, 0, (0, 0), false, []),
  (2, .invokevirtual 144, 6, [0, 0, 2, 0, 1, 5], 0, 0, (0, 0), false, []),
  (5, .aload_n 0, 0, [], 0, 0, (0, 0), false, []),
  (6, .iload_n 2, 0, [], 0, 0, (0, 0), false, []),
  (7, .invokevirtual 144, 6, [0, 0, 2, 0, 1, 5], 0, 0, (0, 0), false, []),
  (10, .iload_n 1, 0, [], 0, 0, (0, 0), false, []),
  (11, .iload_n 2, 0, [], 0, 0, (0, 0), false, []),
  (12, .if_icmp .ne 14, 1, [10], 0, 0, (0, 0), false, []),
  (15, .new 81, 7, [1, 19, 81, 382, 84, 1], 0, 0, (0, 0), false, []),
  (26, .return_, 5, [], 0, 0, (0, 0), false, [])]
def eX5_needTwoRooms : List zm_M := [mX5_needRoom]
noncomputable def vX5_needTwoRooms : List (zm_M × zm_S) := [(mX5_needRoom, sX5_needRoom)]
noncomputable def sX5_needTwoRooms : zm_S := zsem vX5_needTwoRooms rX5_needTwoRooms 3
set_option maxRecDepth 100000 in
theorem aX5_needTwoRooms : zall RX5 mX5_needTwoRooms eX5_needTwoRooms rX5_needTwoRooms = true := by decide +kernel
set_option maxRecDepth 100000 in
theorem wX5_needTwoRooms : ∀ w ∈ zwds RX5 mX5_needTwoRooms eX5_needTwoRooms rX5_needTwoRooms, w ∈ gT := zwd_of [962, 964, 30, 38, 965, 962, 964, 30, 38, 965] (by decide +kernel) (by decide +kernel) (z7_of (L := [(15, .new 81, 7, [1, 19, 81, 382, 84, 1], 0, 0, (0, 0), false, [])]) rfl (List.forall_mem_cons.mpr ⟨zw7 (x := 1) rfl (gT_in (List.mem_of_getElem? (i := 271) (by decide +kernel)) (by decide +kernel)) (gT_in (List.mem_of_getElem? (i := 58) (by decide +kernel)) (by decide +kernel)) zw7_1, fun _ h => absurd h List.not_mem_nil⟩))
set_option maxRecDepth 100000 in
theorem xX5_needTwoRooms : ∀ w ∈ zwxs RX5 mX5_needTwoRooms eX5_needTwoRooms rX5_needTwoRooms, zspc w = true ∧ w ∈ lw_tbl := by decide +kernel
theorem tX5_needTwoRooms {sc : Nat × (Nat → Int32)} {l : Launch} (hlt : l.stackTraces = false) : MetA sc l mX5_needTwoRooms (sX5_needTwoRooms) := zmet (M := mX5_needTwoRooms) (own := RX5) (envM := eX5_needTwoRooms) hlt rfl (by decide +kernel) (by decide +kernel) rfl (fun j q hq => by
  match j, hq with
  | 0, hq => cases hq; exact tX5_needRoom hlt
  | n + 1, hq => cases hq) aX5_needTwoRooms wX5_needTwoRooms xX5_needTwoRooms rfl
def mX5_ahead : zm_M := (yX5_ahead, cX5_ahead, 7, (some .long), (8, 0, 0, 163), 2, [], (1, 6))
set_option maxRecDepth 100000 in
def rX5_ahead : List zm_R := [(0, .aload_n 0, 0, [], 0, 0, (0, 0), false, []),
  (1, .iload_n 1, 0, [], 0, 0, (0, 0), false, []),
  (2, .iload_n 2, 0, [], 0, 0, (0, 0), false, []),
  (3, .invokevirtual 282, 6, [0, 0, 3, 0, 1, 5], 0, 0, (0, 0), false, []),
  (6, .aload_n 0, 0, [], 0, 0, (0, 0), false, []),
  (7, .invokevirtual 206, 6, [0, 1, 1, 3, 0, 5], 0, 0, (0, 0), false, []),
  (10, .astore_n 3, 0, [], 0, 0, (0, 0), false, []),
  (11, .lconst 0, 0, [], 0, 0, (0, 0), false, []),
  (12, .lstore 4, 0, [], 0, 0, (0, 0), false, []),
  (14, .iconst 1, 0, [], 1, 0, (0, 0), false, []),
  (15, .istore 6, 0, [], 0, 0, (0, 0), false, []),
  (17, .iload 6, 0, [], 0, 0, (0, 0), true, [5]),
  (19, .aload_n 0, 0, [], 0, 0, (0, 0), false, []),
  (20, .getfield 24, 2, [5, 2, 12, 2], 0, 0, (0, 0), false, []),
  (23, .invokevirtual 257, 6, [0, 2, 1, 1, 0, 2], 0, 0, (0, 0), false, []),
  (26, .if_icmp .gt 30, 1, [29], 0, 0, (0, 0), false, []),
  (29, .iload 6, 0, [], 0, 0, (0, 0), false, []),
  (31, .iload_n 2, 0, [], 0, 0, (0, 0), false, []),
  (32, .invokestatic 183, 6, [1, 3, 2, 1, 0, 5], 0, 0, (0, 0), false, []),
  (35, .ifCond .ne 15, 1, [27], 0, 0, (0, 0), false, []),
  (38, .lload 4, 0, [], 0, 0, (0, 0), false, []),
  (40, .aload_n 3, 0, [], 0, 0, (0, 0), false, []),
  (41, .iload 6, 0, [], 0, 0, (0, 0), false, []),
  (43, .iload_n 1, 0, [], 0, 0, (0, 0), false, []),
  (44, .invokevirtual 286, 6, [0, 4, 3, 2, 0, 4], 0, 0, (0, 0), false, []),
  (47, .ladd, 0, [], 0, 0, (0, 0), false, []),
  (48, .lstore 4, 0, [], 0, 0, (0, 0), false, []),
  (50, .iinc 6 1, 0, [], 1, 0, (0, 0), false, []),
  (53, .goto (-36), 1, [11], 0, 0, (0, 0), false, []),
  (56, .lload 4, 0, [], 0, 0, (0, 0), false, []),
  (58, .lreturn, 5, [], 0, 0, (0, 0), false, [])]
def eX5_ahead : List zm_M := [mX5_needTwoRooms, mX5_solved, mX2_everyRoom, mX5_has, mX4_toursBy]
noncomputable def vX5_ahead : List (zm_M × zm_S) := [(mX5_needTwoRooms, sX5_needTwoRooms), (mX5_solved, sX5_solved), (mX2_everyRoom, sX2_everyRoom), (mX5_has, sX5_has), (mX4_toursBy, sX4_toursBy)]
noncomputable def sX5_ahead : zm_S := zsem vX5_ahead rX5_ahead 7
set_option maxRecDepth 100000 in
theorem aX5_ahead : zall RX5 mX5_ahead eX5_ahead rX5_ahead = true := by decide +kernel
set_option maxRecDepth 100000 in
theorem wX5_ahead : ∀ w ∈ zwds RX5 mX5_ahead eX5_ahead rX5_ahead, w ∈ gT := zwd_of [1078, 1080, 34, 38, 1081, 344, 346, 5, 38, 347, 213, 1195, 356, 357, 40, 358, 1046, 265, 38, 266, 1212, 1213, 1214, 42, 1215] (by decide +kernel) (by decide +kernel) (z7_no (by decide +kernel))
set_option maxRecDepth 100000 in
theorem xX5_ahead : ∀ w ∈ zwxs RX5 mX5_ahead eX5_ahead rX5_ahead, zspc w = true ∧ w ∈ lw_tbl := by decide +kernel
theorem tX5_ahead {sc : Nat × (Nat → Int32)} {l : Launch} (hlt : l.stackTraces = false) : MetA sc l mX5_ahead (sX5_ahead) := zmet (M := mX5_ahead) (own := RX5) (envM := eX5_ahead) hlt rfl (by decide +kernel) (by decide +kernel) rfl (fun j q hq => by
  match j, hq with
  | 0, hq => cases hq; exact tX5_needTwoRooms hlt
  | 1, hq => cases hq; exact tX5_solved hlt
  | 2, hq => cases hq; exact tX2_everyRoom hlt
  | 3, hq => cases hq; exact tX5_has hlt
  | 4, hq => cases hq; exact tX4_toursBy hlt
  | n + 5, hq => cases hq) aX5_ahead wX5_ahead xX5_ahead rfl
def mX5_needPlace : zm_M := (yX5_needPlace, cX5_needPlace, 2, none, (6, 0, 0, 120), 1, [], (1, 6))
set_option maxRecDepth 100000 in
def rX5_needPlace : List zm_R := [(0, .iload_n 1, 0, [], 0, 0, (0, 0), false, []),
  (1, .ifCond .lt 14, 1, [7], 0, 0, (0, 0), false, []),
  (4, .iload_n 1, 0, [], 0, 0, (0, 0), false, []),
  (5, .aload_n 0, 0, [], 0, 0, (0, 0), false, []),
  (6, .getfield 24, 2, [5, 2, 12, 2], 0, 0, (0, 0), false, []),
  (9, .getfield 107, 2, [2, 0, 15, 0], 0, 0, (0, 0), false, []),
  (12, .if_icmp .lt 14, 1, [8], 0, 0, (0, 0), false, []),
  (15, .new 81, 7, [1, 18, 81, 390, 84, 1], 0, 0, (0, 0), false, []),
  (26, .return_, 5, [], 0, 0, (0, 0), false, [])]
def eX5_needPlace : List zm_M := []
noncomputable def vX5_needPlace : List (zm_M × zm_S) := []
noncomputable def sX5_needPlace : zm_S := zsem vX5_needPlace rX5_needPlace 2
set_option maxRecDepth 100000 in
theorem aX5_needPlace : zall RX5 mX5_needPlace eX5_needPlace rX5_needPlace = true := by decide +kernel
set_option maxRecDepth 100000 in
theorem wX5_needPlace : ∀ w ∈ zwds RX5 mX5_needPlace eX5_needPlace rX5_needPlace, w ∈ gT := zwd_of [213, 96] (by decide +kernel) (by decide +kernel) (z7_of (L := [(15, .new 81, 7, [1, 18, 81, 390, 84, 1], 0, 0, (0, 0), false, [])]) rfl (List.forall_mem_cons.mpr ⟨zw7 (x := 1) rfl (gT_in (List.mem_of_getElem? (i := 271) (by decide +kernel)) (by decide +kernel)) (gT_in (List.mem_of_getElem? (i := 58) (by decide +kernel)) (by decide +kernel)) zw7_1, fun _ h => absurd h List.not_mem_nil⟩))
set_option maxRecDepth 100000 in
theorem xX5_needPlace : ∀ w ∈ zwxs RX5 mX5_needPlace eX5_needPlace rX5_needPlace, zspc w = true ∧ w ∈ lw_tbl := by decide +kernel
theorem tX5_needPlace {sc : Nat × (Nat → Int32)} {l : Launch} (hlt : l.stackTraces = false) : MetA sc l mX5_needPlace (sX5_needPlace) := zmet (M := mX5_needPlace) (own := RX5) (envM := eX5_needPlace) hlt rfl (by decide +kernel) (by decide +kernel) rfl (fun j q hq => by cases hq) aX5_needPlace wX5_needPlace xX5_needPlace rfl
def mX5_atPlace : zm_M := (yX5_atPlace, cX5_atPlace, 7, (some .long), (7, 0, 0, 141), 2, [], (1, 6))
set_option maxRecDepth 100000 in
def rX5_atPlace : List zm_R := [(0, .aload_n 0, 0, [], 0, 0, (0, 0), false, []),
  (1, .iload_n 1, 0, [], 0, 0, (0, 0), false, []),
  (2, .invokevirtual 144, 6, [0, 0, 2, 0, 1, 5], 0, 0, (0, 0), false, []),
  (5, .aload_n 0, 0, [], 0, 0, (0, 0), false, []),
  (6, .iload_n 2, 0, [], 0, 0, (0, 0), false, []),
  (7, .invokevirtual 225, 6, [0, 1, 2, 0, 1, 5], 0, 0, (0, 0), false, []),
  (10, .aload_n 0, 0, [], 0, 0, (0, 0), false, []),
  (11, .invokevirtual 206, 6, [0, 2, 1, 3, 0, 5], 0, 0, (0, 0), false, []),
  (14, .astore_n 3, 0, [], 0, 0, (0, 0), false, []),
  (15, .lconst 0, 0, [], 0, 0, (0, 0), false, []),
  (16, .lstore 4, 0, [], 0, 0, (0, 0), false, []),
  (18, .iconst 1, 0, [], 1, 0, (0, 0), false, []),
  (19, .istore 6, 0, [], 0, 0, (0, 0), false, []),
  (21, .iload 6, 0, [], 0, 0, (0, 0), true, [5]),
  (23, .aload_n 0, 0, [], 0, 0, (0, 0), false, []),
  (24, .getfield 24, 2, [5, 2, 12, 2], 0, 0, (0, 0), false, []),
  (27, .invokevirtual 257, 6, [0, 3, 1, 1, 0, 2], 0, 0, (0, 0), false, []),
  (30, .if_icmp .gt 32, 1, [33], 0, 0, (0, 0), false, []),
  (33, .iload 6, 0, [], 0, 0, (0, 0), false, []),
  (35, .invokestatic 289, 6, [1, 4, 1, 1, 0, 0], 0, 0, (0, 0), false, []),
  (38, .iload_n 2, 0, [], 0, 0, (0, 0), false, []),
  (39, .iconst 1, 0, [], 1, 0, (0, 0), false, []),
  (40, .iadd, 0, [], 0, 0, (0, 0), false, []),
  (41, .if_icmp .ne 15, 1, [31], 0, 0, (0, 0), false, []),
  (44, .lload 4, 0, [], 0, 0, (0, 0), false, []),
  (46, .aload_n 3, 0, [], 0, 0, (0, 0), false, []),
  (47, .iload 6, 0, [], 0, 0, (0, 0), false, []),
  (49, .iload_n 1, 0, [], 0, 0, (0, 0), false, []),
  (50, .invokevirtual 286, 6, [0, 5, 3, 2, 0, 4], 0, 0, (0, 0), false, []),
  (53, .ladd, 0, [], 0, 0, (0, 0), false, []),
  (54, .lstore 4, 0, [], 0, 0, (0, 0), false, []),
  (56, .iinc 6 1, 0, [], 1, 0, (0, 0), false, []),
  (59, .goto (-38), 1, [13], 0, 0, (0, 0), false, []),
  (62, .lload 4, 0, [], 0, 0, (0, 0), false, []),
  (64, .lreturn, 5, [], 0, 0, (0, 0), false, [])]
def eX5_atPlace : List zm_M := [mX5_needRoom, mX5_needPlace, mX5_solved, mX2_everyRoom, mJ6_bitCount_0f7a4, mX4_toursBy]
noncomputable def vX5_atPlace : List (zm_M × zm_S) := [(mX5_needRoom, sX5_needRoom), (mX5_needPlace, sX5_needPlace), (mX5_solved, sX5_solved), (mX2_everyRoom, sX2_everyRoom), (mJ6_bitCount_0f7a4, sJ6_bitCount_0f7a4), (mX4_toursBy, sX4_toursBy)]
noncomputable def sX5_atPlace : zm_S := zsem vX5_atPlace rX5_atPlace 7
set_option maxRecDepth 100000 in
theorem aX5_atPlace : zall RX5 mX5_atPlace eX5_atPlace rX5_atPlace = true := by decide +kernel
set_option maxRecDepth 100000 in
theorem wX5_atPlace : ∀ w ∈ zwds RX5 mX5_atPlace eX5_atPlace rX5_atPlace, w ∈ gT := zwd_of [962, 964, 30, 38, 965, 1201, 1203, 36, 38, 1204, 344, 346, 5, 38, 347, 213, 1195, 356, 357, 40, 358, 1206, 1207, 54, 1208, 1212, 1213, 1214, 42, 1215] (by decide +kernel) (by decide +kernel) (z7_no (by decide +kernel))
set_option maxRecDepth 100000 in
theorem xX5_atPlace : ∀ w ∈ zwxs RX5 mX5_atPlace eX5_atPlace rX5_atPlace, zspc w = true ∧ w ∈ lw_tbl := by decide +kernel
theorem tX5_atPlace {sc : Nat × (Nat → Int32)} {l : Launch} (hlt : l.stackTraces = false) : MetA sc l mX5_atPlace (sX5_atPlace) := zmet (M := mX5_atPlace) (own := RX5) (envM := eX5_atPlace) hlt rfl (by decide +kernel) (by decide +kernel) rfl (fun j q hq => by
  match j, hq with
  | 0, hq => cases hq; exact tX5_needRoom hlt
  | 1, hq => cases hq; exact tX5_needPlace hlt
  | 2, hq => cases hq; exact tX5_solved hlt
  | 3, hq => cases hq; exact tX2_everyRoom hlt
  | 4, hq => cases hq; exact tJ6_bitCount_0f7a4 hlt
  | 5, hq => cases hq; exact tX4_toursBy hlt
  | n + 6, hq => cases hq) aX5_atPlace wX5_atPlace xX5_atPlace rfl
def mX5_go : zm_M := (yX5_go, cX5_go, 2, (some .long), (8, 0, 0, 163), 1, [], (1, 6))
set_option maxRecDepth 100000 in
def rX5_go : List zm_R := [(0, .aload_n 0, 0, [], 0, 0, (0, 0), false, []),
  (1, .iload_n 1, 0, [], 0, 0, (0, 0), false, []),
  (2, .invokevirtual 303, 6, [0, 0, 2, 1, 1, 5], 0, 0, (0, 0), false, []),
  (5, .ifCond .eq 14, 1, [5], 0, 0, (0, 0), false, []),
  (8, .new 71, 7, [0, 20, 71, 306, 75, 1], 0, 0, (0, 0), false, []),
  (19, .aload_n 0, 0, [], 0, 0, (0, 0), false, []),
  (20, .invokevirtual 100, 6, [0, 1, 1, 0, 0, 5], 0, 0, (0, 0), false, []),
  (23, .aload_n 0, 0, [], 0, 0, (0, 0), false, []),
  (24, .getfield 24, 2, [5, 2, 12, 2], 0, 0, (0, 0), false, []),
  (27, .iload_n 1, 0, [], 0, 0, (0, 0), false, []),
  (28, .invokevirtual 308, 6, [0, 2, 2, 0, 0, 2], 0, 0, (0, 0), false, []),
  (31, .aload_n 0, 0, [], 0, 0, (0, 0), false, []),
  (32, .invokevirtual 231, 6, [0, 3, 1, 2, 0, 5], 0, 0, (0, 0), false, []),
  (35, .lreturn, 5, [], 0, 0, (0, 0), false, [])]
def eX5_go : List zm_M := [mX5_why, mX5_record, mX2_enter, mX5_completions]
noncomputable def vX5_go : List (zm_M × zm_S) := [(mX5_why, sX5_why), (mX5_record, sX5_record), (mX2_enter, sX2_enter), (mX5_completions, sX5_completions)]
noncomputable def sX5_go : zm_S := zsem vX5_go rX5_go 2
set_option maxRecDepth 100000 in
theorem aX5_go : zall RX5 mX5_go eX5_go rX5_go = true := by decide +kernel
set_option maxRecDepth 100000 in
theorem wX5_go : ∀ w ∈ zwds RX5 mX5_go eX5_go rX5_go, w ∈ gT := zwd_of [958, 959, 960, 38, 961, 429, 431, 10, 38, 432, 213, 1003, 1004, 1005, 40, 1006, 402, 341, 342, 38, 343] (by decide +kernel) (by decide +kernel) (z7_of (L := [(8, .new 71, 7, [0, 20, 71, 306, 75, 1], 0, 0, (0, 0), false, [])]) rfl (List.forall_mem_cons.mpr ⟨zw7 (x := 0) rfl (gT_in (List.mem_of_getElem? (i := 413) (by decide +kernel)) (by decide +kernel)) (gT_in (List.mem_of_getElem? (i := 59) (by decide +kernel)) (by decide +kernel)) zw7_0, fun _ h => absurd h List.not_mem_nil⟩))
set_option maxRecDepth 100000 in
theorem xX5_go : ∀ w ∈ zwxs RX5 mX5_go eX5_go rX5_go, zspc w = true ∧ w ∈ lw_tbl := by decide +kernel
theorem tX5_go {sc : Nat × (Nat → Int32)} {l : Launch} (hlt : l.stackTraces = false) : MetA sc l mX5_go (sX5_go) := zmet (M := mX5_go) (own := RX5) (envM := eX5_go) hlt rfl (by decide +kernel) (by decide +kernel) rfl (fun j q hq => by
  match j, hq with
  | 0, hq => cases hq; exact tX5_why hlt
  | 1, hq => cases hq; exact tX5_record hlt
  | 2, hq => cases hq; exact tX2_enter hlt
  | 3, hq => cases hq; exact tX5_completions hlt
  | n + 4, hq => cases hq) aX5_go wX5_go xX5_go rfl
def mX5_back : zm_M := (yX5_back, cX5_back, 2, (some .int), (6, 0, 0, 120), 1, [], (1, 6))
set_option maxRecDepth 100000 in
def rX5_back : List zm_R := [(0, .iload_n 1, 0, [], 0, 0, (0, 0), false, []),
  (1, .iconst 1, 0, [], 1, 0, (0, 0), false, []),
  (2, .if_icmp .lt 16, 1, [10], 0, 0, (0, 0), false, []),
  (5, .iload_n 1, 0, [], 0, 0, (0, 0), false, []),
  (6, .aload_n 0, 0, [], 0, 0, (0, 0), false, []),
  (7, .getfield 24, 2, [5, 2, 12, 2], 0, 0, (0, 0), false, []),
  (10, .getfield 127, 2, [2, 13, 15, 0], 0, 0, (0, 0), false, []),
  (13, .iconst 1, 0, [], 1, 0, (0, 0), false, []),
  (14, .isub, 0, [], 0, 0, (0, 0), false, []),
  (15, .if_icmp .le 14, 1, [11], 0, 0, (0, 0), false, []),
  (18, .new 81, 7, [1, 21, 81, 311, 84, 1], 0, 0, (0, 0), false, []),
  (29, .aload_n 0, 0, [], 0, 0, (0, 0), false, []),
  (30, .invokevirtual 100, 6, [0, 0, 1, 0, 0, 5], 0, 0, (0, 0), false, []),
  (33, .aload_n 0, 0, [], 0, 0, (0, 0), false, []),
  (34, .getfield 24, 2, [5, 2, 12, 2], 0, 0, (0, 0), false, []),
  (37, .dup, 0, [], 0, 0, (0, 0), false, []),
  (38, .getfield 127, 2, [2, 13, 15, 0], 0, 0, (0, 0), false, []),
  (41, .iload_n 1, 0, [], 0, 0, (0, 0), false, []),
  (42, .isub, 0, [], 0, 0, (0, 0), false, []),
  (43, .putfield 127, 2, [2, 13, 15, 0], 0, 0, (0, 0), false, []),
  (46, .aload_n 0, 0, [], 0, 0, (0, 0), false, []),
  (47, .getfield 24, 2, [5, 2, 12, 2], 0, 0, (0, 0), false, []),
  (50, .invokevirtual 128, 6, [0, 1, 1, 1, 0, 2], 0, 0, (0, 0), false, []),
  (53, .ireturn, 5, [0], 0, 0, (0, 0), false, [])]
def eX5_back : List zm_M := [mX5_record, mX2_lastRoom]
noncomputable def vX5_back : List (zm_M × zm_S) := [(mX5_record, sX5_record), (mX2_lastRoom, sX2_lastRoom)]
noncomputable def sX5_back : zm_S := zsem vX5_back rX5_back 2
set_option maxRecDepth 100000 in
theorem aX5_back : zall RX5 mX5_back eX5_back rX5_back = true := by decide +kernel
set_option maxRecDepth 100000 in
theorem wX5_back : ∀ w ∈ zwds RX5 mX5_back eX5_back rX5_back, w ∈ gT := zwd_of [213, 127, 429, 431, 10, 38, 432, 213, 127, 127, 213, 252, 253, 254, 40, 255] (by decide +kernel) (by decide +kernel) (z7_of (L := [(18, .new 81, 7, [1, 21, 81, 311, 84, 1], 0, 0, (0, 0), false, [])]) rfl (List.forall_mem_cons.mpr ⟨zw7 (x := 1) rfl (gT_in (List.mem_of_getElem? (i := 271) (by decide +kernel)) (by decide +kernel)) (gT_in (List.mem_of_getElem? (i := 58) (by decide +kernel)) (by decide +kernel)) zw7_1, fun _ h => absurd h List.not_mem_nil⟩))
set_option maxRecDepth 100000 in
theorem xX5_back : ∀ w ∈ zwxs RX5 mX5_back eX5_back rX5_back, zspc w = true ∧ w ∈ lw_tbl := by decide +kernel
theorem tX5_back {sc : Nat × (Nat → Int32)} {l : Launch} (hlt : l.stackTraces = false) : MetA sc l mX5_back (sX5_back) := zmet (M := mX5_back) (own := RX5) (envM := eX5_back) hlt rfl (by decide +kernel) (by decide +kernel) rfl (fun j q hq => by
  match j, hq with
  | 0, hq => cases hq; exact tX5_record hlt
  | 1, hq => cases hq; exact tX2_lastRoom hlt
  | n + 2, hq => cases hq) aX5_back wX5_back xX5_back rfl
def mX5_again : zm_M := (yX5_again, cX5_again, 2, (some .int), (4, 0, 0, 102), 0, [], (0, 0))
set_option maxRecDepth 100000 in
def rX5_again : List zm_R := [(0, .aload_n 0, 0, [], 0, 0, (0, 0), false, []),
  (1, .getfield 24, 2, [5, 2, 12, 2], 0, 0, (0, 0), false, []),
  (4, .getfield 127, 2, [2, 13, 15, 0], 0, 0, (0, 0), false, []),
  (7, .istore_n 1, 0, [], 0, 0, (0, 0), false, []),
  (8, .aload_n 0, 0, [], 0, 0, (0, 0), false, []),
  (9, .invokevirtual 100, 6, [0, 0, 1, 0, 0, 5], 0, 0, (0, 0), false, []),
  (12, .aload_n 0, 0, [], 0, 0, (0, 0), false, []),
  (13, .getfield 24, 2, [5, 2, 12, 2], 0, 0, (0, 0), false, []),
  (16, .iconst 1, 0, [], 1, 0, (0, 0), false, []),
  (17, .putfield 127, 2, [2, 13, 15, 0], 0, 0, (0, 0), false, []),
  (20, .iload_n 1, 0, [], 0, 0, (0, 0), false, []),
  (21, .ireturn, 5, [0], 0, 0, (0, 0), false, [])]
def eX5_again : List zm_M := [mX5_record]
noncomputable def vX5_again : List (zm_M × zm_S) := [(mX5_record, sX5_record)]
noncomputable def sX5_again : zm_S := zsem vX5_again rX5_again 2
set_option maxRecDepth 100000 in
theorem aX5_again : zall RX5 mX5_again eX5_again rX5_again = true := by decide +kernel
set_option maxRecDepth 100000 in
theorem wX5_again : ∀ w ∈ zwds RX5 mX5_again eX5_again rX5_again, w ∈ gT := zwd_of [213, 127, 429, 431, 10, 38, 432, 213, 127] (by decide +kernel) (by decide +kernel) (z7_no (by decide +kernel))
set_option maxRecDepth 100000 in
theorem xX5_again : ∀ w ∈ zwxs RX5 mX5_again eX5_again rX5_again, zspc w = true ∧ w ∈ lw_tbl := by decide +kernel
theorem tX5_again {sc : Nat × (Nat → Int32)} {l : Launch} (hlt : l.stackTraces = false) : MetA sc l mX5_again (sX5_again) := zmet (M := mX5_again) (own := RX5) (envM := eX5_again) hlt rfl (by decide +kernel) (by decide +kernel) rfl (fun j q hq => by
  match j, hq with
  | 0, hq => cases hq; exact tX5_record hlt
  | n + 1, hq => cases hq) aX5_again wX5_again xX5_again rfl
def mX5_complete : zm_M := (yX5_complete, cX5_complete, 2, (some .int), (6, 0, 0, 136), 0, [], (1, 6))
set_option maxRecDepth 100000 in
def rX5_complete : List zm_R := [(0, .aload_n 0, 0, [], 0, 0, (0, 0), false, []),
  (1, .invokevirtual 231, 6, [0, 0, 1, 2, 0, 5], 0, 0, (0, 0), false, []),
  (4, .lconst 0, 0, [], 0, 0, (0, 0), false, []),
  (5, .lcmp, 0, [], 0, 0, (0, 0), false, []),
  (6, .ifCond .ne 14, 1, [6], 0, 0, (0, 0), false, []),
  (9, .new 71, 7, [0, 22, 71, 312, 75, 1], 0, 0, (0, 0), false, []),
  (20, .aload_n 0, 0, [], 0, 0, (0, 0), false, []),
  (21, .getfield 24, 2, [5, 2, 12, 2], 0, 0, (0, 0), false, []),
  (24, .getfield 127, 2, [2, 13, 15, 0], 0, 0, (0, 0), false, []),
  (27, .istore_n 1, 0, [], 0, 0, (0, 0), false, []),
  (28, .aload_n 0, 0, [], 0, 0, (0, 0), false, []),
  (29, .invokevirtual 100, 6, [0, 1, 1, 0, 0, 5], 0, 0, (0, 0), false, []),
  (32, .aload_n 0, 0, [], 0, 0, (0, 0), false, []),
  (33, .invokevirtual 206, 6, [0, 2, 1, 3, 0, 5], 0, 0, (0, 0), false, []),
  (36, .aload_n 0, 0, [], 0, 0, (0, 0), false, []),
  (37, .getfield 24, 2, [5, 2, 12, 2], 0, 0, (0, 0), false, []),
  (40, .getfield 192, 2, [2, 12, 15, 2], 0, 0, (0, 0), false, []),
  (43, .iload_n 1, 0, [], 0, 0, (0, 0), false, []),
  (44, .lconst 0, 0, [], 0, 0, (0, 0), false, []),
  (45, .invokevirtual 314, 6, [0, 3, 4, 0, 0, 4], 0, 0, (0, 0), false, []),
  (48, .aload_n 0, 0, [], 0, 0, (0, 0), false, []),
  (49, .getfield 24, 2, [5, 2, 12, 2], 0, 0, (0, 0), false, []),
  (52, .aload_n 0, 0, [], 0, 0, (0, 0), false, []),
  (53, .getfield 24, 2, [5, 2, 12, 2], 0, 0, (0, 0), false, []),
  (56, .getfield 107, 2, [2, 0, 15, 0], 0, 0, (0, 0), false, []),
  (59, .putfield 127, 2, [2, 13, 15, 0], 0, 0, (0, 0), false, []),
  (62, .aload_n 0, 0, [], 0, 0, (0, 0), false, []),
  (63, .getfield 24, 2, [5, 2, 12, 2], 0, 0, (0, 0), false, []),
  (66, .getfield 127, 2, [2, 13, 15, 0], 0, 0, (0, 0), false, []),
  (69, .iload_n 1, 0, [], 0, 0, (0, 0), false, []),
  (70, .isub, 0, [], 0, 0, (0, 0), false, []),
  (71, .ireturn, 5, [0], 0, 0, (0, 0), false, [])]
def eX5_complete : List zm_M := [mX5_completions, mX5_record, mX5_solved, mX4_follow]
noncomputable def vX5_complete : List (zm_M × zm_S) := [(mX5_completions, sX5_completions), (mX5_record, sX5_record), (mX5_solved, sX5_solved), (mX4_follow, sX4_follow)]
noncomputable def sX5_complete : zm_S := zsem vX5_complete rX5_complete 2
set_option maxRecDepth 100000 in
theorem aX5_complete : zall RX5 mX5_complete eX5_complete rX5_complete = true := by decide +kernel
set_option maxRecDepth 100000 in
theorem wX5_complete : ∀ w ∈ zwds RX5 mX5_complete eX5_complete rX5_complete, w ∈ gT := zwd_of [402, 341, 342, 38, 343, 213, 127, 429, 431, 10, 38, 432, 344, 346, 5, 38, 347, 213, 125, 444, 445, 446, 42, 447, 213, 213, 96, 127, 213, 127] (by decide +kernel) (by decide +kernel) (z7_of (L := [(9, .new 71, 7, [0, 22, 71, 312, 75, 1], 0, 0, (0, 0), false, [])]) rfl (List.forall_mem_cons.mpr ⟨zw7 (x := 0) rfl (gT_in (List.mem_of_getElem? (i := 413) (by decide +kernel)) (by decide +kernel)) (gT_in (List.mem_of_getElem? (i := 59) (by decide +kernel)) (by decide +kernel)) zw7_0, fun _ h => absurd h List.not_mem_nil⟩))
set_option maxRecDepth 100000 in
theorem xX5_complete : ∀ w ∈ zwxs RX5 mX5_complete eX5_complete rX5_complete, zspc w = true ∧ w ∈ lw_tbl := by decide +kernel
theorem tX5_complete {sc : Nat × (Nat → Int32)} {l : Launch} (hlt : l.stackTraces = false) : MetA sc l mX5_complete (sX5_complete) := zmet (M := mX5_complete) (own := RX5) (envM := eX5_complete) hlt rfl (by decide +kernel) (by decide +kernel) rfl (fun j q hq => by
  match j, hq with
  | 0, hq => cases hq; exact tX5_completions hlt
  | 1, hq => cases hq; exact tX5_record hlt
  | 2, hq => cases hq; exact tX5_solved hlt
  | 3, hq => cases hq; exact tX4_follow hlt
  | n + 4, hq => cases hq) aX5_complete wX5_complete xX5_complete rfl
def mX5_needTour : zm_M := (yX5_needTour, cX5_needTour, 5, none, (6, 0, 0, 120), 1, [], (1, 6))
set_option maxRecDepth 100000 in
def rX5_needTour : List zm_R := [(0, .aload_n 0, 0, [], 0, 0, (0, 0), false, []),
  (1, .invokevirtual 206, 6, [0, 0, 1, 3, 0, 5], 0, 0, (0, 0), false, []),
  (4, .iconst 1, 0, [], 1, 0, (0, 0), false, []),
  (5, .aload_n 0, 0, [], 0, 0, (0, 0), false, []),
  (6, .getfield 24, 2, [5, 2, 12, 2], 0, 0, (0, 0), false, []),
  (9, .getfield 121, 2, [2, 10, 15, 0], 0, 0, (0, 0), false, []),
  (12, .ishl, 0, [], 0, 0, (0, 0), false, []),
  (13, .aload_n 0, 0, [], 0, 0, (0, 0), false, []),
  (14, .getfield 24, 2, [5, 2, 12, 2], 0, 0, (0, 0), false, []),
  (17, .getfield 121, 2, [2, 10, 15, 0], 0, 0, (0, 0), false, []),
  (20, .invokevirtual 210, 6, [0, 1, 3, 2, 0, 4], 0, 0, (0, 0), false, []),
  (23, .lstore_n 3, 0, [], 0, 0, (0, 0), false, []),
  (24, .lload_n 1, 0, [], 0, 0, (0, 0), false, []),
  (25, .lconst 0, 0, [], 0, 0, (0, 0), false, []),
  (26, .lcmp, 0, [], 0, 0, (0, 0), false, []),
  (27, .ifCond .lt 9, 1, [20], 0, 0, (0, 0), false, []),
  (30, .lload_n 1, 0, [], 0, 0, (0, 0), false, []),
  (31, .lload_n 3, 0, [], 0, 0, (0, 0), false, []),
  (32, .lcmp, 0, [], 0, 0, (0, 0), false, []),
  (33, .ifCond .lt 14, 1, [21], 0, 0, (0, 0), false, []),
  (36, .new 81, 7, [1, 17, 81, 392, 84, 1], 0, 0, (0, 0), false, []),
  (47, .return_, 5, [], 0, 0, (0, 0), false, [])]
def eX5_needTour : List zm_M := [mX5_solved, mX4_begun]
noncomputable def vX5_needTour : List (zm_M × zm_S) := [(mX5_solved, sX5_solved), (mX4_begun, sX4_begun)]
noncomputable def sX5_needTour : zm_S := zsem vX5_needTour rX5_needTour 5
set_option maxRecDepth 100000 in
theorem aX5_needTour : zall RX5 mX5_needTour eX5_needTour rX5_needTour = true := by decide +kernel
set_option maxRecDepth 100000 in
theorem wX5_needTour : ∀ w ∈ zwds RX5 mX5_needTour eX5_needTour rX5_needTour, w ∈ gT := zwd_of [344, 346, 5, 38, 347, 213, 120, 213, 120, 394, 395, 396, 42, 397] (by decide +kernel) (by decide +kernel) (z7_of (L := [(36, .new 81, 7, [1, 17, 81, 392, 84, 1], 0, 0, (0, 0), false, [])]) rfl (List.forall_mem_cons.mpr ⟨zw7 (x := 1) rfl (gT_in (List.mem_of_getElem? (i := 271) (by decide +kernel)) (by decide +kernel)) (gT_in (List.mem_of_getElem? (i := 58) (by decide +kernel)) (by decide +kernel)) zw7_1, fun _ h => absurd h List.not_mem_nil⟩))
set_option maxRecDepth 100000 in
theorem xX5_needTour : ∀ w ∈ zwxs RX5 mX5_needTour eX5_needTour rX5_needTour, zspc w = true ∧ w ∈ lw_tbl := by decide +kernel
theorem tX5_needTour {sc : Nat × (Nat → Int32)} {l : Launch} (hlt : l.stackTraces = false) : MetA sc l mX5_needTour (sX5_needTour) := zmet (M := mX5_needTour) (own := RX5) (envM := eX5_needTour) hlt rfl (by decide +kernel) (by decide +kernel) rfl (fun j q hq => by
  match j, hq with
  | 0, hq => cases hq; exact tX5_solved hlt
  | 1, hq => cases hq; exact tX4_begun hlt
  | n + 2, hq => cases hq) aX5_needTour wX5_needTour xX5_needTour rfl
def mX5_fillRow : zm_M := (yX5_fillRow, cX5_fillRow, 3, none, (5, 0, 0, 116), 1, [], (0, 0))
set_option maxRecDepth 100000 in
def rX5_fillRow : List zm_R := [(0, .aload_n 0, 0, [], 0, 0, (0, 0), false, []),
  (1, .getfield 57, 2, [5, 9, 12, 2], 0, 0, (0, 0), false, []),
  (4, .iconst 0, 0, [], 0, 0, (0, 0), false, []),
  (5, .aload_n 0, 0, [], 0, 0, (0, 0), false, []),
  (6, .getfield 24, 2, [5, 2, 12, 2], 0, 0, (0, 0), false, []),
  (9, .getfield 121, 2, [2, 10, 15, 0], 0, 0, (0, 0), false, []),
  (12, .iastore, 3, [0], 0, 0, (0, 0), false, []),
  (13, .aload_n 0, 0, [], 0, 0, (0, 0), false, []),
  (14, .invokevirtual 206, 6, [0, 0, 1, 3, 0, 5], 0, 0, (0, 0), false, []),
  (17, .aload_n 0, 0, [], 0, 0, (0, 0), false, []),
  (18, .getfield 57, 2, [5, 9, 12, 2], 0, 0, (0, 0), false, []),
  (21, .iconst 1, 0, [], 1, 0, (0, 0), false, []),
  (22, .lload_n 1, 0, [], 0, 0, (0, 0), false, []),
  (23, .invokevirtual 314, 6, [0, 1, 4, 0, 0, 4], 0, 0, (0, 0), false, []),
  (26, .return_, 5, [], 0, 0, (0, 0), false, [])]
def eX5_fillRow : List zm_M := [mX5_solved, mX4_follow]
noncomputable def vX5_fillRow : List (zm_M × zm_S) := [(mX5_solved, sX5_solved), (mX4_follow, sX4_follow)]
noncomputable def sX5_fillRow : zm_S := zsem vX5_fillRow rX5_fillRow 3
set_option maxRecDepth 100000 in
theorem aX5_fillRow : zall RX5 mX5_fillRow eX5_fillRow rX5_fillRow = true := by decide +kernel
set_option maxRecDepth 100000 in
theorem wX5_fillRow : ∀ w ∈ zwds RX5 mX5_fillRow eX5_fillRow rX5_fillRow, w ∈ gT := zwd_of [220, 213, 120, 344, 346, 5, 38, 347, 220, 444, 445, 446, 42, 447] (by decide +kernel) (by decide +kernel) (z7_no (by decide +kernel))
set_option maxRecDepth 100000 in
theorem xX5_fillRow : ∀ w ∈ zwxs RX5 mX5_fillRow eX5_fillRow rX5_fillRow, zspc w = true ∧ w ∈ lw_tbl := by decide +kernel
theorem tX5_fillRow {sc : Nat × (Nat → Int32)} {l : Launch} (hlt : l.stackTraces = false) : MetA sc l mX5_fillRow (sX5_fillRow) := zmet (M := mX5_fillRow) (own := RX5) (envM := eX5_fillRow) hlt rfl (by decide +kernel) (by decide +kernel) rfl (fun j q hq => by
  match j, hq with
  | 0, hq => cases hq; exact tX5_solved hlt
  | 1, hq => cases hq; exact tX4_follow hlt
  | n + 2, hq => cases hq) aX5_fillRow wX5_fillRow xX5_fillRow rfl
def mX5_walk : zm_M := (yX5_walk, cX5_walk, 3, (some .int), (7, 0, 0, 144), 1, [], (1, 6))
set_option maxRecDepth 100000 in
def rX5_walk : List zm_R := [(0, .aload_n 0, 0, [], 0, 0, (0, 0), false, []),
  (1, .lload_n 1, 0, [], 0, 0, (0, 0), false, []),
  (2, .invokevirtual 221, 6, [0, 0, 2, 0, 1, 5], 0, 0, (0, 0), false, []),
  (5, .aload_n 0, 0, [], 0, 0, (0, 0), false, []),
  (6, .invokevirtual 100, 6, [0, 1, 1, 0, 0, 5], 0, 0, (0, 0), false, []),
  (9, .aload_n 0, 0, [], 0, 0, (0, 0), false, []),
  (10, .lload_n 1, 0, [], 0, 0, (0, 0), false, []),
  (11, .invokevirtual 228, 6, [0, 2, 2, 0, 0, 5], 0, 0, (0, 0), false, []),
  (14, .aload_n 0, 0, [], 0, 0, (0, 0), false, []),
  (15, .getfield 57, 2, [5, 9, 12, 2], 0, 0, (0, 0), false, []),
  (18, .iconst 0, 0, [], 0, 0, (0, 0), false, []),
  (19, .aload_n 0, 0, [], 0, 0, (0, 0), false, []),
  (20, .getfield 24, 2, [5, 2, 12, 2], 0, 0, (0, 0), false, []),
  (23, .getfield 192, 2, [2, 12, 15, 2], 0, 0, (0, 0), false, []),
  (26, .iconst 0, 0, [], 0, 0, (0, 0), false, []),
  (27, .aload_n 0, 0, [], 0, 0, (0, 0), false, []),
  (28, .getfield 24, 2, [5, 2, 12, 2], 0, 0, (0, 0), false, []),
  (31, .getfield 107, 2, [2, 0, 15, 0], 0, 0, (0, 0), false, []),
  (34, .invokestatic 318, 8, [0], 0, 0, (0, 0), false, []),
  (37, .aload_n 0, 0, [], 0, 0, (0, 0), false, []),
  (38, .getfield 24, 2, [5, 2, 12, 2], 0, 0, (0, 0), false, []),
  (41, .aload_n 0, 0, [], 0, 0, (0, 0), false, []),
  (42, .getfield 24, 2, [5, 2, 12, 2], 0, 0, (0, 0), false, []),
  (45, .getfield 107, 2, [2, 0, 15, 0], 0, 0, (0, 0), false, []),
  (48, .putfield 127, 2, [2, 13, 15, 0], 0, 0, (0, 0), false, []),
  (51, .aload_n 0, 0, [], 0, 0, (0, 0), false, []),
  (52, .getfield 24, 2, [5, 2, 12, 2], 0, 0, (0, 0), false, []),
  (55, .invokevirtual 128, 6, [0, 3, 1, 1, 0, 2], 0, 0, (0, 0), false, []),
  (58, .ireturn, 5, [0], 0, 0, (0, 0), false, [])]
def eX5_walk : List zm_M := [mX5_needTour, mX5_record, mX5_fillRow, mX2_lastRoom]
noncomputable def vX5_walk : List (zm_M × zm_S) := [(mX5_needTour, sX5_needTour), (mX5_record, sX5_record), (mX5_fillRow, sX5_fillRow), (mX2_lastRoom, sX2_lastRoom)]
noncomputable def sX5_walk : zm_S := zsem vX5_walk rX5_walk 3
set_option maxRecDepth 100000 in
theorem aX5_walk : zall RX5 mX5_walk eX5_walk rX5_walk = true := by decide +kernel
set_option maxRecDepth 100000 in
theorem wX5_walk : ∀ w ∈ zwds RX5 mX5_walk eX5_walk rX5_walk, w ∈ gT := zwd_of [1028, 1030, 31, 38, 1031, 429, 431, 10, 38, 432, 1033, 1035, 32, 38, 1036, 220, 213, 125, 213, 96, 1037, 443, 442, 50, 213, 213, 96, 127, 213, 252, 253, 254, 40, 255] (by decide +kernel) (by decide +kernel) (z7_no (by decide +kernel))
set_option maxRecDepth 100000 in
theorem xX5_walk : ∀ w ∈ zwxs RX5 mX5_walk eX5_walk rX5_walk, zspc w = true ∧ w ∈ lw_tbl := by decide +kernel
theorem tX5_walk {sc : Nat × (Nat → Int32)} {l : Launch} (hlt : l.stackTraces = false) : MetA sc l mX5_walk (sX5_walk) := zmet (M := mX5_walk) (own := RX5) (envM := eX5_walk) hlt rfl (by decide +kernel) (by decide +kernel) rfl (fun j q hq => by
  match j, hq with
  | 0, hq => cases hq; exact tX5_needTour hlt
  | 1, hq => cases hq; exact tX5_record hlt
  | 2, hq => cases hq; exact tX5_fillRow hlt
  | 3, hq => cases hq; exact tX2_lastRoom hlt
  | n + 4, hq => cases hq) aX5_walk wX5_walk xX5_walk rfl
def mX5_needKey : zm_M := (yX5_needKey, cX5_needKey, 1, none, (6, 0, 0, 120), 1, [], (1, 6))
set_option maxRecDepth 100000 in
def rX5_needKey : List zm_R := [(0, .iload_n 0, 0, [], 0, 0, (0, 0), false, []),
  (1, .ifCond .lt 9, 1, [5], 0, 0, (0, 0), false, []),
  (4, .iload_n 0, 0, [], 0, 0, (0, 0), false, []),
  (5, .bipush 8, 0, [], 8, 0, (0, 0), false, []),
  (7, .if_icmp .lt 14, 1, [6], 0, 0, (0, 0), false, []),
  (10, .new 377, 7, [2, 11, 377, 386, 381, 1], 0, 0, (0, 0), false, []),
  (21, .return_, 5, [], 0, 0, (0, 0), false, [])]
def eX5_needKey : List zm_M := []
noncomputable def vX5_needKey : List (zm_M × zm_S) := []
noncomputable def sX5_needKey : zm_S := zsem vX5_needKey rX5_needKey 1
set_option maxRecDepth 100000 in
theorem aX5_needKey : zall RX5 mX5_needKey eX5_needKey rX5_needKey = true := by decide +kernel
set_option maxRecDepth 100000 in
theorem wX5_needKey : ∀ w ∈ zwds RX5 mX5_needKey eX5_needKey rX5_needKey, w ∈ gT := zwd_of [] (by decide +kernel) (by decide +kernel) (z7_of (L := [(10, .new 377, 7, [2, 11, 377, 386, 381, 1], 0, 0, (0, 0), false, [])]) rfl (List.forall_mem_cons.mpr ⟨zw7 (x := 2) rfl (gT_in (List.mem_of_getElem? (i := 966) (by decide +kernel)) (by decide +kernel)) (gT_in (List.mem_of_getElem? (i := 62) (by decide +kernel)) (by decide +kernel)) zw7_2, fun _ h => absurd h List.not_mem_nil⟩))
set_option maxRecDepth 100000 in
theorem xX5_needKey : ∀ w ∈ zwxs RX5 mX5_needKey eX5_needKey rX5_needKey, zspc w = true ∧ w ∈ lw_tbl := by decide +kernel
theorem tX5_needKey {sc : Nat × (Nat → Int32)} {l : Launch} (hlt : l.stackTraces = false) : MetA sc l mX5_needKey (sX5_needKey) := zmet (M := mX5_needKey) (own := RX5) (envM := eX5_needKey) hlt rfl (by decide +kernel) (by decide +kernel) rfl (fun j q hq => by cases hq) aX5_needKey wX5_needKey xX5_needKey rfl
def mX5_setKey : zm_M := (yX5_setKey, cX5_setKey, 5, (some .boolean), (7, 0, 0, 141), 3, [], (1, 6))
set_option maxRecDepth 100000 in
def rX5_setKey : List zm_R := [(0, .aload_n 0, 0, [], 0, 0, (0, 0), false, []),
  (1, .iload_n 1, 0, [], 0, 0, (0, 0), false, []),
  (2, .invokevirtual 144, 6, [0, 0, 2, 0, 1, 5], 0, 0, (0, 0), false, []),
  (5, .iload_n 2, 0, [], 0, 0, (0, 0), false, []),
  (6, .invokestatic 195, 6, [1, 1, 1, 0, 1, 5], 0, 0, (0, 0), false, []),
  (9, .aload_n 0, 0, [], 0, 0, (0, 0), false, []),
  (10, .getfield 24, 2, [5, 2, 12, 2], 0, 0, (0, 0), false, []),
  (13, .getfield 147, 2, [2, 2, 15, 2], 0, 0, (0, 0), false, []),
  (16, .iload_n 1, 0, [], 0, 0, (0, 0), false, []),
  (17, .iaload, 3, [0], 0, 0, (0, 0), false, []),
  (18, .iload_n 2, 0, [], 0, 0, (0, 0), false, []),
  (19, .invokestatic 183, 6, [1, 2, 2, 1, 0, 5], 0, 0, (0, 0), false, []),
  (22, .istore 4, 0, [], 0, 0, (0, 0), false, []),
  (24, .aload_n 0, 0, [], 0, 0, (0, 0), false, []),
  (25, .invokevirtual 100, 6, [0, 3, 1, 0, 0, 5], 0, 0, (0, 0), false, []),
  (28, .iload_n 3, 0, [], 0, 0, (0, 0), false, []),
  (29, .ifCond .eq 21, 1, [29], 0, 0, (0, 0), false, []),
  (32, .aload_n 0, 0, [], 0, 0, (0, 0), false, []),
  (33, .getfield 24, 2, [5, 2, 12, 2], 0, 0, (0, 0), false, []),
  (36, .getfield 147, 2, [2, 2, 15, 2], 0, 0, (0, 0), false, []),
  (39, .iload_n 1, 0, [], 0, 0, (0, 0), false, []),
  (40, .dup2, 0, [], 0, 0, (0, 0), false, []),
  (41, .iaload, 3, [0], 0, 0, (0, 0), false, []),
  (42, .iconst 1, 0, [], 1, 0, (0, 0), false, []),
  (43, .iload_n 2, 0, [], 0, 0, (0, 0), false, []),
  (44, .ishl, 0, [], 0, 0, (0, 0), false, []),
  (45, .ior, 0, [], 0, 0, (0, 0), false, []),
  (46, .iastore, 3, [0], 0, 0, (0, 0), false, []),
  (47, .goto 20, 1, [42], 0, 0, (0, 0), false, []),
  (50, .aload_n 0, 0, [], 0, 0, (0, 0), false, []),
  (51, .getfield 24, 2, [5, 2, 12, 2], 0, 0, (0, 0), false, []),
  (54, .getfield 147, 2, [2, 2, 15, 2], 0, 0, (0, 0), false, []),
  (57, .iload_n 1, 0, [], 0, 0, (0, 0), false, []),
  (58, .dup2, 0, [], 0, 0, (0, 0), false, []),
  (59, .iaload, 3, [0], 0, 0, (0, 0), false, []),
  (60, .iconst 1, 0, [], 1, 0, (0, 0), false, []),
  (61, .iload_n 2, 0, [], 0, 0, (0, 0), false, []),
  (62, .ishl, 0, [], 0, 0, (0, 0), false, []),
  (63, .iconst (-1), 0, [], (-1), 0, (0, 0), false, []),
  (64, .ixor, 0, [], 0, 0, (0, 0), false, []),
  (65, .iand, 0, [], 0, 0, (0, 0), false, []),
  (66, .iastore, 3, [0], 0, 0, (0, 0), false, []),
  (67, .aload_n 0, 0, [], 0, 0, (0, 0), false, []),
  (68, .getfield 24, 2, [5, 2, 12, 2], 0, 0, (0, 0), false, []),
  (71, .invokevirtual 324, 6, [0, 4, 1, 0, 0, 2], 0, 0, (0, 0), false, []),
  (74, .iload 4, 0, [], 0, 0, (0, 0), false, []),
  (76, .ireturn, 5, [1], 0, 0, (0, 0), false, [])]
def eX5_setKey : List zm_M := [mX5_needRoom, mX5_needKey, mX5_has, mX5_record, mX2_cutWalk]
noncomputable def vX5_setKey : List (zm_M × zm_S) := [(mX5_needRoom, sX5_needRoom), (mX5_needKey, sX5_needKey), (mX5_has, sX5_has), (mX5_record, sX5_record), (mX2_cutWalk, sX2_cutWalk)]
noncomputable def sX5_setKey : zm_S := zsem vX5_setKey rX5_setKey 5
set_option maxRecDepth 100000 in
theorem aX5_setKey : zall RX5 mX5_setKey eX5_setKey rX5_setKey = true := by decide +kernel
set_option maxRecDepth 100000 in
theorem wX5_setKey : ∀ w ∈ zwds RX5 mX5_setKey eX5_setKey rX5_setKey, w ∈ gT := zwd_of [962, 964, 30, 38, 965, 1042, 1043, 38, 1044, 213, 101, 1046, 265, 38, 266, 429, 431, 10, 38, 432, 213, 101, 213, 101, 213, 1047, 1048, 1049, 40, 1050] (by decide +kernel) (by decide +kernel) (z7_no (by decide +kernel))
set_option maxRecDepth 100000 in
theorem xX5_setKey : ∀ w ∈ zwxs RX5 mX5_setKey eX5_setKey rX5_setKey, zspc w = true ∧ w ∈ lw_tbl := by decide +kernel
theorem tX5_setKey {sc : Nat × (Nat → Int32)} {l : Launch} (hlt : l.stackTraces = false) : MetA sc l mX5_setKey (sX5_setKey) := zmet (M := mX5_setKey) (own := RX5) (envM := eX5_setKey) hlt rfl (by decide +kernel) (by decide +kernel) rfl (fun j q hq => by
  match j, hq with
  | 0, hq => cases hq; exact tX5_needRoom hlt
  | 1, hq => cases hq; exact tX5_needKey hlt
  | 2, hq => cases hq; exact tX5_has hlt
  | 3, hq => cases hq; exact tX5_record hlt
  | 4, hq => cases hq; exact tX2_cutWalk hlt
  | n + 5, hq => cases hq) aX5_setKey wX5_setKey xX5_setKey rfl
def mX5_setCoins : zm_M := (yX5_setCoins, cX5_setCoins, 4, (some .int), (7, 0, 0, 141), 2, [], (1, 6))
set_option maxRecDepth 100000 in
def rX5_setCoins : List zm_R := [(0, .aload_n 0, 0, [], 0, 0, (0, 0), false, []),
  (1, .iload_n 1, 0, [], 0, 0, (0, 0), false, []),
  (2, .invokevirtual 144, 6, [0, 0, 2, 0, 1, 5], 0, 0, (0, 0), false, []),
  (5, .iload_n 2, 0, [], 0, 0, (0, 0), false, []),
  (6, .ifCond .lt 9, 1, [8], 0, 0, (0, 0), false, []),
  (9, .iload_n 2, 0, [], 0, 0, (0, 0), false, []),
  (10, .bipush 99, 0, [], 99, 0, (0, 0), false, []),
  (12, .if_icmp .le 14, 1, [9], 0, 0, (0, 0), false, []),
  (15, .new 81, 7, [1, 23, 81, 327, 84, 1], 0, 0, (0, 0), false, []),
  (26, .aload_n 0, 0, [], 0, 0, (0, 0), false, []),
  (27, .getfield 24, 2, [5, 2, 12, 2], 0, 0, (0, 0), false, []),
  (30, .getfield 150, 2, [2, 3, 15, 2], 0, 0, (0, 0), false, []),
  (33, .iload_n 1, 0, [], 0, 0, (0, 0), false, []),
  (34, .iaload, 3, [0], 0, 0, (0, 0), false, []),
  (35, .istore_n 3, 0, [], 0, 0, (0, 0), false, []),
  (36, .aload_n 0, 0, [], 0, 0, (0, 0), false, []),
  (37, .invokevirtual 100, 6, [0, 1, 1, 0, 0, 5], 0, 0, (0, 0), false, []),
  (40, .aload_n 0, 0, [], 0, 0, (0, 0), false, []),
  (41, .getfield 24, 2, [5, 2, 12, 2], 0, 0, (0, 0), false, []),
  (44, .getfield 150, 2, [2, 3, 15, 2], 0, 0, (0, 0), false, []),
  (47, .iload_n 1, 0, [], 0, 0, (0, 0), false, []),
  (48, .iload_n 2, 0, [], 0, 0, (0, 0), false, []),
  (49, .iastore, 3, [0], 0, 0, (0, 0), false, []),
  (50, .aload_n 0, 0, [], 0, 0, (0, 0), false, []),
  (51, .getfield 24, 2, [5, 2, 12, 2], 0, 0, (0, 0), false, []),
  (54, .invokevirtual 324, 6, [0, 2, 1, 0, 0, 2], 0, 0, (0, 0), false, []),
  (57, .iload_n 3, 0, [], 0, 0, (0, 0), false, []),
  (58, .ireturn, 5, [0], 0, 0, (0, 0), false, [])]
def eX5_setCoins : List zm_M := [mX5_needRoom, mX5_record, mX2_cutWalk]
noncomputable def vX5_setCoins : List (zm_M × zm_S) := [(mX5_needRoom, sX5_needRoom), (mX5_record, sX5_record), (mX2_cutWalk, sX2_cutWalk)]
noncomputable def sX5_setCoins : zm_S := zsem vX5_setCoins rX5_setCoins 4
set_option maxRecDepth 100000 in
theorem aX5_setCoins : zall RX5 mX5_setCoins eX5_setCoins rX5_setCoins = true := by decide +kernel
set_option maxRecDepth 100000 in
theorem wX5_setCoins : ∀ w ∈ zwds RX5 mX5_setCoins eX5_setCoins rX5_setCoins, w ∈ gT := zwd_of [962, 964, 30, 38, 965, 213, 104, 429, 431, 10, 38, 432, 213, 104, 213, 1047, 1048, 1049, 40, 1050] (by decide +kernel) (by decide +kernel) (z7_of (L := [(15, .new 81, 7, [1, 23, 81, 327, 84, 1], 0, 0, (0, 0), false, [])]) rfl (List.forall_mem_cons.mpr ⟨zw7 (x := 1) rfl (gT_in (List.mem_of_getElem? (i := 271) (by decide +kernel)) (by decide +kernel)) (gT_in (List.mem_of_getElem? (i := 58) (by decide +kernel)) (by decide +kernel)) zw7_1, fun _ h => absurd h List.not_mem_nil⟩))
set_option maxRecDepth 100000 in
theorem xX5_setCoins : ∀ w ∈ zwxs RX5 mX5_setCoins eX5_setCoins rX5_setCoins, zspc w = true ∧ w ∈ lw_tbl := by decide +kernel
theorem tX5_setCoins {sc : Nat × (Nat → Int32)} {l : Launch} (hlt : l.stackTraces = false) : MetA sc l mX5_setCoins (sX5_setCoins) := zmet (M := mX5_setCoins) (own := RX5) (envM := eX5_setCoins) hlt rfl (by decide +kernel) (by decide +kernel) rfl (fun j q hq => by
  match j, hq with
  | 0, hq => cases hq; exact tX5_needRoom hlt
  | 1, hq => cases hq; exact tX5_record hlt
  | 2, hq => cases hq; exact tX2_cutWalk hlt
  | n + 3, hq => cases hq) aX5_setCoins wX5_setCoins xX5_setCoins rfl
def mX5_setLock : zm_M := (yX5_setLock, cX5_setLock, 5, (some .int), (7, 0, 0, 141), 3, [], (1, 6))
set_option maxRecDepth 100000 in
def rX5_setLock : List zm_R := [(0, .aload_n 0, 0, [], 0, 0, (0, 0), false, []),
  (1, .iload_n 1, 0, [], 0, 0, (0, 0), false, []),
  (2, .invokevirtual 162, 6, [0, 0, 2, 0, 1, 5], 0, 0, (0, 0), false, []),
  (5, .iload_n 2, 0, [], 0, 0, (0, 0), false, []),
  (6, .ifCond .lt 8, 1, [8], 0, 0, (0, 0), false, []),
  (9, .iload_n 2, 0, [], 0, 0, (0, 0), false, []),
  (10, .iconst 2, 0, [], 2, 0, (0, 0), false, []),
  (11, .if_icmp .le 14, 1, [9], 0, 0, (0, 0), false, []),
  (14, .new 81, 7, [1, 24, 81, 328, 84, 1], 0, 0, (0, 0), false, []),
  (25, .iload_n 3, 0, [], 0, 0, (0, 0), false, []),
  (26, .ifCond .lt 11, 1, [15], 0, 0, (0, 0), false, []),
  (29, .iload_n 3, 0, [], 0, 0, (0, 0), false, []),
  (30, .iload_n 2, 0, [], 0, 0, (0, 0), false, []),
  (31, .invokestatic 329, 6, [1, 1, 1, 1, 0, 5], 0, 0, (0, 0), false, []),
  (34, .if_icmp .le 14, 1, [16], 0, 0, (0, 0), false, []),
  (37, .new 81, 7, [1, 25, 81, 332, 84, 1], 0, 0, (0, 0), false, []),
  (48, .sipush 1000, 0, [], 1000, 0, (0, 0), false, []),
  (51, .aload_n 0, 0, [], 0, 0, (0, 0), false, []),
  (52, .getfield 24, 2, [5, 2, 12, 2], 0, 0, (0, 0), false, []),
  (55, .getfield 171, 2, [2, 7, 15, 2], 0, 0, (0, 0), false, []),
  (58, .iload_n 1, 0, [], 0, 0, (0, 0), false, []),
  (59, .iaload, 3, [0], 0, 0, (0, 0), false, []),
  (60, .imul, 0, [], 0, 0, (0, 0), false, []),
  (61, .aload_n 0, 0, [], 0, 0, (0, 0), false, []),
  (62, .getfield 24, 2, [5, 2, 12, 2], 0, 0, (0, 0), false, []),
  (65, .getfield 174, 2, [2, 8, 15, 2], 0, 0, (0, 0), false, []),
  (68, .iload_n 1, 0, [], 0, 0, (0, 0), false, []),
  (69, .iaload, 3, [0], 0, 0, (0, 0), false, []),
  (70, .iadd, 0, [], 0, 0, (0, 0), false, []),
  (71, .istore 4, 0, [], 0, 0, (0, 0), false, []),
  (73, .aload_n 0, 0, [], 0, 0, (0, 0), false, []),
  (74, .invokevirtual 100, 6, [0, 2, 1, 0, 0, 5], 0, 0, (0, 0), false, []),
  (77, .aload_n 0, 0, [], 0, 0, (0, 0), false, []),
  (78, .getfield 24, 2, [5, 2, 12, 2], 0, 0, (0, 0), false, []),
  (81, .iload_n 1, 0, [], 0, 0, (0, 0), false, []),
  (82, .iload_n 2, 0, [], 0, 0, (0, 0), false, []),
  (83, .iload_n 3, 0, [], 0, 0, (0, 0), false, []),
  (84, .invokevirtual 275, 6, [0, 3, 4, 0, 0, 2], 0, 0, (0, 0), false, []),
  (87, .aload_n 0, 0, [], 0, 0, (0, 0), false, []),
  (88, .getfield 24, 2, [5, 2, 12, 2], 0, 0, (0, 0), false, []),
  (91, .invokevirtual 324, 6, [0, 4, 1, 0, 0, 2], 0, 0, (0, 0), false, []),
  (94, .iload 4, 0, [], 0, 0, (0, 0), false, []),
  (96, .ireturn, 5, [0], 0, 0, (0, 0), false, [])]
def eX5_setLock : List zm_M := [mX5_needDoor, mX5_greatestNumber, mX5_record, mX2_lock, mX2_cutWalk]
noncomputable def vX5_setLock : List (zm_M × zm_S) := [(mX5_needDoor, sX5_needDoor), (mX5_greatestNumber, sX5_greatestNumber), (mX5_record, sX5_record), (mX2_lock, sX2_lock), (mX2_cutWalk, sX2_cutWalk)]
noncomputable def sX5_setLock : zm_S := zsem vX5_setLock rX5_setLock 5
set_option maxRecDepth 100000 in
theorem aX5_setLock : zall RX5 mX5_setLock eX5_setLock rX5_setLock = true := by decide +kernel
set_option maxRecDepth 100000 in
theorem wX5_setLock : ∀ w ∈ zwds RX5 mX5_setLock eX5_setLock rX5_setLock, w ∈ gT := zwd_of [1061, 1063, 33, 38, 1064, 1067, 925, 38, 926, 213, 113, 213, 115, 429, 431, 10, 38, 432, 213, 1069, 917, 918, 40, 919, 213, 1047, 1048, 1049, 40, 1050] (by decide +kernel) (by decide +kernel) (z7_of (L := [(14, .new 81, 7, [1, 24, 81, 328, 84, 1], 0, 0, (0, 0), false, []), (37, .new 81, 7, [1, 25, 81, 332, 84, 1], 0, 0, (0, 0), false, [])]) rfl (List.forall_mem_cons.mpr ⟨zw7 (x := 1) rfl (gT_in (List.mem_of_getElem? (i := 271) (by decide +kernel)) (by decide +kernel)) (gT_in (List.mem_of_getElem? (i := 58) (by decide +kernel)) (by decide +kernel)) zw7_1, List.forall_mem_cons.mpr ⟨zw7 (x := 1) rfl (gT_in (List.mem_of_getElem? (i := 271) (by decide +kernel)) (by decide +kernel)) (gT_in (List.mem_of_getElem? (i := 58) (by decide +kernel)) (by decide +kernel)) zw7_1, fun _ h => absurd h List.not_mem_nil⟩⟩))
set_option maxRecDepth 100000 in
theorem xX5_setLock : ∀ w ∈ zwxs RX5 mX5_setLock eX5_setLock rX5_setLock, zspc w = true ∧ w ∈ lw_tbl := by decide +kernel
theorem tX5_setLock {sc : Nat × (Nat → Int32)} {l : Launch} (hlt : l.stackTraces = false) : MetA sc l mX5_setLock (sX5_setLock) := zmet (M := mX5_setLock) (own := RX5) (envM := eX5_setLock) hlt rfl (by decide +kernel) (by decide +kernel) rfl (fun j q hq => by
  match j, hq with
  | 0, hq => cases hq; exact tX5_needDoor hlt
  | 1, hq => cases hq; exact tX5_greatestNumber hlt
  | 2, hq => cases hq; exact tX5_record hlt
  | 3, hq => cases hq; exact tX2_lock hlt
  | 4, hq => cases hq; exact tX2_cutWalk hlt
  | n + 5, hq => cases hq) aX5_setLock wX5_setLock xX5_setLock rfl
def mX5_addDoor : zm_M := (yX5_addDoor, cX5_addDoor, 5, (some .int), (8, 0, 0, 163), 3, [], (1, 6))
set_option maxRecDepth 100000 in
def rX5_addDoor : List zm_R := [(0, .aload_n 0, 0, [], 0, 0, (0, 0), false, []),
  (1, .iload_n 1, 0, [], 0, 0, (0, 0), false, []),
  (2, .iload_n 2, 0, [], 0, 0, (0, 0), false, []),
  (3, .invokevirtual 282, 6, [0, 0, 3, 0, 1, 5], 0, 0, (0, 0), false, []),
  (6, .aload_n 0, 0, [], 0, 0, (0, 0), false, []),
  (7, .getfield 24, 2, [5, 2, 12, 2], 0, 0, (0, 0), false, []),
  (10, .getfield 118, 2, [2, 4, 15, 0], 0, 0, (0, 0), false, []),
  (13, .bipush 20, 0, [], 20, 0, (0, 0), false, []),
  (15, .if_icmp .lt 14, 1, [10], 0, 0, (0, 0), false, []),
  (18, .new 71, 7, [0, 26, 71, 333, 75, 1], 0, 0, (0, 0), false, []),
  (29, .aload_n 0, 0, [], 0, 0, (0, 0), false, []),
  (30, .invokevirtual 100, 6, [0, 1, 1, 0, 0, 5], 0, 0, (0, 0), false, []),
  (33, .aload_n 0, 0, [], 0, 0, (0, 0), false, []),
  (34, .getfield 24, 2, [5, 2, 12, 2], 0, 0, (0, 0), false, []),
  (37, .iload_n 1, 0, [], 0, 0, (0, 0), false, []),
  (38, .iload_n 2, 0, [], 0, 0, (0, 0), false, []),
  (39, .invokevirtual 335, 6, [0, 2, 3, 1, 0, 2], 0, 0, (0, 0), false, []),
  (42, .istore 4, 0, [], 0, 0, (0, 0), false, []),
  (44, .aload_n 0, 0, [], 0, 0, (0, 0), false, []),
  (45, .getfield 24, 2, [5, 2, 12, 2], 0, 0, (0, 0), false, []),
  (48, .getfield 177, 2, [2, 9, 15, 2], 0, 0, (0, 0), false, []),
  (51, .iload 4, 0, [], 0, 0, (0, 0), false, []),
  (53, .iload_n 3, 0, [], 0, 0, (0, 0), false, []),
  (54, .bastore, 3, [3], 0, 0, (0, 0), false, []),
  (55, .iload 4, 0, [], 0, 0, (0, 0), false, []),
  (57, .ireturn, 5, [0], 0, 0, (0, 0), false, [])]
def eX5_addDoor : List zm_M := [mX5_needTwoRooms, mX5_record, mX2_build]
noncomputable def vX5_addDoor : List (zm_M × zm_S) := [(mX5_needTwoRooms, sX5_needTwoRooms), (mX5_record, sX5_record), (mX2_build, sX2_build)]
noncomputable def sX5_addDoor : zm_S := zsem vX5_addDoor rX5_addDoor 5
set_option maxRecDepth 100000 in
theorem aX5_addDoor : zall RX5 mX5_addDoor eX5_addDoor rX5_addDoor = true := by decide +kernel
set_option maxRecDepth 100000 in
theorem wX5_addDoor : ∀ w ∈ zwds RX5 mX5_addDoor eX5_addDoor rX5_addDoor, w ∈ gT := zwd_of [1078, 1080, 34, 38, 1081, 213, 107, 429, 431, 10, 38, 432, 213, 1084, 913, 914, 40, 915, 213, 118] (by decide +kernel) (by decide +kernel) (z7_of (L := [(18, .new 71, 7, [0, 26, 71, 333, 75, 1], 0, 0, (0, 0), false, [])]) rfl (List.forall_mem_cons.mpr ⟨zw7 (x := 0) rfl (gT_in (List.mem_of_getElem? (i := 413) (by decide +kernel)) (by decide +kernel)) (gT_in (List.mem_of_getElem? (i := 59) (by decide +kernel)) (by decide +kernel)) zw7_0, fun _ h => absurd h List.not_mem_nil⟩))
set_option maxRecDepth 100000 in
theorem xX5_addDoor : ∀ w ∈ zwxs RX5 mX5_addDoor eX5_addDoor rX5_addDoor, zspc w = true ∧ w ∈ lw_tbl := by decide +kernel
theorem tX5_addDoor {sc : Nat × (Nat → Int32)} {l : Launch} (hlt : l.stackTraces = false) : MetA sc l mX5_addDoor (sX5_addDoor) := zmet (M := mX5_addDoor) (own := RX5) (envM := eX5_addDoor) hlt rfl (by decide +kernel) (by decide +kernel) rfl (fun j q hq => by
  match j, hq with
  | 0, hq => cases hq; exact tX5_needTwoRooms hlt
  | 1, hq => cases hq; exact tX5_record hlt
  | 2, hq => cases hq; exact tX2_build hlt
  | n + 3, hq => cases hq) aX5_addDoor wX5_addDoor xX5_addDoor rfl
def mX5_removeDoor : zm_M := (yX5_removeDoor, cX5_removeDoor, 2, (some .int), (7, 0, 0, 141), 1, [], (1, 6))
set_option maxRecDepth 100000 in
def rX5_removeDoor : List zm_R := [(0, .aload_n 0, 0, [], 0, 0, (0, 0), false, []),
  (1, .iload_n 1, 0, [], 0, 0, (0, 0), false, []),
  (2, .invokevirtual 162, 6, [0, 0, 2, 0, 1, 5], 0, 0, (0, 0), false, []),
  (5, .aload_n 0, 0, [], 0, 0, (0, 0), false, []),
  (6, .invokevirtual 100, 6, [0, 1, 1, 0, 0, 5], 0, 0, (0, 0), false, []),
  (9, .aload_n 0, 0, [], 0, 0, (0, 0), false, []),
  (10, .getfield 24, 2, [5, 2, 12, 2], 0, 0, (0, 0), false, []),
  (13, .iload_n 1, 0, [], 0, 0, (0, 0), false, []),
  (14, .invokevirtual 269, 6, [0, 2, 2, 0, 0, 2], 0, 0, (0, 0), false, []),
  (17, .aload_n 0, 0, [], 0, 0, (0, 0), false, []),
  (18, .getfield 24, 2, [5, 2, 12, 2], 0, 0, (0, 0), false, []),
  (21, .invokevirtual 324, 6, [0, 3, 1, 0, 0, 2], 0, 0, (0, 0), false, []),
  (24, .aload_n 0, 0, [], 0, 0, (0, 0), false, []),
  (25, .getfield 24, 2, [5, 2, 12, 2], 0, 0, (0, 0), false, []),
  (28, .getfield 118, 2, [2, 4, 15, 0], 0, 0, (0, 0), false, []),
  (31, .ireturn, 5, [0], 0, 0, (0, 0), false, [])]
def eX5_removeDoor : List zm_M := [mX5_needDoor, mX5_record, mX2_dropDoor, mX2_cutWalk]
noncomputable def vX5_removeDoor : List (zm_M × zm_S) := [(mX5_needDoor, sX5_needDoor), (mX5_record, sX5_record), (mX2_dropDoor, sX2_dropDoor), (mX2_cutWalk, sX2_cutWalk)]
noncomputable def sX5_removeDoor : zm_S := zsem vX5_removeDoor rX5_removeDoor 2
set_option maxRecDepth 100000 in
theorem aX5_removeDoor : zall RX5 mX5_removeDoor eX5_removeDoor rX5_removeDoor = true := by decide +kernel
set_option maxRecDepth 100000 in
theorem wX5_removeDoor : ∀ w ∈ zwds RX5 mX5_removeDoor eX5_removeDoor rX5_removeDoor, w ∈ gT := zwd_of [1061, 1063, 33, 38, 1064, 429, 431, 10, 38, 432, 213, 1089, 1090, 1091, 40, 1092, 213, 1047, 1048, 1049, 40, 1050, 213, 107] (by decide +kernel) (by decide +kernel) (z7_no (by decide +kernel))
set_option maxRecDepth 100000 in
theorem xX5_removeDoor : ∀ w ∈ zwxs RX5 mX5_removeDoor eX5_removeDoor rX5_removeDoor, zspc w = true ∧ w ∈ lw_tbl := by decide +kernel
theorem tX5_removeDoor {sc : Nat × (Nat → Int32)} {l : Launch} (hlt : l.stackTraces = false) : MetA sc l mX5_removeDoor (sX5_removeDoor) := zmet (M := mX5_removeDoor) (own := RX5) (envM := eX5_removeDoor) hlt rfl (by decide +kernel) (by decide +kernel) rfl (fun j q hq => by
  match j, hq with
  | 0, hq => cases hq; exact tX5_needDoor hlt
  | 1, hq => cases hq; exact tX5_record hlt
  | 2, hq => cases hq; exact tX2_dropDoor hlt
  | 3, hq => cases hq; exact tX2_cutWalk hlt
  | n + 4, hq => cases hq) aX5_removeDoor wX5_removeDoor xX5_removeDoor rfl
def mX5_setStart : zm_M := (yX5_setStart, cX5_setStart, 3, (some .int), (7, 0, 0, 141), 1, [], (1, 6))
set_option maxRecDepth 100000 in
def rX5_setStart : List zm_R := [(0, .aload_n 0, 0, [], 0, 0, (0, 0), false, []),
  (1, .iload_n 1, 0, [], 0, 0, (0, 0), false, []),
  (2, .invokevirtual 144, 6, [0, 0, 2, 0, 1, 5], 0, 0, (0, 0), false, []),
  (5, .aload_n 0, 0, [], 0, 0, (0, 0), false, []),
  (6, .getfield 24, 2, [5, 2, 12, 2], 0, 0, (0, 0), false, []),
  (9, .getfield 121, 2, [2, 10, 15, 0], 0, 0, (0, 0), false, []),
  (12, .istore_n 2, 0, [], 0, 0, (0, 0), false, []),
  (13, .aload_n 0, 0, [], 0, 0, (0, 0), false, []),
  (14, .invokevirtual 100, 6, [0, 1, 1, 0, 0, 5], 0, 0, (0, 0), false, []),
  (17, .iload_n 1, 0, [], 0, 0, (0, 0), false, []),
  (18, .iload_n 2, 0, [], 0, 0, (0, 0), false, []),
  (19, .if_icmp .eq 11, 1, [16], 0, 0, (0, 0), false, []),
  (22, .aload_n 0, 0, [], 0, 0, (0, 0), false, []),
  (23, .getfield 24, 2, [5, 2, 12, 2], 0, 0, (0, 0), false, []),
  (26, .iload_n 1, 0, [], 0, 0, (0, 0), false, []),
  (27, .invokevirtual 339, 6, [0, 2, 2, 0, 0, 2], 0, 0, (0, 0), false, []),
  (30, .iload_n 2, 0, [], 0, 0, (0, 0), false, []),
  (31, .ireturn, 5, [0], 0, 0, (0, 0), false, [])]
def eX5_setStart : List zm_M := [mX5_needRoom, mX5_record, mX2_beginAt]
noncomputable def vX5_setStart : List (zm_M × zm_S) := [(mX5_needRoom, sX5_needRoom), (mX5_record, sX5_record), (mX2_beginAt, sX2_beginAt)]
noncomputable def sX5_setStart : zm_S := zsem vX5_setStart rX5_setStart 3
set_option maxRecDepth 100000 in
theorem aX5_setStart : zall RX5 mX5_setStart eX5_setStart rX5_setStart = true := by decide +kernel
set_option maxRecDepth 100000 in
theorem wX5_setStart : ∀ w ∈ zwds RX5 mX5_setStart eX5_setStart rX5_setStart, w ∈ gT := zwd_of [962, 964, 30, 38, 965, 213, 120, 429, 431, 10, 38, 432, 213, 1097, 831, 832, 40, 833] (by decide +kernel) (by decide +kernel) (z7_no (by decide +kernel))
set_option maxRecDepth 100000 in
theorem xX5_setStart : ∀ w ∈ zwxs RX5 mX5_setStart eX5_setStart rX5_setStart, zspc w = true ∧ w ∈ lw_tbl := by decide +kernel
theorem tX5_setStart {sc : Nat × (Nat → Int32)} {l : Launch} (hlt : l.stackTraces = false) : MetA sc l mX5_setStart (sX5_setStart) := zmet (M := mX5_setStart) (own := RX5) (envM := eX5_setStart) hlt rfl (by decide +kernel) (by decide +kernel) rfl (fun j q hq => by
  match j, hq with
  | 0, hq => cases hq; exact tX5_needRoom hlt
  | 1, hq => cases hq; exact tX5_record hlt
  | 2, hq => cases hq; exact tX2_beginAt hlt
  | n + 3, hq => cases hq) aX5_setStart wX5_setStart xX5_setStart rfl
def mX5_setEnd : zm_M := (yX5_setEnd, cX5_setEnd, 3, (some .int), (7, 0, 0, 141), 1, [], (1, 6))
set_option maxRecDepth 100000 in
def rX5_setEnd : List zm_R := [(0, .iload_n 1, 0, [], 0, 0, (0, 0), false, []),
  (1, .iconst (-1), 0, [], (-1), 0, (0, 0), false, []),
  (2, .if_icmp .eq 8, 1, [6], 0, 0, (0, 0), false, []),
  (5, .aload_n 0, 0, [], 0, 0, (0, 0), false, []),
  (6, .iload_n 1, 0, [], 0, 0, (0, 0), false, []),
  (7, .invokevirtual 144, 6, [0, 1, 2, 0, 1, 5], 0, 0, (0, 0), false, []),
  (10, .aload_n 0, 0, [], 0, 0, (0, 0), false, []),
  (11, .getfield 24, 2, [5, 2, 12, 2], 0, 0, (0, 0), false, []),
  (14, .getfield 124, 2, [2, 11, 15, 0], 0, 0, (0, 0), false, []),
  (17, .istore_n 2, 0, [], 0, 0, (0, 0), false, []),
  (18, .aload_n 0, 0, [], 0, 0, (0, 0), false, []),
  (19, .invokevirtual 100, 6, [0, 0, 1, 0, 0, 5], 0, 0, (0, 0), false, []),
  (22, .aload_n 0, 0, [], 0, 0, (0, 0), false, []),
  (23, .getfield 24, 2, [5, 2, 12, 2], 0, 0, (0, 0), false, []),
  (26, .iload_n 1, 0, [], 0, 0, (0, 0), false, []),
  (27, .putfield 124, 2, [2, 11, 15, 0], 0, 0, (0, 0), false, []),
  (30, .iload_n 2, 0, [], 0, 0, (0, 0), false, []),
  (31, .ireturn, 5, [0], 0, 0, (0, 0), false, [])]
def eX5_setEnd : List zm_M := [mX5_record, mX5_needRoom]
noncomputable def vX5_setEnd : List (zm_M × zm_S) := [(mX5_record, sX5_record), (mX5_needRoom, sX5_needRoom)]
noncomputable def sX5_setEnd : zm_S := zsem vX5_setEnd rX5_setEnd 3
set_option maxRecDepth 100000 in
theorem aX5_setEnd : zall RX5 mX5_setEnd eX5_setEnd rX5_setEnd = true := by decide +kernel
set_option maxRecDepth 100000 in
theorem wX5_setEnd : ∀ w ∈ zwds RX5 mX5_setEnd eX5_setEnd rX5_setEnd, w ∈ gT := zwd_of [962, 964, 30, 38, 965, 213, 122, 429, 431, 10, 38, 432, 213, 122] (by decide +kernel) (by decide +kernel) (z7_no (by decide +kernel))
set_option maxRecDepth 100000 in
theorem xX5_setEnd : ∀ w ∈ zwxs RX5 mX5_setEnd eX5_setEnd rX5_setEnd, zspc w = true ∧ w ∈ lw_tbl := by decide +kernel
theorem tX5_setEnd {sc : Nat × (Nat → Int32)} {l : Launch} (hlt : l.stackTraces = false) : MetA sc l mX5_setEnd (sX5_setEnd) := zmet (M := mX5_setEnd) (own := RX5) (envM := eX5_setEnd) hlt rfl (by decide +kernel) (by decide +kernel) rfl (fun j q hq => by
  match j, hq with
  | 0, hq => cases hq; exact tX5_record hlt
  | 1, hq => cases hq; exact tX5_needRoom hlt
  | n + 2, hq => cases hq) aX5_setEnd wX5_setEnd xX5_setEnd rfl
def mX5_undo : zm_M := (yX5_undo, cX5_undo, 1, (some .int), (6, 0, 0, 120), 0, [], (1, 6))
set_option maxRecDepth 100000 in
def rX5_undo : List zm_R := [(0, .aload_n 0, 0, [], 0, 0, (0, 0), false, []),
  (1, .getfield 34, 2, [5, 4, 12, 2], 0, 0, (0, 0), false, []),
  (4, .getfield 347, 2, [1, 2, 3, 0], 0, 0, (0, 0), false, []),
  (7, .ifCond .ne 14, 1, [5], 0, 0, (0, 0), false, []),
  (10, .new 71, 7, [0, 27, 71, 350, 75, 1], 0, 0, (0, 0), false, []),
  (21, .aload_n 0, 0, [], 0, 0, (0, 0), false, []),
  (22, .iconst 1, 0, [], 1, 0, (0, 0), false, []),
  (23, .putfield 53, 2, [5, 8, 12, 3], 0, 0, (0, 0), false, []),
  (26, .aload_n 0, 0, [], 0, 0, (0, 0), false, []),
  (27, .getfield 34, 2, [5, 4, 12, 2], 0, 0, (0, 0), false, []),
  (30, .aload_n 0, 0, [], 0, 0, (0, 0), false, []),
  (31, .getfield 24, 2, [5, 2, 12, 2], 0, 0, (0, 0), false, []),
  (34, .invokevirtual 352, 6, [0, 0, 2, 0, 0, 1], 0, 0, (0, 0), false, []),
  (37, .aload_n 0, 0, [], 0, 0, (0, 0), false, []),
  (38, .getfield 34, 2, [5, 4, 12, 2], 0, 0, (0, 0), false, []),
  (41, .getfield 347, 2, [1, 2, 3, 0], 0, 0, (0, 0), false, []),
  (44, .ireturn, 5, [0], 0, 0, (0, 0), false, [])]
def eX5_undo : List zm_M := [mX1_pop]
noncomputable def vX5_undo : List (zm_M × zm_S) := [(mX1_pop, sX1_pop)]
noncomputable def sX5_undo : zm_S := zsem vX5_undo rX5_undo 1
set_option maxRecDepth 100000 in
theorem aX5_undo : zall RX5 mX5_undo eX5_undo rX5_undo = true := by decide +kernel
set_option maxRecDepth 100000 in
theorem wX5_undo : ∀ w ∈ zwds RX5 mX5_undo eX5_undo rX5_undo, w ∈ gT := zwd_of [215, 174, 219, 215, 213, 453, 454, 455, 41, 456, 215, 174] (by decide +kernel) (by decide +kernel) (z7_of (L := [(10, .new 71, 7, [0, 27, 71, 350, 75, 1], 0, 0, (0, 0), false, [])]) rfl (List.forall_mem_cons.mpr ⟨zw7 (x := 0) rfl (gT_in (List.mem_of_getElem? (i := 413) (by decide +kernel)) (by decide +kernel)) (gT_in (List.mem_of_getElem? (i := 59) (by decide +kernel)) (by decide +kernel)) zw7_0, fun _ h => absurd h List.not_mem_nil⟩))
set_option maxRecDepth 100000 in
theorem xX5_undo : ∀ w ∈ zwxs RX5 mX5_undo eX5_undo rX5_undo, zspc w = true ∧ w ∈ lw_tbl := by decide +kernel
theorem tX5_undo {sc : Nat × (Nat → Int32)} {l : Launch} (hlt : l.stackTraces = false) : MetA sc l mX5_undo (sX5_undo) := zmet (M := mX5_undo) (own := RX5) (envM := eX5_undo) hlt rfl (by decide +kernel) (by decide +kernel) rfl (fun j q hq => by
  match j, hq with
  | 0, hq => cases hq; exact tX1_pop hlt
  | n + 1, hq => cases hq) aX5_undo wX5_undo xX5_undo rfl
