/-! ROWS: the bytecode of the methods as the abstract machine runs it, and their contracts (written by wip/whole/rows.py). -/
def mX6_thrown : zm_M := (yX6_thrown, cX6_thrown, 1, (some .int), (0, 0, 0, 0), 0, [], (0, 0))
def rX6_thrown : List zm_R := [(0, .aload_n 0, 0, [], 0, 0, (0, 0), false, []),
  (1, .getfield 3, 2, [6, 0, 27, 0], 0, 0, (0, 0), false, []),
  (4, .ireturn, 5, [0], 0, 0, (0, 0), false, [])]
def eX6_thrown : List zm_M := []
noncomputable def vX6_thrown : List (zm_M × zm_S) := []
noncomputable def sX6_thrown : zm_S := zsem vX6_thrown rX6_thrown 1
set_option maxRecDepth 100000 in
theorem aX6_thrown : zall RX6 mX6_thrown eX6_thrown rX6_thrown = true := by decide +kernel
set_option maxRecDepth 100000 in
theorem wX6_thrown : ∀ w ∈ zwds RX6 mX6_thrown eX6_thrown rX6_thrown, w ∈ gT := zwd_of [1226] (by decide +kernel) (by decide +kernel) (z7_no (by decide +kernel))
set_option maxRecDepth 100000 in
theorem xX6_thrown : ∀ w ∈ zwxs RX6 mX6_thrown eX6_thrown rX6_thrown, zspc w = true ∧ w ∈ lw_tbl := by decide +kernel
theorem tX6_thrown {l : Launch} (hlt : l.stackTraces = false) : MetA l mX6_thrown sX6_thrown := zmet (M := mX6_thrown) (own := RX6) (envM := eX6_thrown) hlt rfl (by decide +kernel) (by decide +kernel) rfl (fun j q hq => by cases hq) aX6_thrown wX6_thrown xX6_thrown rfl
def mX6_in : zm_M := (yX6_in, cX6_in, 6, (some .boolean), (0, 0, 0, 0), 3, [], (0, 0))
def rX6_in : List zm_R := [(0, .lload_n 0, 0, [], 0, 0, (0, 0), false, []),
  (1, .lload_n 2, 0, [], 0, 0, (0, 0), false, []),
  (2, .lcmp, 0, [], 0, 0, (0, 0), false, []),
  (3, .ifCond .lt 14, 1, [10], 0, 0, (0, 0), false, []),
  (6, .lload_n 0, 0, [], 0, 0, (0, 0), false, []),
  (7, .lload 4, 0, [], 0, 0, (0, 0), false, []),
  (9, .lcmp, 0, [], 0, 0, (0, 0), false, []),
  (10, .ifCond .gt 7, 1, [10], 0, 0, (0, 0), false, []),
  (13, .iconst 1, 0, [], 1, 0, (0, 0), false, []),
  (14, .goto 4, 1, [11], 0, 0, (0, 0), false, []),
  (17, .iconst 0, 0, [], 0, 0, (0, 0), false, []),
  (18, .ireturn, 5, [1], 0, 0, (0, 0), false, [])]
def eX6_in : List zm_M := []
noncomputable def vX6_in : List (zm_M × zm_S) := []
noncomputable def sX6_in : zm_S := zsem vX6_in rX6_in 6
set_option maxRecDepth 100000 in
theorem aX6_in : zall RX6 mX6_in eX6_in rX6_in = true := by decide +kernel
set_option maxRecDepth 100000 in
theorem wX6_in : ∀ w ∈ zwds RX6 mX6_in eX6_in rX6_in, w ∈ gT := zwd_of [] (by decide +kernel) (by decide +kernel) (z7_no (by decide +kernel))
set_option maxRecDepth 100000 in
theorem xX6_in : ∀ w ∈ zwxs RX6 mX6_in eX6_in rX6_in, zspc w = true ∧ w ∈ lw_tbl := by decide +kernel
theorem tX6_in {l : Launch} (hlt : l.stackTraces = false) : MetA l mX6_in sX6_in := zmet (M := mX6_in) (own := RX6) (envM := eX6_in) hlt rfl (by decide +kernel) (by decide +kernel) rfl (fun j q hq => by cases hq) aX6_in wX6_in xX6_in rfl
def mX6_has : zm_M := (yX6_has, cX6_has, 2, (some .boolean), (0, 0, 0, 0), 2, [], (0, 0))
def rX6_has : List zm_R := [(0, .iload_n 0, 0, [], 0, 0, (0, 0), false, []),
  (1, .iload_n 1, 0, [], 0, 0, (0, 0), false, []),
  (2, .ishr, 0, [], 0, 0, (0, 0), false, []),
  (3, .iconst 1, 0, [], 1, 0, (0, 0), false, []),
  (4, .iand, 0, [], 0, 0, (0, 0), false, []),
  (5, .iconst 1, 0, [], 1, 0, (0, 0), false, []),
  (6, .if_icmp .ne 7, 1, [9], 0, 0, (0, 0), false, []),
  (9, .iconst 1, 0, [], 1, 0, (0, 0), false, []),
  (10, .goto 4, 1, [10], 0, 0, (0, 0), false, []),
  (13, .iconst 0, 0, [], 0, 0, (0, 0), false, []),
  (14, .ireturn, 5, [1], 0, 0, (0, 0), false, [])]
def eX6_has : List zm_M := []
noncomputable def vX6_has : List (zm_M × zm_S) := []
noncomputable def sX6_has : zm_S := zsem vX6_has rX6_has 2
set_option maxRecDepth 100000 in
theorem aX6_has : zall RX6 mX6_has eX6_has rX6_has = true := by decide +kernel
set_option maxRecDepth 100000 in
theorem wX6_has : ∀ w ∈ zwds RX6 mX6_has eX6_has rX6_has, w ∈ gT := zwd_of [] (by decide +kernel) (by decide +kernel) (z7_no (by decide +kernel))
set_option maxRecDepth 100000 in
theorem xX6_has : ∀ w ∈ zwxs RX6 mX6_has eX6_has rX6_has, zspc w = true ∧ w ∈ lw_tbl := by decide +kernel
theorem tX6_has {l : Launch} (hlt : l.stackTraces = false) : MetA l mX6_has sX6_has := zmet (M := mX6_has) (own := RX6) (envM := eX6_has) hlt rfl (by decide +kernel) (by decide +kernel) rfl (fun j q hq => by cases hq) aX6_has wX6_has xX6_has rfl
def mX6_ones : zm_M := (yX6_ones, cX6_ones, 3, (some .int), (0, 0, 0, 0), 1, [], (0, 0))
def rX6_ones : List zm_R := [(0, .iconst 0, 0, [], 0, 0, (0, 0), false, []),
  (1, .istore_n 1, 0, [], 0, 0, (0, 0), false, []),
  (2, .iload_n 0, 0, [], 0, 0, (0, 0), false, []),
  (3, .istore_n 2, 0, [], 0, 0, (0, 0), false, []),
  (4, .iload_n 2, 0, [], 0, 0, (0, 0), true, [0]),
  (5, .ifCond .eq 15, 1, [14], 0, 0, (0, 0), false, []),
  (8, .iinc 1 1, 0, [], 1, 0, (0, 0), false, []),
  (11, .iload_n 2, 0, [], 0, 0, (0, 0), false, []),
  (12, .iload_n 2, 0, [], 0, 0, (0, 0), false, []),
  (13, .iconst 1, 0, [], 1, 0, (0, 0), false, []),
  (14, .isub, 0, [], 0, 0, (0, 0), false, []),
  (15, .iand, 0, [], 0, 0, (0, 0), false, []),
  (16, .istore_n 2, 0, [], 0, 0, (0, 0), false, []),
  (17, .goto (-13), 1, [4], 0, 0, (0, 0), false, []),
  (20, .iload_n 1, 0, [], 0, 0, (0, 0), false, []),
  (21, .ireturn, 5, [0], 0, 0, (0, 0), false, [])]
def eX6_ones : List zm_M := []
noncomputable def vX6_ones : List (zm_M × zm_S) := []
noncomputable def sX6_ones : zm_S := zsem vX6_ones rX6_ones 3
set_option maxRecDepth 100000 in
theorem aX6_ones : zall RX6 mX6_ones eX6_ones rX6_ones = true := by decide +kernel
set_option maxRecDepth 100000 in
theorem wX6_ones : ∀ w ∈ zwds RX6 mX6_ones eX6_ones rX6_ones, w ∈ gT := zwd_of [] (by decide +kernel) (by decide +kernel) (z7_no (by decide +kernel))
set_option maxRecDepth 100000 in
theorem xX6_ones : ∀ w ∈ zwxs RX6 mX6_ones eX6_ones rX6_ones, zspc w = true ∧ w ∈ lw_tbl := by decide +kernel
theorem tX6_ones {l : Launch} (hlt : l.stackTraces = false) : MetA l mX6_ones sX6_ones := zmet (M := mX6_ones) (own := RX6) (envM := eX6_ones) hlt rfl (by decide +kernel) (by decide +kernel) rfl (fun j q hq => by cases hq) aX6_ones wX6_ones xX6_ones rfl
def mX6_passes3 : zm_M := (yX6_passes3, cX6_passes3, 4, (some .boolean), (0, 0, 0, 0), 3, [], (0, 0))
def rX6_passes3 : List zm_R := [(0, .aload_n 0, 0, [], 0, 0, (0, 0), false, []),
  (1, .iload_n 1, 0, [], 0, 0, (0, 0), false, []),
  (2, .ifCond .ne 7, 1, [5], 0, 0, (0, 0), false, []),
  (5, .iconst 1, 0, [], 1, 0, (0, 0), false, []),
  (6, .goto 20, 1, [14], 0, 0, (0, 0), false, []),
  (9, .iload_n 2, 0, [], 0, 0, (0, 0), false, []),
  (10, .ifCond .ne 7, 1, [9], 0, 0, (0, 0), false, []),
  (13, .iconst 2, 0, [], 2, 0, (0, 0), false, []),
  (14, .goto 12, 1, [14], 0, 0, (0, 0), false, []),
  (17, .iload_n 3, 0, [], 0, 0, (0, 0), false, []),
  (18, .ifCond .ne 7, 1, [13], 0, 0, (0, 0), false, []),
  (21, .iconst 3, 0, [], 3, 0, (0, 0), false, []),
  (22, .goto 4, 1, [14], 0, 0, (0, 0), false, []),
  (25, .iconst 0, 0, [], 0, 0, (0, 0), false, []),
  (26, .putfield 3, 2, [6, 0, 27, 0], 0, 0, (0, 0), false, []),
  (29, .aload_n 0, 0, [], 0, 0, (0, 0), false, []),
  (30, .getfield 3, 2, [6, 0, 27, 0], 0, 0, (0, 0), false, []),
  (33, .ifCond .ne 7, 1, [20], 0, 0, (0, 0), false, []),
  (36, .iconst 1, 0, [], 1, 0, (0, 0), false, []),
  (37, .goto 4, 1, [21], 0, 0, (0, 0), false, []),
  (40, .iconst 0, 0, [], 0, 0, (0, 0), false, []),
  (41, .ireturn, 5, [1], 0, 0, (0, 0), false, [])]
def eX6_passes3 : List zm_M := []
noncomputable def vX6_passes3 : List (zm_M × zm_S) := []
noncomputable def sX6_passes3 : zm_S := zsem vX6_passes3 rX6_passes3 4
set_option maxRecDepth 100000 in
theorem aX6_passes3 : zall RX6 mX6_passes3 eX6_passes3 rX6_passes3 = true := by decide +kernel
set_option maxRecDepth 100000 in
theorem wX6_passes3 : ∀ w ∈ zwds RX6 mX6_passes3 eX6_passes3 rX6_passes3, w ∈ gT := zwd_of [1226, 1226] (by decide +kernel) (by decide +kernel) (z7_no (by decide +kernel))
set_option maxRecDepth 100000 in
theorem xX6_passes3 : ∀ w ∈ zwxs RX6 mX6_passes3 eX6_passes3 rX6_passes3, zspc w = true ∧ w ∈ lw_tbl := by decide +kernel
theorem tX6_passes3 {l : Launch} (hlt : l.stackTraces = false) : MetA l mX6_passes3 sX6_passes3 := zmet (M := mX6_passes3) (own := RX6) (envM := eX6_passes3) hlt rfl (by decide +kernel) (by decide +kernel) rfl (fun j q hq => by cases hq) aX6_passes3 wX6_passes3 xX6_passes3 rfl
def mX6_passes2 : zm_M := (yX6_passes2, cX6_passes2, 3, (some .boolean), (1, 0, 0, 23), 2, [], (0, 0))
def rX6_passes2 : List zm_R := [(0, .aload_n 0, 0, [], 0, 0, (0, 0), false, []),
  (1, .iload_n 1, 0, [], 0, 0, (0, 0), false, []),
  (2, .iload_n 2, 0, [], 0, 0, (0, 0), false, []),
  (3, .iconst 1, 0, [], 1, 0, (0, 0), false, []),
  (4, .invokevirtual 7, 6, [0, 0, 4, 1, 0, 6], 0, 0, (0, 0), false, []),
  (7, .ireturn, 5, [1], 0, 0, (0, 0), false, [])]
def eX6_passes2 : List zm_M := [mX6_passes3]
noncomputable def vX6_passes2 : List (zm_M × zm_S) := [(mX6_passes3, sX6_passes3)]
noncomputable def sX6_passes2 : zm_S := zsem vX6_passes2 rX6_passes2 3
set_option maxRecDepth 100000 in
theorem aX6_passes2 : zall RX6 mX6_passes2 eX6_passes2 rX6_passes2 = true := by decide +kernel
set_option maxRecDepth 100000 in
theorem wX6_passes2 : ∀ w ∈ zwds RX6 mX6_passes2 eX6_passes2 rX6_passes2, w ∈ gT := zwd_of [1316, 1318, 36, 119, 1319] (by decide +kernel) (by decide +kernel) (z7_no (by decide +kernel))
set_option maxRecDepth 100000 in
theorem xX6_passes2 : ∀ w ∈ zwxs RX6 mX6_passes2 eX6_passes2 rX6_passes2, zspc w = true ∧ w ∈ lw_tbl := by decide +kernel
theorem tX6_passes2 {l : Launch} (hlt : l.stackTraces = false) : MetA l mX6_passes2 sX6_passes2 := zmet (M := mX6_passes2) (own := RX6) (envM := eX6_passes2) hlt rfl (by decide +kernel) (by decide +kernel) rfl (fun j q hq => by
  match j, hq with
  | 0, hq => cases hq; exact tX6_passes3 hlt
  | n + 1, hq => cases hq) aX6_passes2 wX6_passes2 xX6_passes2 rfl
def mX6_passes : zm_M := (yX6_passes, cX6_passes, 2, (some .boolean), (1, 0, 0, 23), 1, [], (0, 0))
def rX6_passes : List zm_R := [(0, .aload_n 0, 0, [], 0, 0, (0, 0), false, []),
  (1, .iload_n 1, 0, [], 0, 0, (0, 0), false, []),
  (2, .iconst 1, 0, [], 1, 0, (0, 0), false, []),
  (3, .iconst 1, 0, [], 1, 0, (0, 0), false, []),
  (4, .invokevirtual 7, 6, [0, 0, 4, 1, 0, 6], 0, 0, (0, 0), false, []),
  (7, .ireturn, 5, [1], 0, 0, (0, 0), false, [])]
def eX6_passes : List zm_M := [mX6_passes3]
noncomputable def vX6_passes : List (zm_M × zm_S) := [(mX6_passes3, sX6_passes3)]
noncomputable def sX6_passes : zm_S := zsem vX6_passes rX6_passes 2
set_option maxRecDepth 100000 in
theorem aX6_passes : zall RX6 mX6_passes eX6_passes rX6_passes = true := by decide +kernel
set_option maxRecDepth 100000 in
theorem wX6_passes : ∀ w ∈ zwds RX6 mX6_passes eX6_passes rX6_passes, w ∈ gT := zwd_of [1316, 1318, 36, 119, 1319] (by decide +kernel) (by decide +kernel) (z7_no (by decide +kernel))
set_option maxRecDepth 100000 in
theorem xX6_passes : ∀ w ∈ zwxs RX6 mX6_passes eX6_passes rX6_passes, zspc w = true ∧ w ∈ lw_tbl := by decide +kernel
theorem tX6_passes {l : Launch} (hlt : l.stackTraces = false) : MetA l mX6_passes sX6_passes := zmet (M := mX6_passes) (own := RX6) (envM := eX6_passes) hlt rfl (by decide +kernel) (by decide +kernel) rfl (fun j q hq => by
  match j, hq with
  | 0, hq => cases hq; exact tX6_passes3 hlt
  | n + 1, hq => cases hq) aX6_passes wX6_passes xX6_passes rfl
def mX6_layPlain : zm_M := (yX6_layPlain, cX6_layPlain, 2, none, (0, 0, 0, 0), 0, [], (0, 0))
def rX6_layPlain : List zm_R := [(0, .iconst 0, 0, [], 0, 0, (0, 0), false, []),
  (1, .istore_n 1, 0, [], 0, 0, (0, 0), false, []),
  (2, .iload_n 1, 0, [], 0, 0, (0, 0), true, []),
  (3, .sipush 149, 0, [], 149, 0, (0, 0), false, []),
  (6, .if_icmp .ge 16, 1, [12], 0, 0, (0, 0), false, []),
  (9, .aload_n 0, 0, [], 0, 0, (0, 0), false, []),
  (10, .getfield 24, 2, [6, 3, 27, 2], 0, 0, (0, 0), false, []),
  (13, .iload_n 1, 0, [], 0, 0, (0, 0), false, []),
  (14, .iconst 0, 0, [], 0, 0, (0, 0), false, []),
  (15, .iastore, 3, [0], 0, 0, (0, 0), false, []),
  (16, .iinc 1 1, 0, [], 1, 0, (0, 0), false, []),
  (19, .goto (-17), 1, [2], 0, 0, (0, 0), false, []),
  (22, .aload_n 0, 0, [], 0, 0, (0, 0), false, []),
  (23, .getfield 24, 2, [6, 3, 27, 2], 0, 0, (0, 0), false, []),
  (26, .iconst 3, 0, [], 3, 0, (0, 0), false, []),
  (27, .iconst (-1), 0, [], (-1), 0, (0, 0), false, []),
  (28, .iastore, 3, [0], 0, 0, (0, 0), false, []),
  (29, .aload_n 0, 0, [], 0, 0, (0, 0), false, []),
  (30, .getfield 24, 2, [6, 3, 27, 2], 0, 0, (0, 0), false, []),
  (33, .iconst 4, 0, [], 4, 0, (0, 0), false, []),
  (34, .iconst 1, 0, [], 1, 0, (0, 0), false, []),
  (35, .iastore, 3, [0], 0, 0, (0, 0), false, []),
  (36, .return_, 5, [], 0, 0, (0, 0), false, [])]
def eX6_layPlain : List zm_M := []
noncomputable def vX6_layPlain : List (zm_M × zm_S) := []
noncomputable def sX6_layPlain : zm_S := zsem vX6_layPlain rX6_layPlain 2
set_option maxRecDepth 100000 in
theorem aX6_layPlain : zall RX6 mX6_layPlain eX6_layPlain rX6_layPlain = true := by decide +kernel
set_option maxRecDepth 100000 in
theorem wX6_layPlain : ∀ w ∈ zwds RX6 mX6_layPlain eX6_layPlain rX6_layPlain, w ∈ gT := zwd_of [1229, 1229, 1229] (by decide +kernel) (by decide +kernel) (z7_no (by decide +kernel))
set_option maxRecDepth 100000 in
theorem xX6_layPlain : ∀ w ∈ zwxs RX6 mX6_layPlain eX6_layPlain rX6_layPlain, zspc w = true ∧ w ∈ lw_tbl := by decide +kernel
theorem tX6_layPlain {l : Launch} (hlt : l.stackTraces = false) : MetA l mX6_layPlain sX6_layPlain := zmet (M := mX6_layPlain) (own := RX6) (envM := eX6_layPlain) hlt rfl (by decide +kernel) (by decide +kernel) rfl (fun j q hq => by cases hq) aX6_layPlain wX6_layPlain xX6_layPlain rfl
def mX6_init : zm_M := (yX6_init, cX6_init, 1, none, (1, 13, 92464, 21), 0, [], (13, 92464))
def rX6_init : List zm_R := [(0, .aload_n 0, 0, [], 0, 0, (0, 0), false, []),
  (1, .invokespecial 11, 10, [], 0, 0, (0, 0), false, []),
  (4, .aload_n 0, 0, [], 0, 0, (0, 0), false, []),
  (5, .sipush 149, 0, [], 149, 0, (0, 0), false, []),
  (8, .newarray .int, 4, [0, 149], 0, 0, (0, 0), false, []),
  (10, .putfield 17, 2, [6, 1, 27, 2], 0, 0, (1, 149), true, []),
  (13, .aload_n 0, 0, [], 0, 0, (1, 149), false, []),
  (14, .sipush 149, 0, [], 149, 0, (1, 149), false, []),
  (17, .newarray .int, 4, [0, 149], 0, 0, (1, 149), false, []),
  (19, .putfield 21, 2, [6, 2, 27, 2], 0, 0, (2, 298), true, []),
  (22, .aload_n 0, 0, [], 0, 0, (2, 298), false, []),
  (23, .aload_n 0, 0, [], 0, 0, (2, 298), false, []),
  (24, .getfield 17, 2, [6, 1, 27, 2], 0, 0, (2, 298), false, []),
  (27, .putfield 24, 2, [6, 3, 27, 2], 0, 0, (2, 298), false, []),
  (30, .aload_n 0, 0, [], 0, 0, (2, 298), false, []),
  (31, .sipush 22528, 0, [], 22528, 0, (2, 298), false, []),
  (34, .newarray .long, 4, [1, 22528], 0, 0, (2, 298), false, []),
  (36, .putfield 27, 2, [6, 4, 27, 2], 0, 0, (3, 22826), true, []),
  (39, .aload_n 0, 0, [], 0, 0, (3, 22826), false, []),
  (40, .sipush 22528, 0, [], 22528, 0, (3, 22826), false, []),
  (43, .newarray .long, 4, [1, 22528], 0, 0, (3, 22826), false, []),
  (45, .putfield 31, 2, [6, 5, 27, 2], 0, 0, (4, 45354), true, []),
  (48, .aload_n 0, 0, [], 0, 0, (4, 45354), false, []),
  (49, .sipush 22528, 0, [], 22528, 0, (4, 45354), false, []),
  (52, .newarray .int, 4, [0, 22528], 0, 0, (4, 45354), false, []),
  (54, .putfield 34, 2, [6, 6, 27, 2], 0, 0, (5, 67882), true, []),
  (57, .aload_n 0, 0, [], 0, 0, (5, 67882), false, []),
  (58, .sipush 22528, 0, [], 22528, 0, (5, 67882), false, []),
  (61, .newarray .boolean, 4, [3, 22528], 0, 0, (5, 67882), false, []),
  (63, .putfield 37, 2, [6, 7, 27, 2], 0, 0, (6, 90410), true, []),
  (66, .aload_n 0, 0, [], 0, 0, (6, 90410), false, []),
  (67, .bipush 11, 0, [], 11, 0, (6, 90410), false, []),
  (69, .newarray .int, 4, [0, 11], 0, 0, (6, 90410), false, []),
  (71, .putfield 41, 2, [6, 8, 27, 2], 0, 0, (7, 90421), true, []),
  (74, .aload_n 0, 0, [], 0, 0, (7, 90421), false, []),
  (75, .sipush 149, 0, [], 149, 0, (7, 90421), false, []),
  (78, .newarray .int, 4, [0, 149], 0, 0, (7, 90421), false, []),
  (80, .putfield 44, 2, [6, 9, 27, 2], 0, 0, (8, 90570), true, []),
  (83, .aload_n 0, 0, [], 0, 0, (8, 90570), false, []),
  (84, .sipush 500, 0, [], 500, 0, (8, 90570), false, []),
  (87, .newarray .byte, 4, [2, 500], 0, 0, (8, 90570), false, []),
  (89, .putfield 47, 2, [6, 10, 27, 2], 0, 0, (9, 91070), true, []),
  (92, .aload_n 0, 0, [], 0, 0, (9, 91070), false, []),
  (93, .iconst (-1), 0, [], (-1), 0, (9, 91070), false, []),
  (94, .putfield 51, 2, [6, 18, 27, 0], 0, 0, (9, 91070), false, []),
  (97, .aload_n 0, 0, [], 0, 0, (9, 91070), false, []),
  (98, .sipush 298, 0, [], 298, 0, (9, 91070), false, []),
  (101, .newarray .int, 4, [0, 298], 0, 0, (9, 91070), false, []),
  (103, .putfield 54, 2, [6, 21, 27, 2], 0, 0, (10, 91368), true, []),
  (106, .aload_n 0, 0, [], 0, 0, (10, 91368), false, []),
  (107, .iconst 2, 0, [], 2, 0, (10, 91368), false, []),
  (108, .newarray .boolean, 4, [3, 2], 0, 0, (10, 91368), false, []),
  (110, .putfield 57, 2, [6, 22, 27, 2], 0, 0, (11, 91370), true, []),
  (113, .aload_n 0, 0, [], 0, 0, (11, 91370), false, []),
  (114, .sipush 894, 0, [], 894, 0, (11, 91370), false, []),
  (117, .newarray .int, 4, [0, 894], 0, 0, (11, 91370), false, []),
  (119, .putfield 60, 2, [6, 23, 27, 2], 0, 0, (12, 92264), true, []),
  (122, .aload_n 0, 0, [], 0, 0, (12, 92264), false, []),
  (123, .sipush 200, 0, [], 200, 0, (12, 92264), false, []),
  (126, .newarray .byte, 4, [2, 200], 0, 0, (12, 92264), false, []),
  (128, .putfield 63, 2, [6, 25, 27, 2], 0, 0, (13, 92464), true, []),
  (131, .aload_n 0, 0, [], 0, 0, (13, 92464), false, []),
  (132, .invokevirtual 66, 6, [0, 0, 1, 0, 0, 6], 0, 0, (13, 92464), false, []),
  (135, .aload_n 0, 0, [], 0, 0, (13, 92464), true, []),
  (136, .getfield 24, 2, [6, 3, 27, 2], 0, 0, (13, 92464), false, []),
  (139, .iconst 0, 0, [], 0, 0, (13, 92464), false, []),
  (140, .iconst 1, 0, [], 1, 0, (13, 92464), false, []),
  (141, .iastore, 3, [0], 0, 0, (13, 92464), false, []),
  (142, .return_, 5, [], 0, 0, (13, 92464), false, [])]
def eX6_init : List zm_M := [mX6_layPlain]
noncomputable def vX6_init : List (zm_M × zm_S) := [(mX6_layPlain, sX6_layPlain)]
noncomputable def sX6_init : zm_S := zsem vX6_init rX6_init 1
set_option maxRecDepth 100000 in
theorem aX6_init : zall RX6 mX6_init eX6_init rX6_init = true := by decide +kernel
set_option maxRecDepth 100000 in
theorem wX6_init : ∀ w ∈ zwds RX6 mX6_init eX6_init rX6_init, w ∈ gT := zwd_of [1221, 142, 143, 161, 1227, 161, 1228, 1227, 1229, 235, 1230, 235, 1231, 161, 1232, 236, 1233, 161, 1234, 161, 1235, 681, 1236, 1244, 161, 1247, 236, 1248, 161, 1249, 681, 1251, 1222, 1224, 34, 119, 1225, 1229] (by decide +kernel) (by decide +kernel) (z7_no (by decide +kernel))
set_option maxRecDepth 100000 in
theorem xX6_init : ∀ w ∈ zwxs RX6 mX6_init eX6_init rX6_init, zspc w = true ∧ w ∈ lw_tbl := by decide +kernel
theorem tX6_init {l : Launch} (hlt : l.stackTraces = false) : MetA l mX6_init sX6_init := zmet (M := mX6_init) (own := RX6) (envM := eX6_init) hlt rfl (by decide +kernel) (by decide +kernel) rfl (fun j q hq => by
  match j, hq with
  | 0, hq => cases hq; exact tX6_layPlain hlt
  | n + 1, hq => cases hq) aX6_init wX6_init xX6_init rfl
def mX6_rooms : zm_M := (yX6_rooms, cX6_rooms, 1, (some .int), (0, 0, 0, 0), 0, [], (0, 0))
def rX6_rooms : List zm_R := [(0, .aload_n 0, 0, [], 0, 0, (0, 0), false, []),
  (1, .getfield 24, 2, [6, 3, 27, 2], 0, 0, (0, 0), false, []),
  (4, .iconst 0, 0, [], 0, 0, (0, 0), false, []),
  (5, .iaload, 3, [0], 0, 0, (0, 0), false, []),
  (6, .ireturn, 5, [0], 0, 0, (0, 0), false, [])]
def eX6_rooms : List zm_M := []
noncomputable def vX6_rooms : List (zm_M × zm_S) := []
noncomputable def sX6_rooms : zm_S := zsem vX6_rooms rX6_rooms 1
set_option maxRecDepth 100000 in
theorem aX6_rooms : zall RX6 mX6_rooms eX6_rooms rX6_rooms = true := by decide +kernel
set_option maxRecDepth 100000 in
theorem wX6_rooms : ∀ w ∈ zwds RX6 mX6_rooms eX6_rooms rX6_rooms, w ∈ gT := zwd_of [1229] (by decide +kernel) (by decide +kernel) (z7_no (by decide +kernel))
set_option maxRecDepth 100000 in
theorem xX6_rooms : ∀ w ∈ zwxs RX6 mX6_rooms eX6_rooms rX6_rooms, zspc w = true ∧ w ∈ lw_tbl := by decide +kernel
theorem tX6_rooms {l : Launch} (hlt : l.stackTraces = false) : MetA l mX6_rooms sX6_rooms := zmet (M := mX6_rooms) (own := RX6) (envM := eX6_rooms) hlt rfl (by decide +kernel) (by decide +kernel) rfl (fun j q hq => by cases hq) aX6_rooms wX6_rooms xX6_rooms rfl
def mX6_doors : zm_M := (yX6_doors, cX6_doors, 1, (some .int), (0, 0, 0, 0), 0, [], (0, 0))
def rX6_doors : List zm_R := [(0, .aload_n 0, 0, [], 0, 0, (0, 0), false, []),
  (1, .getfield 24, 2, [6, 3, 27, 2], 0, 0, (0, 0), false, []),
  (4, .iconst 1, 0, [], 1, 0, (0, 0), false, []),
  (5, .iaload, 3, [0], 0, 0, (0, 0), false, []),
  (6, .ireturn, 5, [0], 0, 0, (0, 0), false, [])]
def eX6_doors : List zm_M := []
noncomputable def vX6_doors : List (zm_M × zm_S) := []
noncomputable def sX6_doors : zm_S := zsem vX6_doors rX6_doors 1
set_option maxRecDepth 100000 in
theorem aX6_doors : zall RX6 mX6_doors eX6_doors rX6_doors = true := by decide +kernel
set_option maxRecDepth 100000 in
theorem wX6_doors : ∀ w ∈ zwds RX6 mX6_doors eX6_doors rX6_doors, w ∈ gT := zwd_of [1229] (by decide +kernel) (by decide +kernel) (z7_no (by decide +kernel))
set_option maxRecDepth 100000 in
theorem xX6_doors : ∀ w ∈ zwxs RX6 mX6_doors eX6_doors rX6_doors, zspc w = true ∧ w ∈ lw_tbl := by decide +kernel
theorem tX6_doors {l : Launch} (hlt : l.stackTraces = false) : MetA l mX6_doors sX6_doors := zmet (M := mX6_doors) (own := RX6) (envM := eX6_doors) hlt rfl (by decide +kernel) (by decide +kernel) rfl (fun j q hq => by cases hq) aX6_doors wX6_doors xX6_doors rfl
def mX6_whole : zm_M := (yX6_whole, cX6_whole, 1, (some .int), (1, 0, 0, 20), 0, [], (0, 0))
def rX6_whole : List zm_R := [(0, .iconst 1, 0, [], 1, 0, (0, 0), false, []),
  (1, .aload_n 0, 0, [], 0, 0, (0, 0), false, []),
  (2, .invokevirtual 69, 6, [0, 0, 1, 1, 0, 6], 0, 0, (0, 0), false, []),
  (5, .ishl, 0, [], 0, 0, (0, 0), false, []),
  (6, .iconst 1, 0, [], 1, 0, (0, 0), false, []),
  (7, .isub, 0, [], 0, 0, (0, 0), false, []),
  (8, .ireturn, 5, [0], 0, 0, (0, 0), false, [])]
def eX6_whole : List zm_M := [mX6_rooms]
noncomputable def vX6_whole : List (zm_M × zm_S) := [(mX6_rooms, sX6_rooms)]
noncomputable def sX6_whole : zm_S := zsem vX6_whole rX6_whole 1
set_option maxRecDepth 100000 in
theorem aX6_whole : zall RX6 mX6_whole eX6_whole rX6_whole = true := by decide +kernel
set_option maxRecDepth 100000 in
theorem wX6_whole : ∀ w ∈ zwds RX6 mX6_whole eX6_whole rX6_whole, w ∈ gT := zwd_of [1421, 1423, 46, 119, 1424] (by decide +kernel) (by decide +kernel) (z7_no (by decide +kernel))
set_option maxRecDepth 100000 in
theorem xX6_whole : ∀ w ∈ zwxs RX6 mX6_whole eX6_whole rX6_whole, zspc w = true ∧ w ∈ lw_tbl := by decide +kernel
theorem tX6_whole {l : Launch} (hlt : l.stackTraces = false) : MetA l mX6_whole sX6_whole := zmet (M := mX6_whole) (own := RX6) (envM := eX6_whole) hlt rfl (by decide +kernel) (by decide +kernel) rfl (fun j q hq => by
  match j, hq with
  | 0, hq => cases hq; exact tX6_rooms hlt
  | n + 1, hq => cases hq) aX6_whole wX6_whole xX6_whole rfl
def mX6_ofRoom : zm_M := (yX6_ofRoom, cX6_ofRoom, 3, (some .int), (0, 0, 0, 0), 2, [], (0, 0))
def rX6_ofRoom : List zm_R := [(0, .aload_n 0, 0, [], 0, 0, (0, 0), false, []),
  (1, .getfield 24, 2, [6, 3, 27, 2], 0, 0, (0, 0), false, []),
  (4, .bipush 16, 0, [], 16, 0, (0, 0), false, []),
  (6, .iconst 3, 0, [], 3, 0, (0, 0), false, []),
  (7, .iload_n 1, 0, [], 0, 0, (0, 0), false, []),
  (8, .imul, 0, [], 0, 0, (0, 0), false, []),
  (9, .iadd, 0, [], 0, 0, (0, 0), false, []),
  (10, .iload_n 2, 0, [], 0, 0, (0, 0), false, []),
  (11, .iadd, 0, [], 0, 0, (0, 0), false, []),
  (12, .iaload, 3, [0], 0, 0, (0, 0), false, []),
  (13, .ireturn, 5, [0], 0, 0, (0, 0), false, [])]
def eX6_ofRoom : List zm_M := []
noncomputable def vX6_ofRoom : List (zm_M × zm_S) := []
noncomputable def sX6_ofRoom : zm_S := zsem vX6_ofRoom rX6_ofRoom 3
set_option maxRecDepth 100000 in
theorem aX6_ofRoom : zall RX6 mX6_ofRoom eX6_ofRoom rX6_ofRoom = true := by decide +kernel
set_option maxRecDepth 100000 in
theorem wX6_ofRoom : ∀ w ∈ zwds RX6 mX6_ofRoom eX6_ofRoom rX6_ofRoom, w ∈ gT := zwd_of [1229] (by decide +kernel) (by decide +kernel) (z7_no (by decide +kernel))
set_option maxRecDepth 100000 in
theorem xX6_ofRoom : ∀ w ∈ zwxs RX6 mX6_ofRoom eX6_ofRoom rX6_ofRoom, zspc w = true ∧ w ∈ lw_tbl := by decide +kernel
theorem tX6_ofRoom {l : Launch} (hlt : l.stackTraces = false) : MetA l mX6_ofRoom sX6_ofRoom := zmet (M := mX6_ofRoom) (own := RX6) (envM := eX6_ofRoom) hlt rfl (by decide +kernel) (by decide +kernel) rfl (fun j q hq => by cases hq) aX6_ofRoom wX6_ofRoom xX6_ofRoom rfl
def mX6_ofDoor : zm_M := (yX6_ofDoor, cX6_ofDoor, 3, (some .int), (0, 0, 0, 0), 2, [], (0, 0))
def rX6_ofDoor : List zm_R := [(0, .aload_n 0, 0, [], 0, 0, (0, 0), false, []),
  (1, .getfield 24, 2, [6, 3, 27, 2], 0, 0, (0, 0), false, []),
  (4, .bipush 49, 0, [], 49, 0, (0, 0), false, []),
  (6, .iconst 5, 0, [], 5, 0, (0, 0), false, []),
  (7, .iload_n 1, 0, [], 0, 0, (0, 0), false, []),
  (8, .imul, 0, [], 0, 0, (0, 0), false, []),
  (9, .iadd, 0, [], 0, 0, (0, 0), false, []),
  (10, .iload_n 2, 0, [], 0, 0, (0, 0), false, []),
  (11, .iadd, 0, [], 0, 0, (0, 0), false, []),
  (12, .iaload, 3, [0], 0, 0, (0, 0), false, []),
  (13, .ireturn, 5, [0], 0, 0, (0, 0), false, [])]
def eX6_ofDoor : List zm_M := []
noncomputable def vX6_ofDoor : List (zm_M × zm_S) := []
noncomputable def sX6_ofDoor : zm_S := zsem vX6_ofDoor rX6_ofDoor 3
set_option maxRecDepth 100000 in
theorem aX6_ofDoor : zall RX6 mX6_ofDoor eX6_ofDoor rX6_ofDoor = true := by decide +kernel
set_option maxRecDepth 100000 in
theorem wX6_ofDoor : ∀ w ∈ zwds RX6 mX6_ofDoor eX6_ofDoor rX6_ofDoor, w ∈ gT := zwd_of [1229] (by decide +kernel) (by decide +kernel) (z7_no (by decide +kernel))
set_option maxRecDepth 100000 in
theorem xX6_ofDoor : ∀ w ∈ zwxs RX6 mX6_ofDoor eX6_ofDoor rX6_ofDoor, zspc w = true ∧ w ∈ lw_tbl := by decide +kernel
theorem tX6_ofDoor {l : Launch} (hlt : l.stackTraces = false) : MetA l mX6_ofDoor sX6_ofDoor := zmet (M := mX6_ofDoor) (own := RX6) (envM := eX6_ofDoor) hlt rfl (by decide +kernel) (by decide +kernel) rfl (fun j q hq => by cases hq) aX6_ofDoor wX6_ofDoor xX6_ofDoor rfl
def mX6_isRoom : zm_M := (yX6_isRoom, cX6_isRoom, 2, (some .boolean), (1, 0, 0, 25), 1, [], (0, 0))
def rX6_isRoom : List zm_R := [(0, .iload_n 1, 0, [], 0, 0, (0, 0), false, []),
  (1, .i2l, 0, [], 0, 0, (0, 0), false, []),
  (2, .lconst 0, 0, [], 0, 0, (0, 0), false, []),
  (3, .aload_n 0, 0, [], 0, 0, (0, 0), false, []),
  (4, .invokevirtual 69, 6, [0, 0, 1, 1, 0, 6], 0, 0, (0, 0), false, []),
  (7, .iconst 1, 0, [], 1, 0, (0, 0), false, []),
  (8, .isub, 0, [], 0, 0, (0, 0), false, []),
  (9, .i2l, 0, [], 0, 0, (0, 0), false, []),
  (10, .invokestatic 73, 6, [1, 1, 3, 1, 0, 6], 0, 0, (0, 0), false, []),
  (13, .ireturn, 5, [1], 0, 0, (0, 0), false, [])]
def eX6_isRoom : List zm_M := [mX6_rooms, mX6_in]
noncomputable def vX6_isRoom : List (zm_M × zm_S) := [(mX6_rooms, sX6_rooms), (mX6_in, sX6_in)]
noncomputable def sX6_isRoom : zm_S := zsem vX6_isRoom rX6_isRoom 2
set_option maxRecDepth 100000 in
theorem aX6_isRoom : zall RX6 mX6_isRoom eX6_isRoom rX6_isRoom = true := by decide +kernel
set_option maxRecDepth 100000 in
theorem wX6_isRoom : ∀ w ∈ zwds RX6 mX6_isRoom eX6_isRoom rX6_isRoom, w ∈ gT := zwd_of [1421, 1423, 46, 119, 1424, 1328, 1329, 119, 1330] (by decide +kernel) (by decide +kernel) (z7_no (by decide +kernel))
set_option maxRecDepth 100000 in
theorem xX6_isRoom : ∀ w ∈ zwxs RX6 mX6_isRoom eX6_isRoom rX6_isRoom, zspc w = true ∧ w ∈ lw_tbl := by decide +kernel
theorem tX6_isRoom {l : Launch} (hlt : l.stackTraces = false) : MetA l mX6_isRoom sX6_isRoom := zmet (M := mX6_isRoom) (own := RX6) (envM := eX6_isRoom) hlt rfl (by decide +kernel) (by decide +kernel) rfl (fun j q hq => by
  match j, hq with
  | 0, hq => cases hq; exact tX6_rooms hlt
  | 1, hq => cases hq; exact tX6_in hlt
  | n + 2, hq => cases hq) aX6_isRoom wX6_isRoom xX6_isRoom rfl
def mX6_isDoor : zm_M := (yX6_isDoor, cX6_isDoor, 2, (some .boolean), (1, 0, 0, 25), 1, [], (0, 0))
def rX6_isDoor : List zm_R := [(0, .iload_n 1, 0, [], 0, 0, (0, 0), false, []),
  (1, .i2l, 0, [], 0, 0, (0, 0), false, []),
  (2, .lconst 0, 0, [], 0, 0, (0, 0), false, []),
  (3, .aload_n 0, 0, [], 0, 0, (0, 0), false, []),
  (4, .invokevirtual 77, 6, [0, 0, 1, 1, 0, 6], 0, 0, (0, 0), false, []),
  (7, .iconst 1, 0, [], 1, 0, (0, 0), false, []),
  (8, .isub, 0, [], 0, 0, (0, 0), false, []),
  (9, .i2l, 0, [], 0, 0, (0, 0), false, []),
  (10, .invokestatic 73, 6, [1, 1, 3, 1, 0, 6], 0, 0, (0, 0), false, []),
  (13, .ireturn, 5, [1], 0, 0, (0, 0), false, [])]
def eX6_isDoor : List zm_M := [mX6_doors, mX6_in]
noncomputable def vX6_isDoor : List (zm_M × zm_S) := [(mX6_doors, sX6_doors), (mX6_in, sX6_in)]
noncomputable def sX6_isDoor : zm_S := zsem vX6_isDoor rX6_isDoor 2
set_option maxRecDepth 100000 in
theorem aX6_isDoor : zall RX6 mX6_isDoor eX6_isDoor rX6_isDoor = true := by decide +kernel
set_option maxRecDepth 100000 in
theorem wX6_isDoor : ∀ w ∈ zwds RX6 mX6_isDoor eX6_isDoor rX6_isDoor, w ∈ gT := zwd_of [1482, 1484, 58, 119, 1485, 1328, 1329, 119, 1330] (by decide +kernel) (by decide +kernel) (z7_no (by decide +kernel))
set_option maxRecDepth 100000 in
theorem xX6_isDoor : ∀ w ∈ zwxs RX6 mX6_isDoor eX6_isDoor rX6_isDoor, zspc w = true ∧ w ∈ lw_tbl := by decide +kernel
theorem tX6_isDoor {l : Launch} (hlt : l.stackTraces = false) : MetA l mX6_isDoor sX6_isDoor := zmet (M := mX6_isDoor) (own := RX6) (envM := eX6_isDoor) hlt rfl (by decide +kernel) (by decide +kernel) rfl (fun j q hq => by
  match j, hq with
  | 0, hq => cases hq; exact tX6_doors hlt
  | 1, hq => cases hq; exact tX6_in hlt
  | n + 2, hq => cases hq) aX6_isDoor wX6_isDoor xX6_isDoor rfl
def mX6_isKey : zm_M := (yX6_isKey, cX6_isKey, 1, (some .boolean), (1, 0, 0, 25), 1, [], (0, 0))
def rX6_isKey : List zm_R := [(0, .iload_n 0, 0, [], 0, 0, (0, 0), false, []),
  (1, .i2l, 0, [], 0, 0, (0, 0), false, []),
  (2, .lconst 0, 0, [], 0, 0, (0, 0), false, []),
  (3, .ldc2_w 80, 9, [1], 0, 7, (0, 0), false, []),
  (6, .invokestatic 73, 6, [1, 0, 3, 1, 0, 6], 0, 0, (0, 0), false, []),
  (9, .ireturn, 5, [1], 0, 0, (0, 0), false, [])]
def eX6_isKey : List zm_M := [mX6_in]
noncomputable def vX6_isKey : List (zm_M × zm_S) := [(mX6_in, sX6_in)]
noncomputable def sX6_isKey : zm_S := zsem vX6_isKey rX6_isKey 1
set_option maxRecDepth 100000 in
theorem aX6_isKey : zall RX6 mX6_isKey eX6_isKey rX6_isKey = true := by decide +kernel
set_option maxRecDepth 100000 in
theorem wX6_isKey : ∀ w ∈ zwds RX6 mX6_isKey eX6_isKey rX6_isKey, w ∈ gT := zwd_of [1598, 1328, 1329, 119, 1330] (by decide +kernel) (by decide +kernel) (z7_no (by decide +kernel))
set_option maxRecDepth 100000 in
theorem xX6_isKey : ∀ w ∈ zwxs RX6 mX6_isKey eX6_isKey rX6_isKey, zspc w = true ∧ w ∈ lw_tbl := by decide +kernel
theorem tX6_isKey {l : Launch} (hlt : l.stackTraces = false) : MetA l mX6_isKey sX6_isKey := zmet (M := mX6_isKey) (own := RX6) (envM := eX6_isKey) hlt rfl (by decide +kernel) (by decide +kernel) rfl (fun j q hq => by
  match j, hq with
  | 0, hq => cases hq; exact tX6_in hlt
  | n + 1, hq => cases hq) aX6_isKey wX6_isKey xX6_isKey rfl
def mX6_walkedAt : zm_M := (yX6_walkedAt, cX6_walkedAt, 2, (some .int), (0, 0, 0, 0), 1, [], (0, 0))
def rX6_walkedAt : List zm_R := [(0, .aload_n 0, 0, [], 0, 0, (0, 0), false, []),
  (1, .getfield 24, 2, [6, 3, 27, 2], 0, 0, (0, 0), false, []),
  (4, .iconst 5, 0, [], 5, 0, (0, 0), false, []),
  (5, .iload_n 1, 0, [], 0, 0, (0, 0), false, []),
  (6, .iadd, 0, [], 0, 0, (0, 0), false, []),
  (7, .iaload, 3, [0], 0, 0, (0, 0), false, []),
  (8, .ireturn, 5, [0], 0, 0, (0, 0), false, [])]
def eX6_walkedAt : List zm_M := []
noncomputable def vX6_walkedAt : List (zm_M × zm_S) := []
noncomputable def sX6_walkedAt : zm_S := zsem vX6_walkedAt rX6_walkedAt 2
set_option maxRecDepth 100000 in
theorem aX6_walkedAt : zall RX6 mX6_walkedAt eX6_walkedAt rX6_walkedAt = true := by decide +kernel
set_option maxRecDepth 100000 in
theorem wX6_walkedAt : ∀ w ∈ zwds RX6 mX6_walkedAt eX6_walkedAt rX6_walkedAt, w ∈ gT := zwd_of [1229] (by decide +kernel) (by decide +kernel) (z7_no (by decide +kernel))
set_option maxRecDepth 100000 in
theorem xX6_walkedAt : ∀ w ∈ zwxs RX6 mX6_walkedAt eX6_walkedAt rX6_walkedAt, zspc w = true ∧ w ∈ lw_tbl := by decide +kernel
theorem tX6_walkedAt {l : Launch} (hlt : l.stackTraces = false) : MetA l mX6_walkedAt sX6_walkedAt := zmet (M := mX6_walkedAt) (own := RX6) (envM := eX6_walkedAt) hlt rfl (by decide +kernel) (by decide +kernel) rfl (fun j q hq => by cases hq) aX6_walkedAt wX6_walkedAt xX6_walkedAt rfl
def mX6_lastRoom : zm_M := (yX6_lastRoom, cX6_lastRoom, 1, (some .int), (1, 0, 0, 21), 0, [], (0, 0))
def rX6_lastRoom : List zm_R := [(0, .aload_n 0, 0, [], 0, 0, (0, 0), false, []),
  (1, .aload_n 0, 0, [], 0, 0, (0, 0), false, []),
  (2, .getfield 24, 2, [6, 3, 27, 2], 0, 0, (0, 0), false, []),
  (5, .iconst 4, 0, [], 4, 0, (0, 0), false, []),
  (6, .iaload, 3, [0], 0, 0, (0, 0), false, []),
  (7, .iconst 1, 0, [], 1, 0, (0, 0), false, []),
  (8, .isub, 0, [], 0, 0, (0, 0), false, []),
  (9, .invokevirtual 82, 6, [0, 0, 2, 1, 0, 6], 0, 0, (0, 0), false, []),
  (12, .ireturn, 5, [0], 0, 0, (0, 0), false, [])]
def eX6_lastRoom : List zm_M := [mX6_walkedAt]
noncomputable def vX6_lastRoom : List (zm_M × zm_S) := [(mX6_walkedAt, sX6_walkedAt)]
noncomputable def sX6_lastRoom : zm_S := zsem vX6_lastRoom rX6_lastRoom 1
set_option maxRecDepth 100000 in
theorem aX6_lastRoom : zall RX6 mX6_lastRoom eX6_lastRoom rX6_lastRoom = true := by decide +kernel
set_option maxRecDepth 100000 in
theorem wX6_lastRoom : ∀ w ∈ zwds RX6 mX6_lastRoom eX6_lastRoom rX6_lastRoom, w ∈ gT := zwd_of [1229, 1529, 1531, 65, 119, 1532] (by decide +kernel) (by decide +kernel) (z7_no (by decide +kernel))
set_option maxRecDepth 100000 in
theorem xX6_lastRoom : ∀ w ∈ zwxs RX6 mX6_lastRoom eX6_lastRoom rX6_lastRoom, zspc w = true ∧ w ∈ lw_tbl := by decide +kernel
theorem tX6_lastRoom {l : Launch} (hlt : l.stackTraces = false) : MetA l mX6_lastRoom sX6_lastRoom := zmet (M := mX6_lastRoom) (own := RX6) (envM := eX6_lastRoom) hlt rfl (by decide +kernel) (by decide +kernel) rfl (fun j q hq => by
  match j, hq with
  | 0, hq => cases hq; exact tX6_walkedAt hlt
  | n + 1, hq => cases hq) aX6_lastRoom wX6_lastRoom xX6_lastRoom rfl
def mX6_walkSet : zm_M := (yX6_walkSet, cX6_walkSet, 3, (some .int), (1, 0, 0, 21), 0, [], (0, 0))
def rX6_walkSet : List zm_R := [(0, .iconst 0, 0, [], 0, 0, (0, 0), false, []),
  (1, .istore_n 1, 0, [], 0, 0, (0, 0), false, []),
  (2, .iconst 0, 0, [], 0, 0, (0, 0), false, []),
  (3, .istore_n 2, 0, [], 0, 0, (0, 0), false, []),
  (4, .iload_n 2, 0, [], 0, 0, (0, 0), true, []),
  (5, .aload_n 0, 0, [], 0, 0, (0, 0), false, []),
  (6, .getfield 24, 2, [6, 3, 27, 2], 0, 0, (0, 0), false, []),
  (9, .iconst 4, 0, [], 4, 0, (0, 0), false, []),
  (10, .iaload, 3, [0], 0, 0, (0, 0), false, []),
  (11, .if_icmp .ge 19, 1, [20], 0, 0, (0, 0), false, []),
  (14, .iload_n 1, 0, [], 0, 0, (0, 0), false, []),
  (15, .iconst 1, 0, [], 1, 0, (0, 0), false, []),
  (16, .aload_n 0, 0, [], 0, 0, (0, 0), false, []),
  (17, .iload_n 2, 0, [], 0, 0, (0, 0), false, []),
  (18, .invokevirtual 82, 6, [0, 0, 2, 1, 0, 6], 0, 0, (0, 0), false, []),
  (21, .ishl, 0, [], 0, 0, (0, 0), false, []),
  (22, .ior, 0, [], 0, 0, (0, 0), false, []),
  (23, .istore_n 1, 0, [], 0, 0, (0, 0), false, []),
  (24, .iinc 2 1, 0, [], 1, 0, (0, 0), false, []),
  (27, .goto (-23), 1, [4], 0, 0, (0, 0), false, []),
  (30, .iload_n 1, 0, [], 0, 0, (0, 0), false, []),
  (31, .ireturn, 5, [0], 0, 0, (0, 0), false, [])]
def eX6_walkSet : List zm_M := [mX6_walkedAt]
noncomputable def vX6_walkSet : List (zm_M × zm_S) := [(mX6_walkedAt, sX6_walkedAt)]
noncomputable def sX6_walkSet : zm_S := zsem vX6_walkSet rX6_walkSet 3
set_option maxRecDepth 100000 in
theorem aX6_walkSet : zall RX6 mX6_walkSet eX6_walkSet rX6_walkSet = true := by decide +kernel
set_option maxRecDepth 100000 in
theorem wX6_walkSet : ∀ w ∈ zwds RX6 mX6_walkSet eX6_walkSet rX6_walkSet, w ∈ gT := zwd_of [1229, 1529, 1531, 65, 119, 1532] (by decide +kernel) (by decide +kernel) (z7_no (by decide +kernel))
set_option maxRecDepth 100000 in
theorem xX6_walkSet : ∀ w ∈ zwxs RX6 mX6_walkSet eX6_walkSet rX6_walkSet, zspc w = true ∧ w ∈ lw_tbl := by decide +kernel
theorem tX6_walkSet {l : Launch} (hlt : l.stackTraces = false) : MetA l mX6_walkSet sX6_walkSet := zmet (M := mX6_walkSet) (own := RX6) (envM := eX6_walkSet) hlt rfl (by decide +kernel) (by decide +kernel) rfl (fun j q hq => by
  match j, hq with
  | 0, hq => cases hq; exact tX6_walkedAt hlt
  | n + 1, hq => cases hq) aX6_walkSet wX6_walkSet xX6_walkSet rfl
def mX6_keysIn : zm_M := (yX6_keysIn, cX6_keysIn, 4, (some .int), (1, 0, 0, 22), 1, [], (0, 0))
def rX6_keysIn : List zm_R := [(0, .iconst 0, 0, [], 0, 0, (0, 0), false, []),
  (1, .istore_n 2, 0, [], 0, 0, (0, 0), false, []),
  (2, .iconst 0, 0, [], 0, 0, (0, 0), false, []),
  (3, .istore_n 3, 0, [], 0, 0, (0, 0), false, []),
  (4, .iload_n 3, 0, [], 0, 0, (0, 0), true, []),
  (5, .aload_n 0, 0, [], 0, 0, (0, 0), false, []),
  (6, .invokevirtual 69, 6, [0, 0, 1, 1, 0, 6], 0, 0, (0, 0), false, []),
  (9, .if_icmp .ge 30, 1, [23], 0, 0, (0, 0), false, []),
  (12, .iload_n 2, 0, [], 0, 0, (0, 0), false, []),
  (13, .iload_n 1, 0, [], 0, 0, (0, 0), false, []),
  (14, .iload_n 3, 0, [], 0, 0, (0, 0), false, []),
  (15, .invokestatic 86, 6, [1, 1, 2, 1, 0, 6], 0, 0, (0, 0), false, []),
  (18, .ifCond .eq 12, 1, [18], 0, 0, (0, 0), false, []),
  (21, .aload_n 0, 0, [], 0, 0, (0, 0), false, []),
  (22, .iload_n 3, 0, [], 0, 0, (0, 0), false, []),
  (23, .iconst 0, 0, [], 0, 0, (0, 0), false, []),
  (24, .invokevirtual 90, 6, [0, 2, 3, 1, 0, 6], 0, 0, (0, 0), false, []),
  (27, .goto 4, 1, [19], 0, 0, (0, 0), false, []),
  (30, .iconst 0, 0, [], 0, 0, (0, 0), false, []),
  (31, .ior, 0, [], 0, 0, (0, 0), false, []),
  (32, .istore_n 2, 0, [], 0, 0, (0, 0), false, []),
  (33, .iinc 3 1, 0, [], 1, 0, (0, 0), false, []),
  (36, .goto (-32), 1, [4], 0, 0, (0, 0), false, []),
  (39, .iload_n 2, 0, [], 0, 0, (0, 0), false, []),
  (40, .ireturn, 5, [0], 0, 0, (0, 0), false, [])]
def eX6_keysIn : List zm_M := [mX6_rooms, mX6_has, mX6_ofRoom]
noncomputable def vX6_keysIn : List (zm_M × zm_S) := [(mX6_rooms, sX6_rooms), (mX6_has, sX6_has), (mX6_ofRoom, sX6_ofRoom)]
noncomputable def sX6_keysIn : zm_S := zsem vX6_keysIn rX6_keysIn 4
set_option maxRecDepth 100000 in
theorem aX6_keysIn : zall RX6 mX6_keysIn eX6_keysIn rX6_keysIn = true := by decide +kernel
set_option maxRecDepth 100000 in
theorem wX6_keysIn : ∀ w ∈ zwds RX6 mX6_keysIn eX6_keysIn rX6_keysIn, w ∈ gT := zwd_of [1421, 1423, 46, 119, 1424, 1463, 1464, 119, 1465, 1451, 1453, 51, 119, 1454] (by decide +kernel) (by decide +kernel) (z7_no (by decide +kernel))
set_option maxRecDepth 100000 in
theorem xX6_keysIn : ∀ w ∈ zwxs RX6 mX6_keysIn eX6_keysIn rX6_keysIn, zspc w = true ∧ w ∈ lw_tbl := by decide +kernel
theorem tX6_keysIn {l : Launch} (hlt : l.stackTraces = false) : MetA l mX6_keysIn sX6_keysIn := zmet (M := mX6_keysIn) (own := RX6) (envM := eX6_keysIn) hlt rfl (by decide +kernel) (by decide +kernel) rfl (fun j q hq => by
  match j, hq with
  | 0, hq => cases hq; exact tX6_rooms hlt
  | 1, hq => cases hq; exact tX6_has hlt
  | 2, hq => cases hq; exact tX6_ofRoom hlt
  | n + 3, hq => cases hq) aX6_keysIn wX6_keysIn xX6_keysIn rfl
def mX6_coinsIn : zm_M := (yX6_coinsIn, cX6_coinsIn, 4, (some .int), (1, 0, 0, 22), 1, [], (0, 0))
def rX6_coinsIn : List zm_R := [(0, .iconst 0, 0, [], 0, 0, (0, 0), false, []),
  (1, .istore_n 2, 0, [], 0, 0, (0, 0), false, []),
  (2, .iconst 0, 0, [], 0, 0, (0, 0), false, []),
  (3, .istore_n 3, 0, [], 0, 0, (0, 0), false, []),
  (4, .iload_n 3, 0, [], 0, 0, (0, 0), true, []),
  (5, .aload_n 0, 0, [], 0, 0, (0, 0), false, []),
  (6, .invokevirtual 69, 6, [0, 0, 1, 1, 0, 6], 0, 0, (0, 0), false, []),
  (9, .if_icmp .ge 30, 1, [23], 0, 0, (0, 0), false, []),
  (12, .iload_n 2, 0, [], 0, 0, (0, 0), false, []),
  (13, .iload_n 1, 0, [], 0, 0, (0, 0), false, []),
  (14, .iload_n 3, 0, [], 0, 0, (0, 0), false, []),
  (15, .invokestatic 86, 6, [1, 1, 2, 1, 0, 6], 0, 0, (0, 0), false, []),
  (18, .ifCond .eq 12, 1, [18], 0, 0, (0, 0), false, []),
  (21, .aload_n 0, 0, [], 0, 0, (0, 0), false, []),
  (22, .iload_n 3, 0, [], 0, 0, (0, 0), false, []),
  (23, .iconst 1, 0, [], 1, 0, (0, 0), false, []),
  (24, .invokevirtual 90, 6, [0, 2, 3, 1, 0, 6], 0, 0, (0, 0), false, []),
  (27, .goto 4, 1, [19], 0, 0, (0, 0), false, []),
  (30, .iconst 0, 0, [], 0, 0, (0, 0), false, []),
  (31, .iadd, 0, [], 0, 0, (0, 0), false, []),
  (32, .istore_n 2, 0, [], 0, 0, (0, 0), false, []),
  (33, .iinc 3 1, 0, [], 1, 0, (0, 0), false, []),
  (36, .goto (-32), 1, [4], 0, 0, (0, 0), false, []),
  (39, .iload_n 2, 0, [], 0, 0, (0, 0), false, []),
  (40, .ireturn, 5, [0], 0, 0, (0, 0), false, [])]
def eX6_coinsIn : List zm_M := [mX6_rooms, mX6_has, mX6_ofRoom]
noncomputable def vX6_coinsIn : List (zm_M × zm_S) := [(mX6_rooms, sX6_rooms), (mX6_has, sX6_has), (mX6_ofRoom, sX6_ofRoom)]
noncomputable def sX6_coinsIn : zm_S := zsem vX6_coinsIn rX6_coinsIn 4
set_option maxRecDepth 100000 in
theorem aX6_coinsIn : zall RX6 mX6_coinsIn eX6_coinsIn rX6_coinsIn = true := by decide +kernel
set_option maxRecDepth 100000 in
theorem wX6_coinsIn : ∀ w ∈ zwds RX6 mX6_coinsIn eX6_coinsIn rX6_coinsIn, w ∈ gT := zwd_of [1421, 1423, 46, 119, 1424, 1463, 1464, 119, 1465, 1451, 1453, 51, 119, 1454] (by decide +kernel) (by decide +kernel) (z7_no (by decide +kernel))
set_option maxRecDepth 100000 in
theorem xX6_coinsIn : ∀ w ∈ zwxs RX6 mX6_coinsIn eX6_coinsIn rX6_coinsIn, zspc w = true ∧ w ∈ lw_tbl := by decide +kernel
theorem tX6_coinsIn {l : Launch} (hlt : l.stackTraces = false) : MetA l mX6_coinsIn sX6_coinsIn := zmet (M := mX6_coinsIn) (own := RX6) (envM := eX6_coinsIn) hlt rfl (by decide +kernel) (by decide +kernel) rfl (fun j q hq => by
  match j, hq with
  | 0, hq => cases hq; exact tX6_rooms hlt
  | 1, hq => cases hq; exact tX6_has hlt
  | 2, hq => cases hq; exact tX6_ofRoom hlt
  | n + 3, hq => cases hq) aX6_coinsIn wX6_coinsIn xX6_coinsIn rfl
def mX6_isOpen : zm_M := (yX6_isOpen, cX6_isOpen, 5, (some .boolean), (1, 0, 0, 22), 3, [], (0, 0))
def rX6_isOpen : List zm_R := [(0, .aload_n 0, 0, [], 0, 0, (0, 0), false, []),
  (1, .iload_n 1, 0, [], 0, 0, (0, 0), false, []),
  (2, .iconst 2, 0, [], 2, 0, (0, 0), false, []),
  (3, .invokevirtual 94, 6, [0, 0, 3, 1, 0, 6], 0, 0, (0, 0), false, []),
  (6, .istore 4, 0, [], 0, 0, (0, 0), false, []),
  (8, .iload 4, 0, [], 0, 0, (0, 0), false, []),
  (10, .ifCond .eq 38, 1, [26], 0, 0, (0, 0), false, []),
  (13, .iload 4, 0, [], 0, 0, (0, 0), false, []),
  (15, .iconst 1, 0, [], 1, 0, (0, 0), false, []),
  (16, .if_icmp .ne 16, 1, [17], 0, 0, (0, 0), false, []),
  (19, .iload_n 2, 0, [], 0, 0, (0, 0), false, []),
  (20, .aload_n 0, 0, [], 0, 0, (0, 0), false, []),
  (21, .iload_n 1, 0, [], 0, 0, (0, 0), false, []),
  (22, .iconst 3, 0, [], 3, 0, (0, 0), false, []),
  (23, .invokevirtual 94, 6, [0, 0, 3, 1, 0, 6], 0, 0, (0, 0), false, []),
  (26, .invokestatic 86, 6, [1, 1, 2, 1, 0, 6], 0, 0, (0, 0), false, []),
  (29, .ifCond .ne 19, 1, [26], 0, 0, (0, 0), false, []),
  (32, .iload 4, 0, [], 0, 0, (0, 0), false, []),
  (34, .iconst 2, 0, [], 2, 0, (0, 0), false, []),
  (35, .if_icmp .ne 17, 1, [28], 0, 0, (0, 0), false, []),
  (38, .iload_n 3, 0, [], 0, 0, (0, 0), false, []),
  (39, .aload_n 0, 0, [], 0, 0, (0, 0), false, []),
  (40, .iload_n 1, 0, [], 0, 0, (0, 0), false, []),
  (41, .iconst 3, 0, [], 3, 0, (0, 0), false, []),
  (42, .invokevirtual 94, 6, [0, 0, 3, 1, 0, 6], 0, 0, (0, 0), false, []),
  (45, .if_icmp .lt 7, 1, [28], 0, 0, (0, 0), false, []),
  (48, .iconst 1, 0, [], 1, 0, (0, 0), false, []),
  (49, .goto 4, 1, [29], 0, 0, (0, 0), false, []),
  (52, .iconst 0, 0, [], 0, 0, (0, 0), false, []),
  (53, .ireturn, 5, [1], 0, 0, (0, 0), false, [])]
def eX6_isOpen : List zm_M := [mX6_ofDoor, mX6_has]
noncomputable def vX6_isOpen : List (zm_M × zm_S) := [(mX6_ofDoor, sX6_ofDoor), (mX6_has, sX6_has)]
noncomputable def sX6_isOpen : zm_S := zsem vX6_isOpen rX6_isOpen 5
set_option maxRecDepth 100000 in
theorem aX6_isOpen : zall RX6 mX6_isOpen eX6_isOpen rX6_isOpen = true := by decide +kernel
set_option maxRecDepth 100000 in
theorem wX6_isOpen : ∀ w ∈ zwds RX6 mX6_isOpen eX6_isOpen rX6_isOpen, w ∈ gT := zwd_of [1562, 1564, 72, 119, 1565, 1562, 1564, 72, 119, 1565, 1463, 1464, 119, 1465, 1562, 1564, 72, 119, 1565] (by decide +kernel) (by decide +kernel) (z7_no (by decide +kernel))
set_option maxRecDepth 100000 in
theorem xX6_isOpen : ∀ w ∈ zwxs RX6 mX6_isOpen eX6_isOpen rX6_isOpen, zspc w = true ∧ w ∈ lw_tbl := by decide +kernel
theorem tX6_isOpen {l : Launch} (hlt : l.stackTraces = false) : MetA l mX6_isOpen sX6_isOpen := zmet (M := mX6_isOpen) (own := RX6) (envM := eX6_isOpen) hlt rfl (by decide +kernel) (by decide +kernel) rfl (fun j q hq => by
  match j, hq with
  | 0, hq => cases hq; exact tX6_ofDoor hlt
  | 1, hq => cases hq; exact tX6_has hlt
  | n + 2, hq => cases hq) aX6_isOpen wX6_isOpen xX6_isOpen rfl
def mX6_through : zm_M := (yX6_through, cX6_through, 3, (some .int), (1, 0, 0, 22), 2, [], (0, 0))
def rX6_through : List zm_R := [(0, .aload_n 0, 0, [], 0, 0, (0, 0), false, []),
  (1, .iload_n 1, 0, [], 0, 0, (0, 0), false, []),
  (2, .iconst 0, 0, [], 0, 0, (0, 0), false, []),
  (3, .invokevirtual 94, 6, [0, 0, 3, 1, 0, 6], 0, 0, (0, 0), false, []),
  (6, .iload_n 2, 0, [], 0, 0, (0, 0), false, []),
  (7, .if_icmp .ne 10, 1, [11], 0, 0, (0, 0), false, []),
  (10, .aload_n 0, 0, [], 0, 0, (0, 0), false, []),
  (11, .iload_n 1, 0, [], 0, 0, (0, 0), false, []),
  (12, .iconst 1, 0, [], 1, 0, (0, 0), false, []),
  (13, .invokevirtual 94, 6, [0, 0, 3, 1, 0, 6], 0, 0, (0, 0), false, []),
  (16, .ireturn, 5, [0], 0, 0, (0, 0), false, []),
  (17, .aload_n 0, 0, [], 0, 0, (0, 0), false, []),
  (18, .iload_n 1, 0, [], 0, 0, (0, 0), false, []),
  (19, .iconst 1, 0, [], 1, 0, (0, 0), false, []),
  (20, .invokevirtual 94, 6, [0, 0, 3, 1, 0, 6], 0, 0, (0, 0), false, []),
  (23, .iload_n 2, 0, [], 0, 0, (0, 0), false, []),
  (24, .if_icmp .ne 21, 1, [27], 0, 0, (0, 0), false, []),
  (27, .aload_n 0, 0, [], 0, 0, (0, 0), false, []),
  (28, .iload_n 1, 0, [], 0, 0, (0, 0), false, []),
  (29, .iconst 4, 0, [], 4, 0, (0, 0), false, []),
  (30, .invokevirtual 94, 6, [0, 0, 3, 1, 0, 6], 0, 0, (0, 0), false, []),
  (33, .ifCond .ne 12, 1, [27], 0, 0, (0, 0), false, []),
  (36, .aload_n 0, 0, [], 0, 0, (0, 0), false, []),
  (37, .iload_n 1, 0, [], 0, 0, (0, 0), false, []),
  (38, .iconst 0, 0, [], 0, 0, (0, 0), false, []),
  (39, .invokevirtual 94, 6, [0, 0, 3, 1, 0, 6], 0, 0, (0, 0), false, []),
  (42, .goto 4, 1, [28], 0, 0, (0, 0), false, []),
  (45, .iconst (-1), 0, [], (-1), 0, (0, 0), false, []),
  (46, .ireturn, 5, [0], 0, 0, (0, 0), false, [])]
def eX6_through : List zm_M := [mX6_ofDoor]
noncomputable def vX6_through : List (zm_M × zm_S) := [(mX6_ofDoor, sX6_ofDoor)]
noncomputable def sX6_through : zm_S := zsem vX6_through rX6_through 3
set_option maxRecDepth 100000 in
theorem aX6_through : zall RX6 mX6_through eX6_through rX6_through = true := by decide +kernel
set_option maxRecDepth 100000 in
theorem wX6_through : ∀ w ∈ zwds RX6 mX6_through eX6_through rX6_through, w ∈ gT := zwd_of [1562, 1564, 72, 119, 1565, 1562, 1564, 72, 119, 1565, 1562, 1564, 72, 119, 1565, 1562, 1564, 72, 119, 1565, 1562, 1564, 72, 119, 1565] (by decide +kernel) (by decide +kernel) (z7_no (by decide +kernel))
set_option maxRecDepth 100000 in
theorem xX6_through : ∀ w ∈ zwxs RX6 mX6_through eX6_through rX6_through, zspc w = true ∧ w ∈ lw_tbl := by decide +kernel
theorem tX6_through {l : Launch} (hlt : l.stackTraces = false) : MetA l mX6_through sX6_through := zmet (M := mX6_through) (own := RX6) (envM := eX6_through) hlt rfl (by decide +kernel) (by decide +kernel) rfl (fun j q hq => by
  match j, hq with
  | 0, hq => cases hq; exact tX6_ofDoor hlt
  | n + 1, hq => cases hq) aX6_through wX6_through xX6_through rfl
def mX6_leads : zm_M := (yX6_leads, cX6_leads, 8, (some .int), (2, 0, 0, 46), 2, [], (0, 0))
def rX6_leads : List zm_R := [(0, .aload_n 0, 0, [], 0, 0, (0, 0), false, []),
  (1, .iload_n 2, 0, [], 0, 0, (0, 0), false, []),
  (2, .invokevirtual 97, 6, [0, 0, 2, 1, 0, 6], 0, 0, (0, 0), false, []),
  (5, .istore_n 3, 0, [], 0, 0, (0, 0), false, []),
  (6, .aload_n 0, 0, [], 0, 0, (0, 0), false, []),
  (7, .iload_n 2, 0, [], 0, 0, (0, 0), false, []),
  (8, .invokevirtual 100, 6, [0, 1, 2, 1, 0, 6], 0, 0, (0, 0), false, []),
  (11, .istore 4, 0, [], 0, 0, (0, 0), false, []),
  (13, .iconst 0, 0, [], 0, 0, (0, 0), false, []),
  (14, .istore 5, 0, [], 0, 0, (0, 0), false, []),
  (16, .iconst 0, 0, [], 0, 0, (0, 0), false, []),
  (17, .istore 6, 0, [], 0, 0, (0, 0), false, []),
  (19, .iload 6, 0, [], 0, 0, (0, 0), true, [2, 7]),
  (21, .aload_n 0, 0, [], 0, 0, (0, 0), false, []),
  (22, .invokevirtual 77, 6, [0, 2, 1, 1, 0, 6], 0, 0, (0, 0), false, []),
  (25, .if_icmp .ge 49, 1, [40], 0, 0, (0, 0), false, []),
  (28, .aload_n 0, 0, [], 0, 0, (0, 0), false, []),
  (29, .iload 6, 0, [], 0, 0, (0, 0), false, []),
  (31, .iload_n 1, 0, [], 0, 0, (0, 0), false, []),
  (32, .invokevirtual 103, 6, [0, 3, 3, 1, 0, 6], 0, 0, (0, 0), false, []),
  (35, .istore 7, 0, [], 0, 0, (0, 0), false, []),
  (37, .iload 5, 0, [], 0, 0, (0, 0), false, []),
  (39, .iload 7, 0, [], 0, 0, (0, 0), false, []),
  (41, .iconst (-1), 0, [], (-1), 0, (0, 0), false, []),
  (42, .if_icmp .eq 22, 1, [35], 0, 0, (0, 0), false, []),
  (45, .aload_n 0, 0, [], 0, 0, (0, 0), false, []),
  (46, .iload 6, 0, [], 0, 0, (0, 0), false, []),
  (48, .iload_n 3, 0, [], 0, 0, (0, 0), false, []),
  (49, .iload 4, 0, [], 0, 0, (0, 0), false, []),
  (51, .invokevirtual 106, 6, [0, 4, 4, 1, 0, 6], 0, 0, (0, 0), false, []),
  (54, .ifCond .eq 10, 1, [35], 0, 0, (0, 0), false, []),
  (57, .iconst 1, 0, [], 1, 0, (0, 0), false, []),
  (58, .iload 7, 0, [], 0, 0, (0, 0), false, []),
  (60, .ishl, 0, [], 0, 0, (0, 0), false, []),
  (61, .goto 4, 1, [36], 0, 0, (0, 0), false, []),
  (64, .iconst 0, 0, [], 0, 0, (0, 0), false, []),
  (65, .ior, 0, [], 0, 0, (0, 0), false, []),
  (66, .istore 5, 0, [], 0, 0, (0, 0), false, []),
  (68, .iinc 6 1, 0, [], 1, 0, (0, 0), false, []),
  (71, .goto (-52), 1, [12], 0, 0, (0, 0), false, []),
  (74, .iload 5, 0, [], 0, 0, (0, 0), false, []),
  (76, .ireturn, 5, [0], 0, 0, (0, 0), false, [])]
def eX6_leads : List zm_M := [mX6_keysIn, mX6_coinsIn, mX6_doors, mX6_through, mX6_isOpen]
noncomputable def vX6_leads : List (zm_M × zm_S) := [(mX6_keysIn, sX6_keysIn), (mX6_coinsIn, sX6_coinsIn), (mX6_doors, sX6_doors), (mX6_through, sX6_through), (mX6_isOpen, sX6_isOpen)]
noncomputable def sX6_leads : zm_S := zsem vX6_leads rX6_leads 8
set_option maxRecDepth 100000 in
theorem aX6_leads : zall RX6 mX6_leads eX6_leads rX6_leads = true := by decide +kernel
set_option maxRecDepth 100000 in
theorem wX6_leads : ∀ w ∈ zwds RX6 mX6_leads eX6_leads rX6_leads, w ∈ gT := zwd_of [1537, 1539, 67, 119, 1540, 1541, 1543, 68, 119, 1544, 1482, 1484, 58, 119, 1485, 1607, 1609, 78, 119, 1610, 1583, 1585, 76, 119, 1586] (by decide +kernel) (by decide +kernel) (z7_no (by decide +kernel))
set_option maxRecDepth 100000 in
theorem xX6_leads : ∀ w ∈ zwxs RX6 mX6_leads eX6_leads rX6_leads, zspc w = true ∧ w ∈ lw_tbl := by decide +kernel
theorem tX6_leads {l : Launch} (hlt : l.stackTraces = false) : MetA l mX6_leads sX6_leads := zmet (M := mX6_leads) (own := RX6) (envM := eX6_leads) hlt rfl (by decide +kernel) (by decide +kernel) rfl (fun j q hq => by
  match j, hq with
  | 0, hq => cases hq; exact tX6_keysIn hlt
  | 1, hq => cases hq; exact tX6_coinsIn hlt
  | 2, hq => cases hq; exact tX6_doors hlt
  | 3, hq => cases hq; exact tX6_through hlt
  | 4, hq => cases hq; exact tX6_isOpen hlt
  | n + 5, hq => cases hq) aX6_leads wX6_leads xX6_leads rfl
def mX6_layNext : zm_M := (yX6_layNext, cX6_layNext, 4, none, (1, 0, 0, 21), 3, [], (0, 0))
def rX6_layNext : List zm_R := [(0, .iload_n 1, 0, [], 0, 0, (0, 0), false, []),
  (1, .iload_n 3, 0, [], 0, 0, (0, 0), false, []),
  (2, .invokestatic 86, 6, [1, 0, 2, 1, 0, 6], 0, 0, (0, 0), false, []),
  (5, .ifCond .ne 20, 1, [18], 0, 0, (0, 0), false, []),
  (8, .aload_n 0, 0, [], 0, 0, (0, 0), false, []),
  (9, .getfield 34, 2, [6, 6, 27, 2], 0, 0, (0, 0), false, []),
  (12, .bipush 11, 0, [], 11, 0, (0, 0), false, []),
  (14, .iload_n 1, 0, [], 0, 0, (0, 0), false, []),
  (15, .imul, 0, [], 0, 0, (0, 0), false, []),
  (16, .iload_n 2, 0, [], 0, 0, (0, 0), false, []),
  (17, .iadd, 0, [], 0, 0, (0, 0), false, []),
  (18, .dup2, 0, [], 0, 0, (0, 0), false, []),
  (19, .iaload, 3, [0], 0, 0, (0, 0), false, []),
  (20, .iconst 1, 0, [], 1, 0, (0, 0), false, []),
  (21, .iload_n 3, 0, [], 0, 0, (0, 0), false, []),
  (22, .ishl, 0, [], 0, 0, (0, 0), false, []),
  (23, .ior, 0, [], 0, 0, (0, 0), false, []),
  (24, .iastore, 3, [0], 0, 0, (0, 0), false, []),
  (25, .return_, 5, [], 0, 0, (0, 0), false, [])]
def eX6_layNext : List zm_M := [mX6_has]
noncomputable def vX6_layNext : List (zm_M × zm_S) := [(mX6_has, sX6_has)]
noncomputable def sX6_layNext : zm_S := zsem vX6_layNext rX6_layNext 4
set_option maxRecDepth 100000 in
theorem aX6_layNext : zall RX6 mX6_layNext eX6_layNext rX6_layNext = true := by decide +kernel
set_option maxRecDepth 100000 in
theorem wX6_layNext : ∀ w ∈ zwds RX6 mX6_layNext eX6_layNext rX6_layNext, w ∈ gT := zwd_of [1463, 1464, 119, 1465, 1232] (by decide +kernel) (by decide +kernel) (z7_no (by decide +kernel))
set_option maxRecDepth 100000 in
theorem xX6_layNext : ∀ w ∈ zwxs RX6 mX6_layNext eX6_layNext rX6_layNext, zspc w = true ∧ w ∈ lw_tbl := by decide +kernel
theorem tX6_layNext {l : Launch} (hlt : l.stackTraces = false) : MetA l mX6_layNext sX6_layNext := zmet (M := mX6_layNext) (own := RX6) (envM := eX6_layNext) hlt rfl (by decide +kernel) (by decide +kernel) rfl (fun j q hq => by
  match j, hq with
  | 0, hq => cases hq; exact tX6_has hlt
  | n + 1, hq => cases hq) aX6_layNext wX6_layNext xX6_layNext rfl
def mX6_layNexts : zm_M := (yX6_layNexts, cX6_layNexts, 5, none, (2, 0, 0, 46), 0, [], (0, 0))
def rX6_layNexts : List zm_R := [(0, .iconst 1, 0, [], 1, 0, (0, 0), false, []),
  (1, .istore_n 1, 0, [], 0, 0, (0, 0), false, []),
  (2, .iload_n 1, 0, [], 0, 0, (0, 0), true, [2, 3, 4]),
  (3, .aload_n 0, 0, [], 0, 0, (0, 0), false, []),
  (4, .invokevirtual 110, 6, [0, 0, 1, 1, 0, 6], 0, 0, (0, 0), false, []),
  (7, .if_icmp .gt 129, 1, [74], 0, 0, (0, 0), false, []),
  (10, .aload_n 0, 0, [], 0, 0, (0, 0), false, []),
  (11, .iload_n 1, 0, [], 0, 0, (0, 0), false, []),
  (12, .invokevirtual 97, 6, [0, 1, 2, 1, 0, 6], 0, 0, (0, 0), false, []),
  (15, .istore_n 2, 0, [], 0, 0, (0, 0), false, []),
  (16, .aload_n 0, 0, [], 0, 0, (0, 0), false, []),
  (17, .iload_n 1, 0, [], 0, 0, (0, 0), false, []),
  (18, .invokevirtual 100, 6, [0, 2, 2, 1, 0, 6], 0, 0, (0, 0), false, []),
  (21, .istore_n 3, 0, [], 0, 0, (0, 0), false, []),
  (22, .iconst 0, 0, [], 0, 0, (0, 0), false, []),
  (23, .istore 4, 0, [], 0, 0, (0, 0), false, []),
  (25, .iload 4, 0, [], 0, 0, (0, 0), true, []),
  (27, .aload_n 0, 0, [], 0, 0, (0, 0), false, []),
  (28, .invokevirtual 69, 6, [0, 3, 1, 1, 0, 6], 0, 0, (0, 0), false, []),
  (31, .if_icmp .ge 22, 1, [31], 0, 0, (0, 0), false, []),
  (34, .aload_n 0, 0, [], 0, 0, (0, 0), false, []),
  (35, .getfield 34, 2, [6, 6, 27, 2], 0, 0, (0, 0), false, []),
  (38, .bipush 11, 0, [], 11, 0, (0, 0), false, []),
  (40, .iload_n 1, 0, [], 0, 0, (0, 0), false, []),
  (41, .imul, 0, [], 0, 0, (0, 0), false, []),
  (42, .iload 4, 0, [], 0, 0, (0, 0), false, []),
  (44, .iadd, 0, [], 0, 0, (0, 0), false, []),
  (45, .iconst 0, 0, [], 0, 0, (0, 0), false, []),
  (46, .iastore, 3, [0], 0, 0, (0, 0), false, []),
  (47, .iinc 4 1, 0, [], 1, 0, (0, 0), false, []),
  (50, .goto (-25), 1, [16], 0, 0, (0, 0), false, []),
  (53, .iconst 0, 0, [], 0, 0, (0, 0), false, []),
  (54, .istore 4, 0, [], 0, 0, (0, 0), false, []),
  (56, .iload 4, 0, [], 0, 0, (0, 0), true, []),
  (58, .aload_n 0, 0, [], 0, 0, (0, 0), false, []),
  (59, .invokevirtual 77, 6, [0, 4, 1, 1, 0, 6], 0, 0, (0, 0), false, []),
  (62, .if_icmp .ge 68, 1, [72], 0, 0, (0, 0), false, []),
  (65, .aload_n 0, 0, [], 0, 0, (0, 0), false, []),
  (66, .iload 4, 0, [], 0, 0, (0, 0), false, []),
  (68, .iload_n 2, 0, [], 0, 0, (0, 0), false, []),
  (69, .iload_n 3, 0, [], 0, 0, (0, 0), false, []),
  (70, .invokevirtual 106, 6, [0, 5, 4, 1, 0, 6], 0, 0, (0, 0), false, []),
  (73, .ifCond .eq 51, 1, [70], 0, 0, (0, 0), false, []),
  (76, .aload_n 0, 0, [], 0, 0, (0, 0), false, []),
  (77, .iload_n 1, 0, [], 0, 0, (0, 0), false, []),
  (78, .aload_n 0, 0, [], 0, 0, (0, 0), false, []),
  (79, .iload 4, 0, [], 0, 0, (0, 0), false, []),
  (81, .iconst 0, 0, [], 0, 0, (0, 0), false, []),
  (82, .invokevirtual 94, 6, [0, 6, 3, 1, 0, 6], 0, 0, (0, 0), false, []),
  (85, .aload_n 0, 0, [], 0, 0, (0, 0), false, []),
  (86, .iload 4, 0, [], 0, 0, (0, 0), false, []),
  (88, .iconst 1, 0, [], 1, 0, (0, 0), false, []),
  (89, .invokevirtual 94, 6, [0, 6, 3, 1, 0, 6], 0, 0, (0, 0), false, []),
  (92, .invokevirtual 113, 6, [0, 7, 4, 0, 0, 6], 0, 0, (0, 0), false, []),
  (95, .aload_n 0, 0, [], 0, 0, (0, 0), false, []),
  (96, .iload 4, 0, [], 0, 0, (0, 0), false, []),
  (98, .iconst 4, 0, [], 4, 0, (0, 0), false, []),
  (99, .invokevirtual 94, 6, [0, 6, 3, 1, 0, 6], 0, 0, (0, 0), false, []),
  (102, .ifCond .ne 22, 1, [70], 0, 0, (0, 0), false, []),
  (105, .aload_n 0, 0, [], 0, 0, (0, 0), false, []),
  (106, .iload_n 1, 0, [], 0, 0, (0, 0), false, []),
  (107, .aload_n 0, 0, [], 0, 0, (0, 0), false, []),
  (108, .iload 4, 0, [], 0, 0, (0, 0), false, []),
  (110, .iconst 1, 0, [], 1, 0, (0, 0), false, []),
  (111, .invokevirtual 94, 6, [0, 6, 3, 1, 0, 6], 0, 0, (0, 0), false, []),
  (114, .aload_n 0, 0, [], 0, 0, (0, 0), false, []),
  (115, .iload 4, 0, [], 0, 0, (0, 0), false, []),
  (117, .iconst 0, 0, [], 0, 0, (0, 0), false, []),
  (118, .invokevirtual 94, 6, [0, 6, 3, 1, 0, 6], 0, 0, (0, 0), false, []),
  (121, .invokevirtual 113, 6, [0, 7, 4, 0, 0, 6], 0, 0, (0, 0), false, []),
  (124, .iinc 4 1, 0, [], 1, 0, (0, 0), false, []),
  (127, .goto (-71), 1, [33], 0, 0, (0, 0), false, []),
  (130, .iinc 1 1, 0, [], 1, 0, (0, 0), false, []),
  (133, .goto (-131), 1, [2], 0, 0, (0, 0), false, []),
  (136, .return_, 5, [], 0, 0, (0, 0), false, [])]
def eX6_layNexts : List zm_M := [mX6_whole, mX6_keysIn, mX6_coinsIn, mX6_rooms, mX6_doors, mX6_isOpen, mX6_ofDoor, mX6_layNext]
noncomputable def vX6_layNexts : List (zm_M × zm_S) := [(mX6_whole, sX6_whole), (mX6_keysIn, sX6_keysIn), (mX6_coinsIn, sX6_coinsIn), (mX6_rooms, sX6_rooms), (mX6_doors, sX6_doors), (mX6_isOpen, sX6_isOpen), (mX6_ofDoor, sX6_ofDoor), (mX6_layNext, sX6_layNext)]
noncomputable def sX6_layNexts : zm_S := zsem vX6_layNexts rX6_layNexts 5
set_option maxRecDepth 100000 in
theorem aX6_layNexts : zall RX6 mX6_layNexts eX6_layNexts rX6_layNexts = true := by decide +kernel
set_option maxRecDepth 100000 in
theorem wX6_layNexts : ∀ w ∈ zwds RX6 mX6_layNexts eX6_layNexts rX6_layNexts, w ∈ gT := zwd_of [1635, 1637, 83, 119, 1638, 1537, 1539, 67, 119, 1540, 1541, 1543, 68, 119, 1544, 1421, 1423, 46, 119, 1424, 1232, 1482, 1484, 58, 119, 1485, 1583, 1585, 76, 119, 1586, 1562, 1564, 72, 119, 1565, 1562, 1564, 72, 119, 1565, 1639, 1641, 84, 119, 1642, 1562, 1564, 72, 119, 1565, 1562, 1564, 72, 119, 1565, 1562, 1564, 72, 119, 1565, 1639, 1641, 84, 119, 1642] (by decide +kernel) (by decide +kernel) (z7_no (by decide +kernel))
set_option maxRecDepth 100000 in
theorem xX6_layNexts : ∀ w ∈ zwxs RX6 mX6_layNexts eX6_layNexts rX6_layNexts, zspc w = true ∧ w ∈ lw_tbl := by decide +kernel
theorem tX6_layNexts {l : Launch} (hlt : l.stackTraces = false) : MetA l mX6_layNexts sX6_layNexts := zmet (M := mX6_layNexts) (own := RX6) (envM := eX6_layNexts) hlt rfl (by decide +kernel) (by decide +kernel) rfl (fun j q hq => by
  match j, hq with
  | 0, hq => cases hq; exact tX6_whole hlt
  | 1, hq => cases hq; exact tX6_keysIn hlt
  | 2, hq => cases hq; exact tX6_coinsIn hlt
  | 3, hq => cases hq; exact tX6_rooms hlt
  | 4, hq => cases hq; exact tX6_doors hlt
  | 5, hq => cases hq; exact tX6_isOpen hlt
  | 6, hq => cases hq; exact tX6_ofDoor hlt
  | 7, hq => cases hq; exact tX6_layNext hlt
  | n + 8, hq => cases hq) aX6_layNexts wX6_layNexts xX6_layNexts rfl
def mX6_mayEnd : zm_M := (yX6_mayEnd, cX6_mayEnd, 3, (some .boolean), (0, 0, 0, 0), 2, [], (0, 0))
def rX6_mayEnd : List zm_R := [(0, .iload_n 2, 0, [], 0, 0, (0, 0), false, []),
  (1, .iconst (-1), 0, [], (-1), 0, (0, 0), false, []),
  (2, .if_icmp .eq 8, 1, [6], 0, 0, (0, 0), false, []),
  (5, .iload_n 1, 0, [], 0, 0, (0, 0), false, []),
  (6, .iload_n 2, 0, [], 0, 0, (0, 0), false, []),
  (7, .if_icmp .ne 7, 1, [8], 0, 0, (0, 0), false, []),
  (10, .iconst 1, 0, [], 1, 0, (0, 0), false, []),
  (11, .goto 4, 1, [9], 0, 0, (0, 0), false, []),
  (14, .iconst 0, 0, [], 0, 0, (0, 0), false, []),
  (15, .ireturn, 5, [1], 0, 0, (0, 0), false, [])]
def eX6_mayEnd : List zm_M := []
noncomputable def vX6_mayEnd : List (zm_M × zm_S) := []
noncomputable def sX6_mayEnd : zm_S := zsem vX6_mayEnd rX6_mayEnd 3
set_option maxRecDepth 100000 in
theorem aX6_mayEnd : zall RX6 mX6_mayEnd eX6_mayEnd rX6_mayEnd = true := by decide +kernel
set_option maxRecDepth 100000 in
theorem wX6_mayEnd : ∀ w ∈ zwds RX6 mX6_mayEnd eX6_mayEnd rX6_mayEnd, w ∈ gT := zwd_of [] (by decide +kernel) (by decide +kernel) (z7_no (by decide +kernel))
set_option maxRecDepth 100000 in
theorem xX6_mayEnd : ∀ w ∈ zwxs RX6 mX6_mayEnd eX6_mayEnd rX6_mayEnd, zspc w = true ∧ w ∈ lw_tbl := by decide +kernel
theorem tX6_mayEnd {l : Launch} (hlt : l.stackTraces = false) : MetA l mX6_mayEnd sX6_mayEnd := zmet (M := mX6_mayEnd) (own := RX6) (envM := eX6_mayEnd) hlt rfl (by decide +kernel) (by decide +kernel) rfl (fun j q hq => by cases hq) aX6_mayEnd wX6_mayEnd xX6_mayEnd rfl
def mX6_layWays : zm_M := (yX6_layWays, cX6_layWays, 11, none, (3, 0, 0, 70), 3, [], (0, 0))
def rX6_layWays : List zm_R := [(0, .aload_n 0, 0, [], 0, 0, (0, 0), false, []),
  (1, .invokevirtual 117, 6, [0, 0, 1, 0, 0, 6], 0, 0, (0, 0), false, []),
  (4, .aload_n 0, 0, [], 0, 0, (0, 0), false, []),
  (5, .invokevirtual 110, 6, [0, 1, 1, 1, 0, 6], 0, 0, (0, 0), false, []),
  (8, .istore 4, 0, [], 0, 0, (0, 0), false, []),
  (10, .iload 4, 0, [], 0, 0, (0, 0), true, [5, 6, 7, 8, 9, 10]),
  (12, .ifCond .le 193, 1, [102], 0, 0, (0, 0), false, []),
  (15, .iconst 0, 0, [], 0, 0, (0, 0), false, []),
  (16, .istore 5, 0, [], 0, 0, (0, 0), false, []),
  (18, .iload 5, 0, [], 0, 0, (0, 0), true, [6, 7, 8, 9, 10]),
  (20, .aload_n 0, 0, [], 0, 0, (0, 0), false, []),
  (21, .invokevirtual 69, 6, [0, 2, 1, 1, 0, 6], 0, 0, (0, 0), false, []),
  (24, .if_icmp .ge 175, 1, [100], 0, 0, (0, 0), false, []),
  (27, .iload 4, 0, [], 0, 0, (0, 0), false, []),
  (29, .aload_n 0, 0, [], 0, 0, (0, 0), false, []),
  (30, .invokevirtual 110, 6, [0, 1, 1, 1, 0, 6], 0, 0, (0, 0), false, []),
  (33, .if_icmp .ne 17, 1, [24], 0, 0, (0, 0), false, []),
  (36, .aload_n 0, 0, [], 0, 0, (0, 0), false, []),
  (37, .iload 5, 0, [], 0, 0, (0, 0), false, []),
  (39, .iload_n 1, 0, [], 0, 0, (0, 0), false, []),
  (40, .invokevirtual 120, 6, [0, 4, 3, 1, 0, 6], 0, 0, (0, 0), false, []),
  (43, .ifCond .eq 7, 1, [24], 0, 0, (0, 0), false, []),
  (46, .lconst 1, 0, [], 0, 1, (0, 0), false, []),
  (47, .goto 4, 1, [25], 0, 0, (0, 0), false, []),
  (50, .lconst 0, 0, [], 0, 0, (0, 0), false, []),
  (51, .lstore 6, 0, [], 0, 0, (0, 0), false, []),
  (53, .iload 4, 0, [], 0, 0, (0, 0), false, []),
  (55, .iload 5, 0, [], 0, 0, (0, 0), false, []),
  (57, .invokestatic 86, 6, [1, 3, 2, 1, 0, 6], 0, 0, (0, 0), false, []),
  (60, .ifCond .eq 19, 1, [39], 0, 0, (0, 0), false, []),
  (63, .aload_n 0, 0, [], 0, 0, (0, 0), false, []),
  (64, .getfield 34, 2, [6, 6, 27, 2], 0, 0, (0, 0), false, []),
  (67, .bipush 11, 0, [], 11, 0, (0, 0), false, []),
  (69, .iload 4, 0, [], 0, 0, (0, 0), false, []),
  (71, .imul, 0, [], 0, 0, (0, 0), false, []),
  (72, .iload 5, 0, [], 0, 0, (0, 0), false, []),
  (74, .iadd, 0, [], 0, 0, (0, 0), false, []),
  (75, .iaload, 3, [0], 0, 0, (0, 0), false, []),
  (76, .goto 4, 1, [40], 0, 0, (0, 0), false, []),
  (79, .iconst 0, 0, [], 0, 0, (0, 0), false, []),
  (80, .istore 8, 0, [], 0, 0, (0, 0), false, []),
  (82, .iconst 0, 0, [], 0, 0, (0, 0), false, []),
  (83, .istore 9, 0, [], 0, 0, (0, 0), false, []),
  (85, .iload 9, 0, [], 0, 0, (0, 0), true, [7, 10]),
  (87, .aload_n 0, 0, [], 0, 0, (0, 0), false, []),
  (88, .invokevirtual 69, 6, [0, 2, 1, 1, 0, 6], 0, 0, (0, 0), false, []),
  (91, .if_icmp .ge 73, 1, [83], 0, 0, (0, 0), false, []),
  (94, .iload 8, 0, [], 0, 0, (0, 0), false, []),
  (96, .iload 9, 0, [], 0, 0, (0, 0), false, []),
  (98, .invokestatic 86, 6, [1, 3, 2, 1, 0, 6], 0, 0, (0, 0), false, []),
  (101, .ifCond .eq 22, 1, [60], 0, 0, (0, 0), false, []),
  (104, .iload 9, 0, [], 0, 0, (0, 0), false, []),
  (106, .iload_n 3, 0, [], 0, 0, (0, 0), false, []),
  (107, .if_icmp .ne 12, 1, [58], 0, 0, (0, 0), false, []),
  (110, .iload 4, 0, [], 0, 0, (0, 0), false, []),
  (112, .iload_n 2, 0, [], 0, 0, (0, 0), false, []),
  (113, .invokestatic 86, 6, [1, 3, 2, 1, 0, 6], 0, 0, (0, 0), false, []),
  (116, .ifCond .eq 7, 1, [60], 0, 0, (0, 0), false, []),
  (119, .iconst 1, 0, [], 1, 0, (0, 0), false, []),
  (120, .goto 4, 1, [61], 0, 0, (0, 0), false, []),
  (123, .iconst 0, 0, [], 0, 0, (0, 0), false, []),
  (124, .istore 10, 0, [], 0, 0, (0, 0), false, []),
  (126, .lload 6, 0, [], 0, 0, (0, 0), false, []),
  (128, .iload 10, 0, [], 0, 0, (0, 0), false, []),
  (130, .ifCond .eq 24, 1, [78], 0, 0, (0, 0), false, []),
  (133, .aload_n 0, 0, [], 0, 0, (0, 0), false, []),
  (134, .getfield 27, 2, [6, 4, 27, 2], 0, 0, (0, 0), false, []),
  (137, .bipush 11, 0, [], 11, 0, (0, 0), false, []),
  (139, .iload 4, 0, [], 0, 0, (0, 0), false, []),
  (141, .iconst 1, 0, [], 1, 0, (0, 0), false, []),
  (142, .iload 9, 0, [], 0, 0, (0, 0), false, []),
  (144, .ishl, 0, [], 0, 0, (0, 0), false, []),
  (145, .ior, 0, [], 0, 0, (0, 0), false, []),
  (146, .imul, 0, [], 0, 0, (0, 0), false, []),
  (147, .iload 9, 0, [], 0, 0, (0, 0), false, []),
  (149, .iadd, 0, [], 0, 0, (0, 0), false, []),
  (150, .laload, 3, [1], 0, 0, (0, 0), false, []),
  (151, .goto 4, 1, [79], 0, 0, (0, 0), false, []),
  (154, .lconst 0, 0, [], 0, 0, (0, 0), false, []),
  (155, .ladd, 0, [], 0, 0, (0, 0), false, []),
  (156, .lstore 6, 0, [], 0, 0, (0, 0), false, []),
  (158, .iinc 9 1, 0, [], 1, 0, (0, 0), false, []),
  (161, .goto (-76), 1, [43], 0, 0, (0, 0), false, []),
  (164, .aload_n 0, 0, [], 0, 0, (0, 0), false, []),
  (165, .getfield 27, 2, [6, 4, 27, 2], 0, 0, (0, 0), false, []),
  (168, .bipush 11, 0, [], 11, 0, (0, 0), false, []),
  (170, .iload 4, 0, [], 0, 0, (0, 0), false, []),
  (172, .imul, 0, [], 0, 0, (0, 0), false, []),
  (173, .iload 5, 0, [], 0, 0, (0, 0), false, []),
  (175, .iadd, 0, [], 0, 0, (0, 0), false, []),
  (176, .iload 4, 0, [], 0, 0, (0, 0), false, []),
  (178, .iload 5, 0, [], 0, 0, (0, 0), false, []),
  (180, .invokestatic 86, 6, [1, 3, 2, 1, 0, 6], 0, 0, (0, 0), false, []),
  (183, .ifCond .eq 8, 1, [96], 0, 0, (0, 0), false, []),
  (186, .lload 6, 0, [], 0, 0, (0, 0), false, []),
  (188, .goto 4, 1, [97], 0, 0, (0, 0), false, []),
  (191, .lconst 0, 0, [], 0, 0, (0, 0), false, []),
  (192, .lastore, 3, [1], 0, 0, (0, 0), false, []),
  (193, .iinc 5 1, 0, [], 1, 0, (0, 0), false, []),
  (196, .goto (-178), 1, [9], 0, 0, (0, 0), false, []),
  (199, .iinc 4 (-1), 0, [], (-1), 0, (0, 0), false, []),
  (202, .goto (-192), 1, [5], 0, 0, (0, 0), false, []),
  (205, .return_, 5, [], 0, 0, (0, 0), false, [])]
def eX6_layWays : List zm_M := [mX6_layNexts, mX6_whole, mX6_rooms, mX6_has, mX6_mayEnd]
noncomputable def vX6_layWays : List (zm_M × zm_S) := [(mX6_layNexts, sX6_layNexts), (mX6_whole, sX6_whole), (mX6_rooms, sX6_rooms), (mX6_has, sX6_has), (mX6_mayEnd, sX6_mayEnd)]
noncomputable def sX6_layWays : zm_S := zsem vX6_layWays rX6_layWays 11
set_option maxRecDepth 100000 in
theorem aX6_layWays : zall RX6 mX6_layWays eX6_layWays rX6_layWays = true := by decide +kernel
set_option maxRecDepth 100000 in
theorem wX6_layWays : ∀ w ∈ zwds RX6 mX6_layWays eX6_layWays rX6_layWays, w ∈ gT := zwd_of [1631, 1633, 82, 119, 1634, 1635, 1637, 83, 119, 1638, 1421, 1423, 46, 119, 1424, 1635, 1637, 83, 119, 1638, 1643, 1645, 85, 119, 1646, 1463, 1464, 119, 1465, 1232, 1421, 1423, 46, 119, 1424, 1463, 1464, 119, 1465, 1463, 1464, 119, 1465, 1230, 1230, 1463, 1464, 119, 1465] (by decide +kernel) (by decide +kernel) (z7_no (by decide +kernel))
set_option maxRecDepth 100000 in
theorem xX6_layWays : ∀ w ∈ zwxs RX6 mX6_layWays eX6_layWays rX6_layWays, zspc w = true ∧ w ∈ lw_tbl := by decide +kernel
theorem tX6_layWays {l : Launch} (hlt : l.stackTraces = false) : MetA l mX6_layWays sX6_layWays := zmet (M := mX6_layWays) (own := RX6) (envM := eX6_layWays) hlt rfl (by decide +kernel) (by decide +kernel) rfl (fun j q hq => by
  match j, hq with
  | 0, hq => cases hq; exact tX6_layNexts hlt
  | 1, hq => cases hq; exact tX6_whole hlt
  | 2, hq => cases hq; exact tX6_rooms hlt
  | 3, hq => cases hq; exact tX6_has hlt
  | 4, hq => cases hq; exact tX6_mayEnd hlt
  | n + 5, hq => cases hq) aX6_layWays wX6_layWays xX6_layWays rfl
def mX6_waysOf : zm_M := (yX6_waysOf, cX6_waysOf, 3, (some .long), (0, 0, 0, 0), 2, [], (0, 0))
def rX6_waysOf : List zm_R := [(0, .aload_n 0, 0, [], 0, 0, (0, 0), false, []),
  (1, .getfield 27, 2, [6, 4, 27, 2], 0, 0, (0, 0), false, []),
  (4, .bipush 11, 0, [], 11, 0, (0, 0), false, []),
  (6, .iload_n 1, 0, [], 0, 0, (0, 0), false, []),
  (7, .imul, 0, [], 0, 0, (0, 0), false, []),
  (8, .iload_n 2, 0, [], 0, 0, (0, 0), false, []),
  (9, .iadd, 0, [], 0, 0, (0, 0), false, []),
  (10, .laload, 3, [1], 0, 0, (0, 0), false, []),
  (11, .lreturn, 5, [], 0, 0, (0, 0), false, [])]
def eX6_waysOf : List zm_M := []
noncomputable def vX6_waysOf : List (zm_M × zm_S) := []
noncomputable def sX6_waysOf : zm_S := zsem vX6_waysOf rX6_waysOf 3
set_option maxRecDepth 100000 in
theorem aX6_waysOf : zall RX6 mX6_waysOf eX6_waysOf rX6_waysOf = true := by decide +kernel
set_option maxRecDepth 100000 in
theorem wX6_waysOf : ∀ w ∈ zwds RX6 mX6_waysOf eX6_waysOf rX6_waysOf, w ∈ gT := zwd_of [1230] (by decide +kernel) (by decide +kernel) (z7_no (by decide +kernel))
set_option maxRecDepth 100000 in
theorem xX6_waysOf : ∀ w ∈ zwxs RX6 mX6_waysOf eX6_waysOf rX6_waysOf, zspc w = true ∧ w ∈ lw_tbl := by decide +kernel
theorem tX6_waysOf {l : Launch} (hlt : l.stackTraces = false) : MetA l mX6_waysOf sX6_waysOf := zmet (M := mX6_waysOf) (own := RX6) (envM := eX6_waysOf) hlt rfl (by decide +kernel) (by decide +kernel) rfl (fun j q hq => by cases hq) aX6_waysOf wX6_waysOf xX6_waysOf rfl
def mX6_toursFromRoom : zm_M := (yX6_toursFromRoom, cX6_toursFromRoom, 2, (some .long), (1, 0, 0, 22), 1, [], (0, 0))
def rX6_toursFromRoom : List zm_R := [(0, .aload_n 0, 0, [], 0, 0, (0, 0), false, []),
  (1, .iconst 1, 0, [], 1, 0, (0, 0), false, []),
  (2, .iload_n 1, 0, [], 0, 0, (0, 0), false, []),
  (3, .ishl, 0, [], 0, 0, (0, 0), false, []),
  (4, .iload_n 1, 0, [], 0, 0, (0, 0), false, []),
  (5, .invokevirtual 123, 6, [0, 0, 3, 2, 0, 6], 0, 0, (0, 0), false, []),
  (8, .lreturn, 5, [], 0, 0, (0, 0), false, [])]
def eX6_toursFromRoom : List zm_M := [mX6_waysOf]
noncomputable def vX6_toursFromRoom : List (zm_M × zm_S) := [(mX6_waysOf, sX6_waysOf)]
noncomputable def sX6_toursFromRoom : zm_S := zsem vX6_toursFromRoom rX6_toursFromRoom 2
set_option maxRecDepth 100000 in
theorem aX6_toursFromRoom : zall RX6 mX6_toursFromRoom eX6_toursFromRoom rX6_toursFromRoom = true := by decide +kernel
set_option maxRecDepth 100000 in
theorem wX6_toursFromRoom : ∀ w ∈ zwds RX6 mX6_toursFromRoom eX6_toursFromRoom rX6_toursFromRoom, w ∈ gT := zwd_of [1651, 1653, 87, 119, 1654] (by decide +kernel) (by decide +kernel) (z7_no (by decide +kernel))
set_option maxRecDepth 100000 in
theorem xX6_toursFromRoom : ∀ w ∈ zwxs RX6 mX6_toursFromRoom eX6_toursFromRoom rX6_toursFromRoom, zspc w = true ∧ w ∈ lw_tbl := by decide +kernel
theorem tX6_toursFromRoom {l : Launch} (hlt : l.stackTraces = false) : MetA l mX6_toursFromRoom sX6_toursFromRoom := zmet (M := mX6_toursFromRoom) (own := RX6) (envM := eX6_toursFromRoom) hlt rfl (by decide +kernel) (by decide +kernel) rfl (fun j q hq => by
  match j, hq with
  | 0, hq => cases hq; exact tX6_waysOf hlt
  | n + 1, hq => cases hq) aX6_toursFromRoom wX6_toursFromRoom xX6_toursFromRoom rfl
def mX6_toursNow : zm_M := (yX6_toursNow, cX6_toursNow, 1, (some .long), (4, 0, 0, 100), 0, [], (0, 0))
def rX6_toursNow : List zm_R := [(0, .aload_n 0, 0, [], 0, 0, (0, 0), false, []),
  (1, .aload_n 0, 0, [], 0, 0, (0, 0), false, []),
  (2, .getfield 24, 2, [6, 3, 27, 2], 0, 0, (0, 0), false, []),
  (5, .iconst 3, 0, [], 3, 0, (0, 0), false, []),
  (6, .iaload, 3, [0], 0, 0, (0, 0), false, []),
  (7, .iconst 0, 0, [], 0, 0, (0, 0), false, []),
  (8, .iconst (-1), 0, [], (-1), 0, (0, 0), false, []),
  (9, .invokevirtual 127, 6, [0, 0, 4, 0, 0, 6], 0, 0, (0, 0), false, []),
  (12, .aload_n 0, 0, [], 0, 0, (0, 0), false, []),
  (13, .aload_n 0, 0, [], 0, 0, (0, 0), false, []),
  (14, .getfield 24, 2, [6, 3, 27, 2], 0, 0, (0, 0), false, []),
  (17, .iconst 2, 0, [], 2, 0, (0, 0), false, []),
  (18, .iaload, 3, [0], 0, 0, (0, 0), false, []),
  (19, .invokevirtual 130, 6, [0, 1, 2, 2, 0, 6], 0, 0, (0, 0), false, []),
  (22, .lreturn, 5, [], 0, 0, (0, 0), false, [])]
def eX6_toursNow : List zm_M := [mX6_layWays, mX6_toursFromRoom]
noncomputable def vX6_toursNow : List (zm_M × zm_S) := [(mX6_layWays, sX6_layWays), (mX6_toursFromRoom, sX6_toursFromRoom)]
noncomputable def sX6_toursNow : zm_S := zsem vX6_toursNow rX6_toursNow 1
set_option maxRecDepth 100000 in
theorem aX6_toursNow : zall RX6 mX6_toursNow eX6_toursNow rX6_toursNow = true := by decide +kernel
set_option maxRecDepth 100000 in
theorem wX6_toursNow : ∀ w ∈ zwds RX6 mX6_toursNow eX6_toursNow rX6_toursNow, w ∈ gT := zwd_of [1229, 1627, 1629, 81, 119, 1630, 1229, 1647, 1649, 86, 119, 1650] (by decide +kernel) (by decide +kernel) (z7_no (by decide +kernel))
set_option maxRecDepth 100000 in
theorem xX6_toursNow : ∀ w ∈ zwxs RX6 mX6_toursNow eX6_toursNow rX6_toursNow, zspc w = true ∧ w ∈ lw_tbl := by decide +kernel
theorem tX6_toursNow {l : Launch} (hlt : l.stackTraces = false) : MetA l mX6_toursNow sX6_toursNow := zmet (M := mX6_toursNow) (own := RX6) (envM := eX6_toursNow) hlt rfl (by decide +kernel) (by decide +kernel) rfl (fun j q hq => by
  match j, hq with
  | 0, hq => cases hq; exact tX6_layWays hlt
  | 1, hq => cases hq; exact tX6_toursFromRoom hlt
  | n + 2, hq => cases hq) aX6_toursNow wX6_toursNow xX6_toursNow rfl
def mX6_layComes : zm_M := (yX6_layComes, cX6_layComes, 6, none, (3, 0, 0, 70), 0, [], (0, 0))
def rX6_layComes : List zm_R := [(0, .aload_n 0, 0, [], 0, 0, (0, 0), false, []),
  (1, .invokevirtual 117, 6, [0, 0, 1, 0, 0, 6], 0, 0, (0, 0), false, []),
  (4, .iconst 0, 0, [], 0, 0, (0, 0), false, []),
  (5, .istore_n 1, 0, [], 0, 0, (0, 0), false, []),
  (6, .iload_n 1, 0, [], 0, 0, (0, 0), true, [2, 3, 4, 5]),
  (7, .bipush 11, 0, [], 11, 0, (0, 0), false, []),
  (9, .aload_n 0, 0, [], 0, 0, (0, 0), false, []),
  (10, .invokevirtual 110, 6, [0, 1, 1, 1, 0, 6], 0, 0, (0, 0), false, []),
  (13, .iconst 1, 0, [], 1, 0, (0, 0), false, []),
  (14, .iadd, 0, [], 0, 0, (0, 0), false, []),
  (15, .imul, 0, [], 0, 0, (0, 0), false, []),
  (16, .if_icmp .ge 16, 1, [19], 0, 0, (0, 0), false, []),
  (19, .aload_n 0, 0, [], 0, 0, (0, 0), false, []),
  (20, .getfield 31, 2, [6, 5, 27, 2], 0, 0, (0, 0), false, []),
  (23, .iload_n 1, 0, [], 0, 0, (0, 0), false, []),
  (24, .lconst 0, 0, [], 0, 0, (0, 0), false, []),
  (25, .lastore, 3, [1], 0, 0, (0, 0), false, []),
  (26, .iinc 1 1, 0, [], 1, 0, (0, 0), false, []),
  (29, .goto (-23), 1, [4], 0, 0, (0, 0), false, []),
  (32, .aload_n 0, 0, [], 0, 0, (0, 0), false, []),
  (33, .getfield 31, 2, [6, 5, 27, 2], 0, 0, (0, 0), false, []),
  (36, .bipush 11, 0, [], 11, 0, (0, 0), false, []),
  (38, .iconst 1, 0, [], 1, 0, (0, 0), false, []),
  (39, .aload_n 0, 0, [], 0, 0, (0, 0), false, []),
  (40, .getfield 24, 2, [6, 3, 27, 2], 0, 0, (0, 0), false, []),
  (43, .iconst 2, 0, [], 2, 0, (0, 0), false, []),
  (44, .iaload, 3, [0], 0, 0, (0, 0), false, []),
  (45, .ishl, 0, [], 0, 0, (0, 0), false, []),
  (46, .imul, 0, [], 0, 0, (0, 0), false, []),
  (47, .aload_n 0, 0, [], 0, 0, (0, 0), false, []),
  (48, .getfield 24, 2, [6, 3, 27, 2], 0, 0, (0, 0), false, []),
  (51, .iconst 2, 0, [], 2, 0, (0, 0), false, []),
  (52, .iaload, 3, [0], 0, 0, (0, 0), false, []),
  (53, .iadd, 0, [], 0, 0, (0, 0), false, []),
  (54, .lconst 1, 0, [], 0, 1, (0, 0), false, []),
  (55, .lastore, 3, [1], 0, 0, (0, 0), false, []),
  (56, .iconst 1, 0, [], 1, 0, (0, 0), false, []),
  (57, .istore_n 1, 0, [], 0, 0, (0, 0), false, []),
  (58, .iload_n 1, 0, [], 0, 0, (0, 0), true, [2, 3, 4, 5]),
  (59, .aload_n 0, 0, [], 0, 0, (0, 0), false, []),
  (60, .invokevirtual 110, 6, [0, 1, 1, 1, 0, 6], 0, 0, (0, 0), false, []),
  (63, .if_icmp .gt 101, 1, [100], 0, 0, (0, 0), false, []),
  (66, .iconst 0, 0, [], 0, 0, (0, 0), false, []),
  (67, .istore_n 2, 0, [], 0, 0, (0, 0), false, []),
  (68, .iload_n 2, 0, [], 0, 0, (0, 0), true, [3, 4, 5]),
  (69, .aload_n 0, 0, [], 0, 0, (0, 0), false, []),
  (70, .invokevirtual 69, 6, [0, 2, 1, 1, 0, 6], 0, 0, (0, 0), false, []),
  (73, .if_icmp .ge 85, 1, [98], 0, 0, (0, 0), false, []),
  (76, .aload_n 0, 0, [], 0, 0, (0, 0), false, []),
  (77, .getfield 31, 2, [6, 5, 27, 2], 0, 0, (0, 0), false, []),
  (80, .bipush 11, 0, [], 11, 0, (0, 0), false, []),
  (82, .iload_n 1, 0, [], 0, 0, (0, 0), false, []),
  (83, .imul, 0, [], 0, 0, (0, 0), false, []),
  (84, .iload_n 2, 0, [], 0, 0, (0, 0), false, []),
  (85, .iadd, 0, [], 0, 0, (0, 0), false, []),
  (86, .laload, 3, [1], 0, 0, (0, 0), false, []),
  (87, .lstore_n 3, 0, [], 0, 0, (0, 0), false, []),
  (88, .iconst 0, 0, [], 0, 0, (0, 0), false, []),
  (89, .istore 5, 0, [], 0, 0, (0, 0), false, []),
  (91, .iload 5, 0, [], 0, 0, (0, 0), true, [4]),
  (93, .aload_n 0, 0, [], 0, 0, (0, 0), false, []),
  (94, .invokevirtual 69, 6, [0, 2, 1, 1, 0, 6], 0, 0, (0, 0), false, []),
  (97, .if_icmp .ge 55, 1, [96], 0, 0, (0, 0), false, []),
  (100, .lload_n 3, 0, [], 0, 0, (0, 0), false, []),
  (101, .lconst 0, 0, [], 0, 0, (0, 0), false, []),
  (102, .lcmp, 0, [], 0, 0, (0, 0), false, []),
  (103, .ifCond .le 49, 1, [96], 0, 0, (0, 0), false, []),
  (106, .aload_n 0, 0, [], 0, 0, (0, 0), false, []),
  (107, .getfield 34, 2, [6, 6, 27, 2], 0, 0, (0, 0), false, []),
  (110, .bipush 11, 0, [], 11, 0, (0, 0), false, []),
  (112, .iload_n 1, 0, [], 0, 0, (0, 0), false, []),
  (113, .imul, 0, [], 0, 0, (0, 0), false, []),
  (114, .iload_n 2, 0, [], 0, 0, (0, 0), false, []),
  (115, .iadd, 0, [], 0, 0, (0, 0), false, []),
  (116, .iaload, 3, [0], 0, 0, (0, 0), false, []),
  (117, .iload 5, 0, [], 0, 0, (0, 0), false, []),
  (119, .invokestatic 86, 6, [1, 3, 2, 1, 0, 6], 0, 0, (0, 0), false, []),
  (122, .ifCond .eq 24, 1, [94], 0, 0, (0, 0), false, []),
  (125, .aload_n 0, 0, [], 0, 0, (0, 0), false, []),
  (126, .getfield 31, 2, [6, 5, 27, 2], 0, 0, (0, 0), false, []),
  (129, .bipush 11, 0, [], 11, 0, (0, 0), false, []),
  (131, .iload_n 1, 0, [], 0, 0, (0, 0), false, []),
  (132, .iconst 1, 0, [], 1, 0, (0, 0), false, []),
  (133, .iload 5, 0, [], 0, 0, (0, 0), false, []),
  (135, .ishl, 0, [], 0, 0, (0, 0), false, []),
  (136, .ior, 0, [], 0, 0, (0, 0), false, []),
  (137, .imul, 0, [], 0, 0, (0, 0), false, []),
  (138, .iload 5, 0, [], 0, 0, (0, 0), false, []),
  (140, .iadd, 0, [], 0, 0, (0, 0), false, []),
  (141, .dup2, 0, [], 0, 0, (0, 0), false, []),
  (142, .laload, 3, [1], 0, 0, (0, 0), false, []),
  (143, .lload_n 3, 0, [], 0, 0, (0, 0), false, []),
  (144, .ladd, 0, [], 0, 0, (0, 0), false, []),
  (145, .lastore, 3, [1], 0, 0, (0, 0), false, []),
  (146, .iinc 5 1, 0, [], 1, 0, (0, 0), false, []),
  (149, .goto (-58), 1, [59], 0, 0, (0, 0), false, []),
  (152, .iinc 2 1, 0, [], 1, 0, (0, 0), false, []),
  (155, .goto (-87), 1, [44], 0, 0, (0, 0), false, []),
  (158, .iinc 1 1, 0, [], 1, 0, (0, 0), false, []),
  (161, .goto (-103), 1, [38], 0, 0, (0, 0), false, []),
  (164, .return_, 5, [], 0, 0, (0, 0), false, [])]
def eX6_layComes : List zm_M := [mX6_layNexts, mX6_whole, mX6_rooms, mX6_has]
noncomputable def vX6_layComes : List (zm_M × zm_S) := [(mX6_layNexts, sX6_layNexts), (mX6_whole, sX6_whole), (mX6_rooms, sX6_rooms), (mX6_has, sX6_has)]
noncomputable def sX6_layComes : zm_S := zsem vX6_layComes rX6_layComes 6
set_option maxRecDepth 100000 in
theorem aX6_layComes : zall RX6 mX6_layComes eX6_layComes rX6_layComes = true := by decide +kernel
set_option maxRecDepth 100000 in
theorem wX6_layComes : ∀ w ∈ zwds RX6 mX6_layComes eX6_layComes rX6_layComes, w ∈ gT := zwd_of [1631, 1633, 82, 119, 1634, 1635, 1637, 83, 119, 1638, 1231, 1231, 1229, 1229, 1635, 1637, 83, 119, 1638, 1421, 1423, 46, 119, 1424, 1231, 1421, 1423, 46, 119, 1424, 1232, 1463, 1464, 119, 1465, 1231] (by decide +kernel) (by decide +kernel) (z7_no (by decide +kernel))
set_option maxRecDepth 100000 in
theorem xX6_layComes : ∀ w ∈ zwxs RX6 mX6_layComes eX6_layComes rX6_layComes, zspc w = true ∧ w ∈ lw_tbl := by decide +kernel
theorem tX6_layComes {l : Launch} (hlt : l.stackTraces = false) : MetA l mX6_layComes sX6_layComes := zmet (M := mX6_layComes) (own := RX6) (envM := eX6_layComes) hlt rfl (by decide +kernel) (by decide +kernel) rfl (fun j q hq => by
  match j, hq with
  | 0, hq => cases hq; exact tX6_layNexts hlt
  | 1, hq => cases hq; exact tX6_whole hlt
  | 2, hq => cases hq; exact tX6_rooms hlt
  | 3, hq => cases hq; exact tX6_has hlt
  | n + 4, hq => cases hq) aX6_layComes wX6_layComes xX6_layComes rfl
def mX6_comesTo : zm_M := (yX6_comesTo, cX6_comesTo, 3, (some .long), (0, 0, 0, 0), 2, [], (0, 0))
def rX6_comesTo : List zm_R := [(0, .aload_n 0, 0, [], 0, 0, (0, 0), false, []),
  (1, .getfield 31, 2, [6, 5, 27, 2], 0, 0, (0, 0), false, []),
  (4, .bipush 11, 0, [], 11, 0, (0, 0), false, []),
  (6, .iload_n 1, 0, [], 0, 0, (0, 0), false, []),
  (7, .imul, 0, [], 0, 0, (0, 0), false, []),
  (8, .iload_n 2, 0, [], 0, 0, (0, 0), false, []),
  (9, .iadd, 0, [], 0, 0, (0, 0), false, []),
  (10, .laload, 3, [1], 0, 0, (0, 0), false, []),
  (11, .lreturn, 5, [], 0, 0, (0, 0), false, [])]
def eX6_comesTo : List zm_M := []
noncomputable def vX6_comesTo : List (zm_M × zm_S) := []
noncomputable def sX6_comesTo : zm_S := zsem vX6_comesTo rX6_comesTo 3
set_option maxRecDepth 100000 in
theorem aX6_comesTo : zall RX6 mX6_comesTo eX6_comesTo rX6_comesTo = true := by decide +kernel
set_option maxRecDepth 100000 in
theorem wX6_comesTo : ∀ w ∈ zwds RX6 mX6_comesTo eX6_comesTo rX6_comesTo, w ∈ gT := zwd_of [1231] (by decide +kernel) (by decide +kernel) (z7_no (by decide +kernel))
set_option maxRecDepth 100000 in
theorem xX6_comesTo : ∀ w ∈ zwxs RX6 mX6_comesTo eX6_comesTo rX6_comesTo, zspc w = true ∧ w ∈ lw_tbl := by decide +kernel
theorem tX6_comesTo {l : Launch} (hlt : l.stackTraces = false) : MetA l mX6_comesTo sX6_comesTo := zmet (M := mX6_comesTo) (own := RX6) (envM := eX6_comesTo) hlt rfl (by decide +kernel) (by decide +kernel) rfl (fun j q hq => by cases hq) aX6_comesTo wX6_comesTo xX6_comesTo rfl
def mX6_longestFrom : zm_M := (yX6_longestFrom, cX6_longestFrom, 7, (some .int), (3, 0, 0, 70), 2, [], (0, 0))
def rX6_longestFrom : List zm_R := [(0, .aload_n 0, 0, [], 0, 0, (0, 0), false, []),
  (1, .invokevirtual 117, 6, [0, 0, 1, 0, 0, 6], 0, 0, (0, 0), false, []),
  (4, .iconst 0, 0, [], 0, 0, (0, 0), false, []),
  (5, .istore_n 3, 0, [], 0, 0, (0, 0), false, []),
  (6, .iload_n 3, 0, [], 0, 0, (0, 0), true, [4, 5, 6]),
  (7, .bipush 11, 0, [], 11, 0, (0, 0), false, []),
  (9, .aload_n 0, 0, [], 0, 0, (0, 0), false, []),
  (10, .invokevirtual 110, 6, [0, 1, 1, 1, 0, 6], 0, 0, (0, 0), false, []),
  (13, .iconst 1, 0, [], 1, 0, (0, 0), false, []),
  (14, .iadd, 0, [], 0, 0, (0, 0), false, []),
  (15, .imul, 0, [], 0, 0, (0, 0), false, []),
  (16, .if_icmp .ge 16, 1, [19], 0, 0, (0, 0), false, []),
  (19, .aload_n 0, 0, [], 0, 0, (0, 0), false, []),
  (20, .getfield 37, 2, [6, 7, 27, 2], 0, 0, (0, 0), false, []),
  (23, .iload_n 3, 0, [], 0, 0, (0, 0), false, []),
  (24, .iconst 0, 0, [], 0, 0, (0, 0), false, []),
  (25, .bastore, 3, [3], 0, 0, (0, 0), false, []),
  (26, .iinc 3 1, 0, [], 1, 0, (0, 0), false, []),
  (29, .goto (-23), 1, [4], 0, 0, (0, 0), false, []),
  (32, .aload_n 0, 0, [], 0, 0, (0, 0), false, []),
  (33, .getfield 37, 2, [6, 7, 27, 2], 0, 0, (0, 0), false, []),
  (36, .bipush 11, 0, [], 11, 0, (0, 0), false, []),
  (38, .iload_n 1, 0, [], 0, 0, (0, 0), false, []),
  (39, .imul, 0, [], 0, 0, (0, 0), false, []),
  (40, .iload_n 2, 0, [], 0, 0, (0, 0), false, []),
  (41, .iadd, 0, [], 0, 0, (0, 0), false, []),
  (42, .iconst 1, 0, [], 1, 0, (0, 0), false, []),
  (43, .bastore, 3, [3], 0, 0, (0, 0), false, []),
  (44, .iconst 0, 0, [], 0, 0, (0, 0), false, []),
  (45, .istore_n 3, 0, [], 0, 0, (0, 0), false, []),
  (46, .iload_n 1, 0, [], 0, 0, (0, 0), false, []),
  (47, .istore 4, 0, [], 0, 0, (0, 0), false, []),
  (49, .iload 4, 0, [], 0, 0, (0, 0), true, [1, 2, 5, 6]),
  (51, .aload_n 0, 0, [], 0, 0, (0, 0), false, []),
  (52, .invokevirtual 110, 6, [0, 1, 1, 1, 0, 6], 0, 0, (0, 0), false, []),
  (55, .if_icmp .gt 114, 1, [93], 0, 0, (0, 0), false, []),
  (58, .iconst 0, 0, [], 0, 0, (0, 0), false, []),
  (59, .istore 5, 0, [], 0, 0, (0, 0), false, []),
  (61, .iload 5, 0, [], 0, 0, (0, 0), true, [1, 2, 6]),
  (63, .aload_n 0, 0, [], 0, 0, (0, 0), false, []),
  (64, .invokevirtual 69, 6, [0, 2, 1, 1, 0, 6], 0, 0, (0, 0), false, []),
  (67, .if_icmp .ge 96, 1, [91], 0, 0, (0, 0), false, []),
  (70, .aload_n 0, 0, [], 0, 0, (0, 0), false, []),
  (71, .getfield 37, 2, [6, 7, 27, 2], 0, 0, (0, 0), false, []),
  (74, .bipush 11, 0, [], 11, 0, (0, 0), false, []),
  (76, .iload 4, 0, [], 0, 0, (0, 0), false, []),
  (78, .imul, 0, [], 0, 0, (0, 0), false, []),
  (79, .iload 5, 0, [], 0, 0, (0, 0), false, []),
  (81, .iadd, 0, [], 0, 0, (0, 0), false, []),
  (82, .baload, 3, [3], 0, 0, (0, 0), false, []),
  (83, .ifCond .ne 6, 1, [52], 0, 0, (0, 0), false, []),
  (86, .goto 71, 1, [89], 0, 0, (0, 0), false, []),
  (89, .iload_n 3, 0, [], 0, 0, (0, 0), false, []),
  (90, .iload 4, 0, [], 0, 0, (0, 0), false, []),
  (92, .invokestatic 134, 6, [1, 3, 1, 1, 0, 6], 0, 0, (0, 0), false, []),
  (95, .invokestatic 137, 13, [0], 0, 0, (0, 0), false, []),
  (98, .istore_n 3, 0, [], 0, 0, (0, 0), false, []),
  (99, .iconst 0, 0, [], 0, 0, (0, 0), false, []),
  (100, .istore 6, 0, [], 0, 0, (0, 0), false, []),
  (102, .iload 6, 0, [], 0, 0, (0, 0), true, [1, 2]),
  (104, .aload_n 0, 0, [], 0, 0, (0, 0), false, []),
  (105, .invokevirtual 69, 6, [0, 2, 1, 1, 0, 6], 0, 0, (0, 0), false, []),
  (108, .if_icmp .ge 49, 1, [89], 0, 0, (0, 0), false, []),
  (111, .aload_n 0, 0, [], 0, 0, (0, 0), false, []),
  (112, .getfield 34, 2, [6, 6, 27, 2], 0, 0, (0, 0), false, []),
  (115, .bipush 11, 0, [], 11, 0, (0, 0), false, []),
  (117, .iload 4, 0, [], 0, 0, (0, 0), false, []),
  (119, .imul, 0, [], 0, 0, (0, 0), false, []),
  (120, .iload 5, 0, [], 0, 0, (0, 0), false, []),
  (122, .iadd, 0, [], 0, 0, (0, 0), false, []),
  (123, .iaload, 3, [0], 0, 0, (0, 0), false, []),
  (124, .iload 6, 0, [], 0, 0, (0, 0), false, []),
  (126, .invokestatic 86, 6, [1, 4, 2, 1, 0, 6], 0, 0, (0, 0), false, []),
  (129, .ifCond .eq 22, 1, [87], 0, 0, (0, 0), false, []),
  (132, .aload_n 0, 0, [], 0, 0, (0, 0), false, []),
  (133, .getfield 37, 2, [6, 7, 27, 2], 0, 0, (0, 0), false, []),
  (136, .bipush 11, 0, [], 11, 0, (0, 0), false, []),
  (138, .iload 4, 0, [], 0, 0, (0, 0), false, []),
  (140, .iconst 1, 0, [], 1, 0, (0, 0), false, []),
  (141, .iload 6, 0, [], 0, 0, (0, 0), false, []),
  (143, .ishl, 0, [], 0, 0, (0, 0), false, []),
  (144, .ior, 0, [], 0, 0, (0, 0), false, []),
  (145, .imul, 0, [], 0, 0, (0, 0), false, []),
  (146, .iload 6, 0, [], 0, 0, (0, 0), false, []),
  (148, .iadd, 0, [], 0, 0, (0, 0), false, []),
  (149, .iconst 1, 0, [], 1, 0, (0, 0), false, []),
  (150, .bastore, 3, [3], 0, 0, (0, 0), false, []),
  (151, .iinc 6 1, 0, [], 1, 0, (0, 0), false, []),
  (154, .goto (-52), 1, [59], 0, 0, (0, 0), false, []),
  (157, .iinc 5 1, 0, [], 1, 0, (0, 0), false, []),
  (160, .goto (-99), 1, [38], 0, 0, (0, 0), false, []),
  (163, .iinc 4 1, 0, [], 1, 0, (0, 0), false, []),
  (166, .goto (-117), 1, [32], 0, 0, (0, 0), false, []),
  (169, .iload_n 3, 0, [], 0, 0, (0, 0), false, []),
  (170, .ireturn, 5, [0], 0, 0, (0, 0), false, [])]
def eX6_longestFrom : List zm_M := [mX6_layNexts, mX6_whole, mX6_rooms, mX6_ones, mX6_has]
noncomputable def vX6_longestFrom : List (zm_M × zm_S) := [(mX6_layNexts, sX6_layNexts), (mX6_whole, sX6_whole), (mX6_rooms, sX6_rooms), (mX6_ones, sX6_ones), (mX6_has, sX6_has)]
noncomputable def sX6_longestFrom : zm_S := zsem vX6_longestFrom rX6_longestFrom 7
set_option maxRecDepth 100000 in
theorem aX6_longestFrom : zall RX6 mX6_longestFrom eX6_longestFrom rX6_longestFrom = true := by decide +kernel
set_option maxRecDepth 100000 in
theorem wX6_longestFrom : ∀ w ∈ zwds RX6 mX6_longestFrom eX6_longestFrom rX6_longestFrom, w ∈ gT := zwd_of [1631, 1633, 82, 119, 1634, 1635, 1637, 83, 119, 1638, 1233, 1233, 1635, 1637, 83, 119, 1638, 1421, 1423, 46, 119, 1424, 1233, 1708, 1709, 119, 1710, 1490, 714, 126, 715, 1421, 1423, 46, 119, 1424, 1232, 1463, 1464, 119, 1465, 1233] (by decide +kernel) (by decide +kernel) (z7_no (by decide +kernel))
set_option maxRecDepth 100000 in
theorem xX6_longestFrom : ∀ w ∈ zwxs RX6 mX6_longestFrom eX6_longestFrom rX6_longestFrom, zspc w = true ∧ w ∈ lw_tbl := by decide +kernel
theorem tX6_longestFrom {l : Launch} (hlt : l.stackTraces = false) : MetA l mX6_longestFrom sX6_longestFrom := zmet (M := mX6_longestFrom) (own := RX6) (envM := eX6_longestFrom) hlt rfl (by decide +kernel) (by decide +kernel) rfl (fun j q hq => by
  match j, hq with
  | 0, hq => cases hq; exact tX6_layNexts hlt
  | 1, hq => cases hq; exact tX6_whole hlt
  | 2, hq => cases hq; exact tX6_rooms hlt
  | 3, hq => cases hq; exact tX6_ones hlt
  | 4, hq => cases hq; exact tX6_has hlt
  | n + 5, hq => cases hq) aX6_longestFrom wX6_longestFrom xX6_longestFrom rfl
def mX6_layTour : zm_M := (yX6_layTour, cX6_layTour, 10, none, (1, 0, 0, 22), 2, [], (0, 0))
def rX6_layTour : List zm_R := [(0, .lload_n 2, 0, [], 0, 0, (0, 0), false, []),
  (1, .lstore 4, 0, [], 0, 0, (0, 0), false, []),
  (3, .iconst 0, 0, [], 0, 0, (0, 0), false, []),
  (4, .istore 6, 0, [], 0, 0, (0, 0), false, []),
  (6, .iconst 0, 0, [], 0, 0, (0, 0), false, []),
  (7, .istore 7, 0, [], 0, 0, (0, 0), false, []),
  (9, .iload 7, 0, [], 0, 0, (0, 0), true, [2, 3, 5, 8, 9]),
  (11, .iload_n 1, 0, [], 0, 0, (0, 0), false, []),
  (12, .if_icmp .ge 23, 1, [20], 0, 0, (0, 0), false, []),
  (15, .iload 6, 0, [], 0, 0, (0, 0), false, []),
  (17, .iconst 1, 0, [], 1, 0, (0, 0), false, []),
  (18, .aload_n 0, 0, [], 0, 0, (0, 0), false, []),
  (19, .getfield 41, 2, [6, 8, 27, 2], 0, 0, (0, 0), false, []),
  (22, .iload 7, 0, [], 0, 0, (0, 0), false, []),
  (24, .iaload, 3, [0], 0, 0, (0, 0), false, []),
  (25, .ishl, 0, [], 0, 0, (0, 0), false, []),
  (26, .ior, 0, [], 0, 0, (0, 0), false, []),
  (27, .istore 6, 0, [], 0, 0, (0, 0), false, []),
  (29, .iinc 7 1, 0, [], 1, 0, (0, 0), false, []),
  (32, .goto (-23), 1, [6], 0, 0, (0, 0), false, []),
  (35, .iload_n 1, 0, [], 0, 0, (0, 0), false, []),
  (36, .istore 7, 0, [], 0, 0, (0, 0), false, []),
  (38, .iload 7, 0, [], 0, 0, (0, 0), true, [1, 2, 3, 5, 8, 9]),
  (40, .aload_n 0, 0, [], 0, 0, (0, 0), false, []),
  (41, .invokevirtual 69, 6, [0, 0, 1, 1, 0, 6], 0, 0, (0, 0), false, []),
  (44, .if_icmp .ge 119, 1, [89], 0, 0, (0, 0), false, []),
  (47, .aload_n 0, 0, [], 0, 0, (0, 0), false, []),
  (48, .getfield 34, 2, [6, 6, 27, 2], 0, 0, (0, 0), false, []),
  (51, .bipush 11, 0, [], 11, 0, (0, 0), false, []),
  (53, .iload 6, 0, [], 0, 0, (0, 0), false, []),
  (55, .imul, 0, [], 0, 0, (0, 0), false, []),
  (56, .aload_n 0, 0, [], 0, 0, (0, 0), false, []),
  (57, .getfield 41, 2, [6, 8, 27, 2], 0, 0, (0, 0), false, []),
  (60, .iload 7, 0, [], 0, 0, (0, 0), false, []),
  (62, .iconst 1, 0, [], 1, 0, (0, 0), false, []),
  (63, .isub, 0, [], 0, 0, (0, 0), false, []),
  (64, .iaload, 3, [0], 0, 0, (0, 0), false, []),
  (65, .iadd, 0, [], 0, 0, (0, 0), false, []),
  (66, .iaload, 3, [0], 0, 0, (0, 0), false, []),
  (67, .istore 8, 0, [], 0, 0, (0, 0), false, []),
  (69, .iconst 0, 0, [], 0, 0, (0, 0), false, []),
  (70, .istore 9, 0, [], 0, 0, (0, 0), false, []),
  (72, .iload 8, 0, [], 0, 0, (0, 0), true, [1, 2, 3, 5]),
  (74, .iload 9, 0, [], 0, 0, (0, 0), false, []),
  (76, .invokestatic 86, 6, [1, 1, 2, 1, 0, 6], 0, 0, (0, 0), false, []),
  (79, .ifCond .eq 22, 1, [57], 0, 0, (0, 0), false, []),
  (82, .lload 4, 0, [], 0, 0, (0, 0), false, []),
  (84, .aload_n 0, 0, [], 0, 0, (0, 0), false, []),
  (85, .iload 6, 0, [], 0, 0, (0, 0), false, []),
  (87, .iconst 1, 0, [], 1, 0, (0, 0), false, []),
  (88, .iload 9, 0, [], 0, 0, (0, 0), false, []),
  (90, .ishl, 0, [], 0, 0, (0, 0), false, []),
  (91, .ior, 0, [], 0, 0, (0, 0), false, []),
  (92, .iload 9, 0, [], 0, 0, (0, 0), false, []),
  (94, .invokevirtual 123, 6, [0, 2, 3, 2, 0, 6], 0, 0, (0, 0), false, []),
  (97, .lcmp, 0, [], 0, 0, (0, 0), false, []),
  (98, .ifCond .lt 41, 1, [76], 0, 0, (0, 0), false, []),
  (101, .lload 4, 0, [], 0, 0, (0, 0), false, []),
  (103, .iload 8, 0, [], 0, 0, (0, 0), false, []),
  (105, .iload 9, 0, [], 0, 0, (0, 0), false, []),
  (107, .invokestatic 86, 6, [1, 1, 2, 1, 0, 6], 0, 0, (0, 0), false, []),
  (110, .ifCond .eq 19, 1, [71], 0, 0, (0, 0), false, []),
  (113, .aload_n 0, 0, [], 0, 0, (0, 0), false, []),
  (114, .iload 6, 0, [], 0, 0, (0, 0), false, []),
  (116, .iconst 1, 0, [], 1, 0, (0, 0), false, []),
  (117, .iload 9, 0, [], 0, 0, (0, 0), false, []),
  (119, .ishl, 0, [], 0, 0, (0, 0), false, []),
  (120, .ior, 0, [], 0, 0, (0, 0), false, []),
  (121, .iload 9, 0, [], 0, 0, (0, 0), false, []),
  (123, .invokevirtual 123, 6, [0, 2, 3, 2, 0, 6], 0, 0, (0, 0), false, []),
  (126, .goto 4, 1, [72], 0, 0, (0, 0), false, []),
  (129, .lconst 0, 0, [], 0, 0, (0, 0), false, []),
  (130, .lsub, 0, [], 0, 0, (0, 0), false, []),
  (131, .lstore 4, 0, [], 0, 0, (0, 0), false, []),
  (133, .iinc 9 1, 0, [], 1, 0, (0, 0), false, []),
  (136, .goto (-64), 1, [42], 0, 0, (0, 0), false, []),
  (139, .aload_n 0, 0, [], 0, 0, (0, 0), false, []),
  (140, .getfield 41, 2, [6, 8, 27, 2], 0, 0, (0, 0), false, []),
  (143, .iload 7, 0, [], 0, 0, (0, 0), false, []),
  (145, .iload 9, 0, [], 0, 0, (0, 0), false, []),
  (147, .iastore, 3, [0], 0, 0, (0, 0), false, []),
  (148, .iload 6, 0, [], 0, 0, (0, 0), false, []),
  (150, .iconst 1, 0, [], 1, 0, (0, 0), false, []),
  (151, .iload 9, 0, [], 0, 0, (0, 0), false, []),
  (153, .ishl, 0, [], 0, 0, (0, 0), false, []),
  (154, .ior, 0, [], 0, 0, (0, 0), false, []),
  (155, .istore 6, 0, [], 0, 0, (0, 0), false, []),
  (157, .iinc 7 1, 0, [], 1, 0, (0, 0), false, []),
  (160, .goto (-122), 1, [22], 0, 0, (0, 0), false, []),
  (163, .return_, 5, [], 0, 0, (0, 0), false, [])]
def eX6_layTour : List zm_M := [mX6_rooms, mX6_has, mX6_waysOf]
noncomputable def vX6_layTour : List (zm_M × zm_S) := [(mX6_rooms, sX6_rooms), (mX6_has, sX6_has), (mX6_waysOf, sX6_waysOf)]
noncomputable def sX6_layTour : zm_S := zsem vX6_layTour rX6_layTour 10
set_option maxRecDepth 100000 in
theorem aX6_layTour : zall RX6 mX6_layTour eX6_layTour rX6_layTour = true := by decide +kernel
set_option maxRecDepth 100000 in
theorem wX6_layTour : ∀ w ∈ zwds RX6 mX6_layTour eX6_layTour rX6_layTour, w ∈ gT := zwd_of [1234, 1421, 1423, 46, 119, 1424, 1232, 1234, 1463, 1464, 119, 1465, 1651, 1653, 87, 119, 1654, 1463, 1464, 119, 1465, 1651, 1653, 87, 119, 1654, 1234] (by decide +kernel) (by decide +kernel) (z7_no (by decide +kernel))
set_option maxRecDepth 100000 in
theorem xX6_layTour : ∀ w ∈ zwxs RX6 mX6_layTour eX6_layTour rX6_layTour, zspc w = true ∧ w ∈ lw_tbl := by decide +kernel
theorem tX6_layTour {l : Launch} (hlt : l.stackTraces = false) : MetA l mX6_layTour sX6_layTour := zmet (M := mX6_layTour) (own := RX6) (envM := eX6_layTour) hlt rfl (by decide +kernel) (by decide +kernel) rfl (fun j q hq => by
  match j, hq with
  | 0, hq => cases hq; exact tX6_rooms hlt
  | 1, hq => cases hq; exact tX6_has hlt
  | 2, hq => cases hq; exact tX6_waysOf hlt
  | n + 3, hq => cases hq) aX6_layTour wX6_layTour xX6_layTour rfl
def mX6_layStart : zm_M := (yX6_layStart, cX6_layStart, 1, none, (0, 0, 0, 0), 0, [], (0, 0))
def rX6_layStart : List zm_R := [(0, .aload_n 0, 0, [], 0, 0, (0, 0), false, []),
  (1, .getfield 41, 2, [6, 8, 27, 2], 0, 0, (0, 0), false, []),
  (4, .iconst 0, 0, [], 0, 0, (0, 0), false, []),
  (5, .aload_n 0, 0, [], 0, 0, (0, 0), false, []),
  (6, .getfield 24, 2, [6, 3, 27, 2], 0, 0, (0, 0), false, []),
  (9, .iconst 2, 0, [], 2, 0, (0, 0), false, []),
  (10, .iaload, 3, [0], 0, 0, (0, 0), false, []),
  (11, .iastore, 3, [0], 0, 0, (0, 0), false, []),
  (12, .return_, 5, [], 0, 0, (0, 0), false, [])]
def eX6_layStart : List zm_M := []
noncomputable def vX6_layStart : List (zm_M × zm_S) := []
noncomputable def sX6_layStart : zm_S := zsem vX6_layStart rX6_layStart 1
set_option maxRecDepth 100000 in
theorem aX6_layStart : zall RX6 mX6_layStart eX6_layStart rX6_layStart = true := by decide +kernel
set_option maxRecDepth 100000 in
theorem wX6_layStart : ∀ w ∈ zwds RX6 mX6_layStart eX6_layStart rX6_layStart, w ∈ gT := zwd_of [1234, 1229] (by decide +kernel) (by decide +kernel) (z7_no (by decide +kernel))
set_option maxRecDepth 100000 in
theorem xX6_layStart : ∀ w ∈ zwxs RX6 mX6_layStart eX6_layStart rX6_layStart, zspc w = true ∧ w ∈ lw_tbl := by decide +kernel
theorem tX6_layStart {l : Launch} (hlt : l.stackTraces = false) : MetA l mX6_layStart sX6_layStart := zmet (M := mX6_layStart) (own := RX6) (envM := eX6_layStart) hlt rfl (by decide +kernel) (by decide +kernel) rfl (fun j q hq => by cases hq) aX6_layStart wX6_layStart xX6_layStart rfl
def mX6_layWalk : zm_M := (yX6_layWalk, cX6_layWalk, 2, none, (1, 0, 0, 21), 0, [], (0, 0))
def rX6_layWalk : List zm_R := [(0, .iconst 0, 0, [], 0, 0, (0, 0), false, []),
  (1, .istore_n 1, 0, [], 0, 0, (0, 0), false, []),
  (2, .iload_n 1, 0, [], 0, 0, (0, 0), true, []),
  (3, .aload_n 0, 0, [], 0, 0, (0, 0), false, []),
  (4, .getfield 24, 2, [6, 3, 27, 2], 0, 0, (0, 0), false, []),
  (7, .iconst 4, 0, [], 4, 0, (0, 0), false, []),
  (8, .iaload, 3, [0], 0, 0, (0, 0), false, []),
  (9, .if_icmp .ge 20, 1, [17], 0, 0, (0, 0), false, []),
  (12, .aload_n 0, 0, [], 0, 0, (0, 0), false, []),
  (13, .getfield 41, 2, [6, 8, 27, 2], 0, 0, (0, 0), false, []),
  (16, .iload_n 1, 0, [], 0, 0, (0, 0), false, []),
  (17, .aload_n 0, 0, [], 0, 0, (0, 0), false, []),
  (18, .iload_n 1, 0, [], 0, 0, (0, 0), false, []),
  (19, .invokevirtual 82, 6, [0, 0, 2, 1, 0, 6], 0, 0, (0, 0), false, []),
  (22, .iastore, 3, [0], 0, 0, (0, 0), false, []),
  (23, .iinc 1 1, 0, [], 1, 0, (0, 0), false, []),
  (26, .goto (-24), 1, [2], 0, 0, (0, 0), false, []),
  (29, .return_, 5, [], 0, 0, (0, 0), false, [])]
def eX6_layWalk : List zm_M := [mX6_walkedAt]
noncomputable def vX6_layWalk : List (zm_M × zm_S) := [(mX6_walkedAt, sX6_walkedAt)]
noncomputable def sX6_layWalk : zm_S := zsem vX6_layWalk rX6_layWalk 2
set_option maxRecDepth 100000 in
theorem aX6_layWalk : zall RX6 mX6_layWalk eX6_layWalk rX6_layWalk = true := by decide +kernel
set_option maxRecDepth 100000 in
theorem wX6_layWalk : ∀ w ∈ zwds RX6 mX6_layWalk eX6_layWalk rX6_layWalk, w ∈ gT := zwd_of [1229, 1234, 1529, 1531, 65, 119, 1532] (by decide +kernel) (by decide +kernel) (z7_no (by decide +kernel))
set_option maxRecDepth 100000 in
theorem xX6_layWalk : ∀ w ∈ zwxs RX6 mX6_layWalk eX6_layWalk rX6_layWalk, zspc w = true ∧ w ∈ lw_tbl := by decide +kernel
theorem tX6_layWalk {l : Launch} (hlt : l.stackTraces = false) : MetA l mX6_layWalk sX6_layWalk := zmet (M := mX6_layWalk) (own := RX6) (envM := eX6_layWalk) hlt rfl (by decide +kernel) (by decide +kernel) rfl (fun j q hq => by
  match j, hq with
  | 0, hq => cases hq; exact tX6_walkedAt hlt
  | n + 1, hq => cases hq) aX6_layWalk wX6_layWalk xX6_layWalk rfl
def mX6_takePath : zm_M := (yX6_takePath, cX6_takePath, 3, none, (0, 0, 0, 0), 1, [], (0, 0))
def rX6_takePath : List zm_R := [(0, .aload_n 0, 0, [], 0, 0, (0, 0), false, []),
  (1, .getfield 24, 2, [6, 3, 27, 2], 0, 0, (0, 0), false, []),
  (4, .iconst 4, 0, [], 4, 0, (0, 0), false, []),
  (5, .iload_n 1, 0, [], 0, 0, (0, 0), false, []),
  (6, .iastore, 3, [0], 0, 0, (0, 0), false, []),
  (7, .iconst 0, 0, [], 0, 0, (0, 0), false, []),
  (8, .istore_n 2, 0, [], 0, 0, (0, 0), false, []),
  (9, .iload_n 2, 0, [], 0, 0, (0, 0), true, []),
  (10, .iload_n 1, 0, [], 0, 0, (0, 0), false, []),
  (11, .if_icmp .ge 23, 1, [22], 0, 0, (0, 0), false, []),
  (14, .aload_n 0, 0, [], 0, 0, (0, 0), false, []),
  (15, .getfield 24, 2, [6, 3, 27, 2], 0, 0, (0, 0), false, []),
  (18, .iconst 5, 0, [], 5, 0, (0, 0), false, []),
  (19, .iload_n 2, 0, [], 0, 0, (0, 0), false, []),
  (20, .iadd, 0, [], 0, 0, (0, 0), false, []),
  (21, .aload_n 0, 0, [], 0, 0, (0, 0), false, []),
  (22, .getfield 41, 2, [6, 8, 27, 2], 0, 0, (0, 0), false, []),
  (25, .iload_n 2, 0, [], 0, 0, (0, 0), false, []),
  (26, .iaload, 3, [0], 0, 0, (0, 0), false, []),
  (27, .iastore, 3, [0], 0, 0, (0, 0), false, []),
  (28, .iinc 2 1, 0, [], 1, 0, (0, 0), false, []),
  (31, .goto (-22), 1, [7], 0, 0, (0, 0), false, []),
  (34, .return_, 5, [], 0, 0, (0, 0), false, [])]
def eX6_takePath : List zm_M := []
noncomputable def vX6_takePath : List (zm_M × zm_S) := []
noncomputable def sX6_takePath : zm_S := zsem vX6_takePath rX6_takePath 3
set_option maxRecDepth 100000 in
theorem aX6_takePath : zall RX6 mX6_takePath eX6_takePath rX6_takePath = true := by decide +kernel
set_option maxRecDepth 100000 in
theorem wX6_takePath : ∀ w ∈ zwds RX6 mX6_takePath eX6_takePath rX6_takePath, w ∈ gT := zwd_of [1229, 1229, 1234] (by decide +kernel) (by decide +kernel) (z7_no (by decide +kernel))
set_option maxRecDepth 100000 in
theorem xX6_takePath : ∀ w ∈ zwxs RX6 mX6_takePath eX6_takePath rX6_takePath, zspc w = true ∧ w ∈ lw_tbl := by decide +kernel
theorem tX6_takePath {l : Launch} (hlt : l.stackTraces = false) : MetA l mX6_takePath sX6_takePath := zmet (M := mX6_takePath) (own := RX6) (envM := eX6_takePath) hlt rfl (by decide +kernel) (by decide +kernel) rfl (fun j q hq => by cases hq) aX6_takePath wX6_takePath xX6_takePath rfl
def mX6_toursAhead : zm_M := (yX6_toursAhead, cX6_toursAhead, 7, (some .long), (1, 0, 0, 22), 0, [], (0, 0))
def rX6_toursAhead : List zm_R := [(0, .lconst 0, 0, [], 0, 0, (0, 0), false, []),
  (1, .lstore_n 1, 0, [], 0, 0, (0, 0), false, []),
  (2, .iconst 0, 0, [], 0, 0, (0, 0), false, []),
  (3, .istore_n 3, 0, [], 0, 0, (0, 0), false, []),
  (4, .iconst 0, 0, [], 0, 0, (0, 0), false, []),
  (5, .istore 4, 0, [], 0, 0, (0, 0), false, []),
  (7, .iload 4, 0, [], 0, 0, (0, 0), true, [2, 5, 6]),
  (9, .iconst 1, 0, [], 1, 0, (0, 0), false, []),
  (10, .iadd, 0, [], 0, 0, (0, 0), false, []),
  (11, .aload_n 0, 0, [], 0, 0, (0, 0), false, []),
  (12, .getfield 24, 2, [6, 3, 27, 2], 0, 0, (0, 0), false, []),
  (15, .iconst 4, 0, [], 4, 0, (0, 0), false, []),
  (16, .iaload, 3, [0], 0, 0, (0, 0), false, []),
  (17, .if_icmp .ge 89, 1, [63], 0, 0, (0, 0), false, []),
  (20, .iload_n 3, 0, [], 0, 0, (0, 0), false, []),
  (21, .iconst 1, 0, [], 1, 0, (0, 0), false, []),
  (22, .aload_n 0, 0, [], 0, 0, (0, 0), false, []),
  (23, .iload 4, 0, [], 0, 0, (0, 0), false, []),
  (25, .invokevirtual 82, 6, [0, 0, 2, 1, 0, 6], 0, 0, (0, 0), false, []),
  (28, .ishl, 0, [], 0, 0, (0, 0), false, []),
  (29, .ior, 0, [], 0, 0, (0, 0), false, []),
  (30, .istore_n 3, 0, [], 0, 0, (0, 0), false, []),
  (31, .aload_n 0, 0, [], 0, 0, (0, 0), false, []),
  (32, .getfield 34, 2, [6, 6, 27, 2], 0, 0, (0, 0), false, []),
  (35, .bipush 11, 0, [], 11, 0, (0, 0), false, []),
  (37, .iload_n 3, 0, [], 0, 0, (0, 0), false, []),
  (38, .imul, 0, [], 0, 0, (0, 0), false, []),
  (39, .aload_n 0, 0, [], 0, 0, (0, 0), false, []),
  (40, .iload 4, 0, [], 0, 0, (0, 0), false, []),
  (42, .invokevirtual 82, 6, [0, 0, 2, 1, 0, 6], 0, 0, (0, 0), false, []),
  (45, .iadd, 0, [], 0, 0, (0, 0), false, []),
  (46, .iaload, 3, [0], 0, 0, (0, 0), false, []),
  (47, .istore 5, 0, [], 0, 0, (0, 0), false, []),
  (49, .iconst 0, 0, [], 0, 0, (0, 0), false, []),
  (50, .istore 6, 0, [], 0, 0, (0, 0), false, []),
  (52, .iload 6, 0, [], 0, 0, (0, 0), true, [2]),
  (54, .aload_n 0, 0, [], 0, 0, (0, 0), false, []),
  (55, .iload 4, 0, [], 0, 0, (0, 0), false, []),
  (57, .iconst 1, 0, [], 1, 0, (0, 0), false, []),
  (58, .iadd, 0, [], 0, 0, (0, 0), false, []),
  (59, .invokevirtual 82, 6, [0, 0, 2, 1, 0, 6], 0, 0, (0, 0), false, []),
  (62, .if_icmp .ge 38, 1, [61], 0, 0, (0, 0), false, []),
  (65, .lload_n 1, 0, [], 0, 0, (0, 0), false, []),
  (66, .iload 5, 0, [], 0, 0, (0, 0), false, []),
  (68, .iload 6, 0, [], 0, 0, (0, 0), false, []),
  (70, .invokestatic 86, 6, [1, 1, 2, 1, 0, 6], 0, 0, (0, 0), false, []),
  (73, .ifCond .eq 18, 1, [56], 0, 0, (0, 0), false, []),
  (76, .aload_n 0, 0, [], 0, 0, (0, 0), false, []),
  (77, .iload_n 3, 0, [], 0, 0, (0, 0), false, []),
  (78, .iconst 1, 0, [], 1, 0, (0, 0), false, []),
  (79, .iload 6, 0, [], 0, 0, (0, 0), false, []),
  (81, .ishl, 0, [], 0, 0, (0, 0), false, []),
  (82, .ior, 0, [], 0, 0, (0, 0), false, []),
  (83, .iload 6, 0, [], 0, 0, (0, 0), false, []),
  (85, .invokevirtual 123, 6, [0, 2, 3, 2, 0, 6], 0, 0, (0, 0), false, []),
  (88, .goto 4, 1, [57], 0, 0, (0, 0), false, []),
  (91, .lconst 0, 0, [], 0, 0, (0, 0), false, []),
  (92, .ladd, 0, [], 0, 0, (0, 0), false, []),
  (93, .lstore_n 1, 0, [], 0, 0, (0, 0), false, []),
  (94, .iinc 6 1, 0, [], 1, 0, (0, 0), false, []),
  (97, .goto (-45), 1, [35], 0, 0, (0, 0), false, []),
  (100, .iinc 4 1, 0, [], 1, 0, (0, 0), false, []),
  (103, .goto (-96), 1, [6], 0, 0, (0, 0), false, []),
  (106, .lload_n 1, 0, [], 0, 0, (0, 0), false, []),
  (107, .lreturn, 5, [], 0, 0, (0, 0), false, [])]
def eX6_toursAhead : List zm_M := [mX6_walkedAt, mX6_has, mX6_waysOf]
noncomputable def vX6_toursAhead : List (zm_M × zm_S) := [(mX6_walkedAt, sX6_walkedAt), (mX6_has, sX6_has), (mX6_waysOf, sX6_waysOf)]
noncomputable def sX6_toursAhead : zm_S := zsem vX6_toursAhead rX6_toursAhead 7
set_option maxRecDepth 100000 in
theorem aX6_toursAhead : zall RX6 mX6_toursAhead eX6_toursAhead rX6_toursAhead = true := by decide +kernel
set_option maxRecDepth 100000 in
theorem wX6_toursAhead : ∀ w ∈ zwds RX6 mX6_toursAhead eX6_toursAhead rX6_toursAhead, w ∈ gT := zwd_of [1229, 1529, 1531, 65, 119, 1532, 1232, 1529, 1531, 65, 119, 1532, 1529, 1531, 65, 119, 1532, 1463, 1464, 119, 1465, 1651, 1653, 87, 119, 1654] (by decide +kernel) (by decide +kernel) (z7_no (by decide +kernel))
set_option maxRecDepth 100000 in
theorem xX6_toursAhead : ∀ w ∈ zwxs RX6 mX6_toursAhead eX6_toursAhead rX6_toursAhead, zspc w = true ∧ w ∈ lw_tbl := by decide +kernel
theorem tX6_toursAhead {l : Launch} (hlt : l.stackTraces = false) : MetA l mX6_toursAhead sX6_toursAhead := zmet (M := mX6_toursAhead) (own := RX6) (envM := eX6_toursAhead) hlt rfl (by decide +kernel) (by decide +kernel) rfl (fun j q hq => by
  match j, hq with
  | 0, hq => cases hq; exact tX6_walkedAt hlt
  | 1, hq => cases hq; exact tX6_has hlt
  | 2, hq => cases hq; exact tX6_waysOf hlt
  | n + 3, hq => cases hq) aX6_toursAhead wX6_toursAhead xX6_toursAhead rfl
def mX6_cutWalk : zm_M := (yX6_cutWalk, cX6_cutWalk, 4, none, (3, 0, 0, 73), 0, [], (0, 0))
def rX6_cutWalk : List zm_R := [(0, .iconst 0, 0, [], 0, 0, (0, 0), false, []),
  (1, .istore_n 1, 0, [], 0, 0, (0, 0), false, []),
  (2, .aload_n 0, 0, [], 0, 0, (0, 0), false, []),
  (3, .getfield 24, 2, [6, 3, 27, 2], 0, 0, (0, 0), false, []),
  (6, .iconst 4, 0, [], 4, 0, (0, 0), false, []),
  (7, .iaload, 3, [0], 0, 0, (0, 0), false, []),
  (8, .istore_n 2, 0, [], 0, 0, (0, 0), false, []),
  (9, .iconst 0, 0, [], 0, 0, (0, 0), false, []),
  (10, .istore_n 3, 0, [], 0, 0, (0, 0), false, []),
  (11, .iload_n 3, 0, [], 0, 0, (0, 0), true, []),
  (12, .iconst 1, 0, [], 1, 0, (0, 0), false, []),
  (13, .iadd, 0, [], 0, 0, (0, 0), false, []),
  (14, .iload_n 2, 0, [], 0, 0, (0, 0), false, []),
  (15, .if_icmp .ge 52, 1, [45], 0, 0, (0, 0), false, []),
  (18, .iload_n 1, 0, [], 0, 0, (0, 0), false, []),
  (19, .iconst 1, 0, [], 1, 0, (0, 0), false, []),
  (20, .aload_n 0, 0, [], 0, 0, (0, 0), false, []),
  (21, .iload_n 3, 0, [], 0, 0, (0, 0), false, []),
  (22, .invokevirtual 82, 6, [0, 0, 2, 1, 0, 6], 0, 0, (0, 0), false, []),
  (25, .ishl, 0, [], 0, 0, (0, 0), false, []),
  (26, .ior, 0, [], 0, 0, (0, 0), false, []),
  (27, .istore_n 1, 0, [], 0, 0, (0, 0), false, []),
  (28, .aload_n 0, 0, [], 0, 0, (0, 0), false, []),
  (29, .aload_n 0, 0, [], 0, 0, (0, 0), false, []),
  (30, .iload_n 3, 0, [], 0, 0, (0, 0), false, []),
  (31, .invokevirtual 82, 6, [0, 0, 2, 1, 0, 6], 0, 0, (0, 0), false, []),
  (34, .iload_n 1, 0, [], 0, 0, (0, 0), false, []),
  (35, .invokevirtual 142, 6, [0, 1, 3, 1, 0, 6], 0, 0, (0, 0), false, []),
  (38, .aload_n 0, 0, [], 0, 0, (0, 0), false, []),
  (39, .iload_n 3, 0, [], 0, 0, (0, 0), false, []),
  (40, .iconst 1, 0, [], 1, 0, (0, 0), false, []),
  (41, .iadd, 0, [], 0, 0, (0, 0), false, []),
  (42, .invokevirtual 82, 6, [0, 0, 2, 1, 0, 6], 0, 0, (0, 0), false, []),
  (45, .invokestatic 86, 6, [1, 2, 2, 1, 0, 6], 0, 0, (0, 0), false, []),
  (48, .ifCond .ne 13, 1, [43], 0, 0, (0, 0), false, []),
  (51, .aload_n 0, 0, [], 0, 0, (0, 0), false, []),
  (52, .getfield 24, 2, [6, 3, 27, 2], 0, 0, (0, 0), false, []),
  (55, .iconst 4, 0, [], 4, 0, (0, 0), false, []),
  (56, .iload_n 3, 0, [], 0, 0, (0, 0), false, []),
  (57, .iconst 1, 0, [], 1, 0, (0, 0), false, []),
  (58, .iadd, 0, [], 0, 0, (0, 0), false, []),
  (59, .iastore, 3, [0], 0, 0, (0, 0), false, []),
  (60, .return_, 5, [], 0, 0, (0, 0), false, []),
  (61, .iinc 3 1, 0, [], 1, 0, (0, 0), false, []),
  (64, .goto (-53), 1, [9], 0, 0, (0, 0), false, []),
  (67, .return_, 5, [], 0, 0, (0, 0), false, [])]
def eX6_cutWalk : List zm_M := [mX6_walkedAt, mX6_leads, mX6_has]
noncomputable def vX6_cutWalk : List (zm_M × zm_S) := [(mX6_walkedAt, sX6_walkedAt), (mX6_leads, sX6_leads), (mX6_has, sX6_has)]
noncomputable def sX6_cutWalk : zm_S := zsem vX6_cutWalk rX6_cutWalk 4
set_option maxRecDepth 100000 in
theorem aX6_cutWalk : zall RX6 mX6_cutWalk eX6_cutWalk rX6_cutWalk = true := by decide +kernel
set_option maxRecDepth 100000 in
theorem wX6_cutWalk : ∀ w ∈ zwds RX6 mX6_cutWalk eX6_cutWalk rX6_cutWalk, w ∈ gT := zwd_of [1229, 1529, 1531, 65, 119, 1532, 1529, 1531, 65, 119, 1532, 1747, 1749, 97, 119, 1750, 1529, 1531, 65, 119, 1532, 1463, 1464, 119, 1465, 1229] (by decide +kernel) (by decide +kernel) (z7_no (by decide +kernel))
set_option maxRecDepth 100000 in
theorem xX6_cutWalk : ∀ w ∈ zwxs RX6 mX6_cutWalk eX6_cutWalk rX6_cutWalk, zspc w = true ∧ w ∈ lw_tbl := by decide +kernel
theorem tX6_cutWalk {l : Launch} (hlt : l.stackTraces = false) : MetA l mX6_cutWalk sX6_cutWalk := zmet (M := mX6_cutWalk) (own := RX6) (envM := eX6_cutWalk) hlt rfl (by decide +kernel) (by decide +kernel) rfl (fun j q hq => by
  match j, hq with
  | 0, hq => cases hq; exact tX6_walkedAt hlt
  | 1, hq => cases hq; exact tX6_leads hlt
  | 2, hq => cases hq; exact tX6_has hlt
  | n + 3, hq => cases hq) aX6_cutWalk wX6_cutWalk xX6_cutWalk rfl
def mX6_keepAside : zm_M := (yX6_keepAside, cX6_keepAside, 2, none, (0, 0, 0, 0), 0, [], (0, 0))
def rX6_keepAside : List zm_R := [(0, .iconst 0, 0, [], 0, 0, (0, 0), false, []),
  (1, .istore_n 1, 0, [], 0, 0, (0, 0), false, []),
  (2, .iload_n 1, 0, [], 0, 0, (0, 0), true, []),
  (3, .sipush 149, 0, [], 149, 0, (0, 0), false, []),
  (6, .if_icmp .ge 21, 1, [15], 0, 0, (0, 0), false, []),
  (9, .aload_n 0, 0, [], 0, 0, (0, 0), false, []),
  (10, .getfield 44, 2, [6, 9, 27, 2], 0, 0, (0, 0), false, []),
  (13, .iload_n 1, 0, [], 0, 0, (0, 0), false, []),
  (14, .aload_n 0, 0, [], 0, 0, (0, 0), false, []),
  (15, .getfield 17, 2, [6, 1, 27, 2], 0, 0, (0, 0), false, []),
  (18, .iload_n 1, 0, [], 0, 0, (0, 0), false, []),
  (19, .iaload, 3, [0], 0, 0, (0, 0), false, []),
  (20, .iastore, 3, [0], 0, 0, (0, 0), false, []),
  (21, .iinc 1 1, 0, [], 1, 0, (0, 0), false, []),
  (24, .goto (-22), 1, [2], 0, 0, (0, 0), false, []),
  (27, .return_, 5, [], 0, 0, (0, 0), false, [])]
def eX6_keepAside : List zm_M := []
noncomputable def vX6_keepAside : List (zm_M × zm_S) := []
noncomputable def sX6_keepAside : zm_S := zsem vX6_keepAside rX6_keepAside 2
set_option maxRecDepth 100000 in
theorem aX6_keepAside : zall RX6 mX6_keepAside eX6_keepAside rX6_keepAside = true := by decide +kernel
set_option maxRecDepth 100000 in
theorem wX6_keepAside : ∀ w ∈ zwds RX6 mX6_keepAside eX6_keepAside rX6_keepAside, w ∈ gT := zwd_of [1235, 1227] (by decide +kernel) (by decide +kernel) (z7_no (by decide +kernel))
set_option maxRecDepth 100000 in
theorem xX6_keepAside : ∀ w ∈ zwxs RX6 mX6_keepAside eX6_keepAside rX6_keepAside, zspc w = true ∧ w ∈ lw_tbl := by decide +kernel
theorem tX6_keepAside {l : Launch} (hlt : l.stackTraces = false) : MetA l mX6_keepAside sX6_keepAside := zmet (M := mX6_keepAside) (own := RX6) (envM := eX6_keepAside) hlt rfl (by decide +kernel) (by decide +kernel) rfl (fun j q hq => by cases hq) aX6_keepAside wX6_keepAside xX6_keepAside rfl
def mX6_layBack : zm_M := (yX6_layBack, cX6_layBack, 4, (some .long), (0, 0, 0, 0), 1, [], (0, 0))
def rX6_layBack : List zm_R := [(0, .iconst 0, 0, [], 0, 0, (0, 0), false, []),
  (1, .istore_n 3, 0, [], 0, 0, (0, 0), false, []),
  (2, .iload_n 3, 0, [], 0, 0, (0, 0), true, [2]),
  (3, .sipush 149, 0, [], 149, 0, (0, 0), false, []),
  (6, .if_icmp .ge 21, 1, [15], 0, 0, (0, 0), false, []),
  (9, .aload_n 0, 0, [], 0, 0, (0, 0), false, []),
  (10, .getfield 17, 2, [6, 1, 27, 2], 0, 0, (0, 0), false, []),
  (13, .iload_n 3, 0, [], 0, 0, (0, 0), false, []),
  (14, .aload_n 0, 0, [], 0, 0, (0, 0), false, []),
  (15, .getfield 44, 2, [6, 9, 27, 2], 0, 0, (0, 0), false, []),
  (18, .iload_n 3, 0, [], 0, 0, (0, 0), false, []),
  (19, .iaload, 3, [0], 0, 0, (0, 0), false, []),
  (20, .iastore, 3, [0], 0, 0, (0, 0), false, []),
  (21, .iinc 3 1, 0, [], 1, 0, (0, 0), false, []),
  (24, .goto (-22), 1, [2], 0, 0, (0, 0), false, []),
  (27, .lload_n 1, 0, [], 0, 0, (0, 0), false, []),
  (28, .lreturn, 5, [], 0, 0, (0, 0), false, [])]
def eX6_layBack : List zm_M := []
noncomputable def vX6_layBack : List (zm_M × zm_S) := []
noncomputable def sX6_layBack : zm_S := zsem vX6_layBack rX6_layBack 4
set_option maxRecDepth 100000 in
theorem aX6_layBack : zall RX6 mX6_layBack eX6_layBack rX6_layBack = true := by decide +kernel
set_option maxRecDepth 100000 in
theorem wX6_layBack : ∀ w ∈ zwds RX6 mX6_layBack eX6_layBack rX6_layBack, w ∈ gT := zwd_of [1227, 1235] (by decide +kernel) (by decide +kernel) (z7_no (by decide +kernel))
set_option maxRecDepth 100000 in
theorem xX6_layBack : ∀ w ∈ zwxs RX6 mX6_layBack eX6_layBack rX6_layBack, zspc w = true ∧ w ∈ lw_tbl := by decide +kernel
theorem tX6_layBack {l : Launch} (hlt : l.stackTraces = false) : MetA l mX6_layBack sX6_layBack := zmet (M := mX6_layBack) (own := RX6) (envM := eX6_layBack) hlt rfl (by decide +kernel) (by decide +kernel) rfl (fun j q hq => by cases hq) aX6_layBack wX6_layBack xX6_layBack rfl
def mX6_withoutKey : zm_M := (yX6_withoutKey, cX6_withoutKey, 3, (some .long), (5, 0, 0, 120), 1, [], (0, 0))
def rX6_withoutKey : List zm_R := [(0, .aload_n 0, 0, [], 0, 0, (0, 0), false, []),
  (1, .invokevirtual 145, 6, [0, 0, 1, 0, 0, 6], 0, 0, (0, 0), false, []),
  (4, .iconst 0, 0, [], 0, 0, (0, 0), false, []),
  (5, .istore_n 2, 0, [], 0, 0, (0, 0), false, []),
  (6, .iload_n 2, 0, [], 0, 0, (0, 0), true, []),
  (7, .aload_n 0, 0, [], 0, 0, (0, 0), false, []),
  (8, .invokevirtual 69, 6, [0, 1, 1, 1, 0, 6], 0, 0, (0, 0), false, []),
  (11, .if_icmp .ge 30, 1, [28], 0, 0, (0, 0), false, []),
  (14, .aload_n 0, 0, [], 0, 0, (0, 0), false, []),
  (15, .getfield 17, 2, [6, 1, 27, 2], 0, 0, (0, 0), false, []),
  (18, .bipush 16, 0, [], 16, 0, (0, 0), false, []),
  (20, .iconst 3, 0, [], 3, 0, (0, 0), false, []),
  (21, .iload_n 2, 0, [], 0, 0, (0, 0), false, []),
  (22, .imul, 0, [], 0, 0, (0, 0), false, []),
  (23, .iadd, 0, [], 0, 0, (0, 0), false, []),
  (24, .iconst 0, 0, [], 0, 0, (0, 0), false, []),
  (25, .iadd, 0, [], 0, 0, (0, 0), false, []),
  (26, .dup2, 0, [], 0, 0, (0, 0), false, []),
  (27, .iaload, 3, [0], 0, 0, (0, 0), false, []),
  (28, .iconst 1, 0, [], 1, 0, (0, 0), false, []),
  (29, .iload_n 1, 0, [], 0, 0, (0, 0), false, []),
  (30, .ishl, 0, [], 0, 0, (0, 0), false, []),
  (31, .iconst (-1), 0, [], (-1), 0, (0, 0), false, []),
  (32, .ixor, 0, [], 0, 0, (0, 0), false, []),
  (33, .iand, 0, [], 0, 0, (0, 0), false, []),
  (34, .iastore, 3, [0], 0, 0, (0, 0), false, []),
  (35, .iinc 2 1, 0, [], 1, 0, (0, 0), false, []),
  (38, .goto (-32), 1, [4], 0, 0, (0, 0), false, []),
  (41, .aload_n 0, 0, [], 0, 0, (0, 0), false, []),
  (42, .aload_n 0, 0, [], 0, 0, (0, 0), false, []),
  (43, .invokevirtual 148, 6, [0, 2, 1, 2, 0, 6], 0, 0, (0, 0), false, []),
  (46, .invokevirtual 152, 6, [0, 3, 2, 2, 0, 6], 0, 0, (0, 0), false, []),
  (49, .lreturn, 5, [], 0, 0, (0, 0), false, [])]
def eX6_withoutKey : List zm_M := [mX6_keepAside, mX6_rooms, mX6_toursNow, mX6_layBack]
noncomputable def vX6_withoutKey : List (zm_M × zm_S) := [(mX6_keepAside, sX6_keepAside), (mX6_rooms, sX6_rooms), (mX6_toursNow, sX6_toursNow), (mX6_layBack, sX6_layBack)]
noncomputable def sX6_withoutKey : zm_S := zsem vX6_withoutKey rX6_withoutKey 3
set_option maxRecDepth 100000 in
theorem aX6_withoutKey : zall RX6 mX6_withoutKey eX6_withoutKey rX6_withoutKey = true := by decide +kernel
set_option maxRecDepth 100000 in
theorem wX6_withoutKey : ∀ w ∈ zwds RX6 mX6_withoutKey eX6_withoutKey rX6_withoutKey, w ∈ gT := zwd_of [1759, 1761, 99, 119, 1762, 1421, 1423, 46, 119, 1424, 1227, 1623, 1625, 80, 119, 1626, 1763, 1765, 100, 119, 1766] (by decide +kernel) (by decide +kernel) (z7_no (by decide +kernel))
set_option maxRecDepth 100000 in
theorem xX6_withoutKey : ∀ w ∈ zwxs RX6 mX6_withoutKey eX6_withoutKey rX6_withoutKey, zspc w = true ∧ w ∈ lw_tbl := by decide +kernel
theorem tX6_withoutKey {l : Launch} (hlt : l.stackTraces = false) : MetA l mX6_withoutKey sX6_withoutKey := zmet (M := mX6_withoutKey) (own := RX6) (envM := eX6_withoutKey) hlt rfl (by decide +kernel) (by decide +kernel) rfl (fun j q hq => by
  match j, hq with
  | 0, hq => cases hq; exact tX6_keepAside hlt
  | 1, hq => cases hq; exact tX6_rooms hlt
  | 2, hq => cases hq; exact tX6_toursNow hlt
  | 3, hq => cases hq; exact tX6_layBack hlt
  | n + 4, hq => cases hq) aX6_withoutKey wX6_withoutKey xX6_withoutKey rfl
def mX6_dropDoor : zm_M := (yX6_dropDoor, cX6_dropDoor, 3, none, (1, 0, 0, 20), 1, [], (0, 0))
def rX6_dropDoor : List zm_R := [(0, .bipush 49, 0, [], 49, 0, (0, 0), false, []),
  (2, .iconst 5, 0, [], 5, 0, (0, 0), false, []),
  (3, .iload_n 1, 0, [], 0, 0, (0, 0), false, []),
  (4, .imul, 0, [], 0, 0, (0, 0), false, []),
  (5, .iadd, 0, [], 0, 0, (0, 0), false, []),
  (6, .istore_n 2, 0, [], 0, 0, (0, 0), false, []),
  (7, .iload_n 2, 0, [], 0, 0, (0, 0), true, [1]),
  (8, .bipush 49, 0, [], 49, 0, (0, 0), false, []),
  (10, .iconst 5, 0, [], 5, 0, (0, 0), false, []),
  (11, .aload_n 0, 0, [], 0, 0, (0, 0), false, []),
  (12, .invokevirtual 77, 6, [0, 0, 1, 1, 0, 6], 0, 0, (0, 0), false, []),
  (15, .iconst 1, 0, [], 1, 0, (0, 0), false, []),
  (16, .isub, 0, [], 0, 0, (0, 0), false, []),
  (17, .imul, 0, [], 0, 0, (0, 0), false, []),
  (18, .iadd, 0, [], 0, 0, (0, 0), false, []),
  (19, .if_icmp .ge 23, 1, [28], 0, 0, (0, 0), false, []),
  (22, .aload_n 0, 0, [], 0, 0, (0, 0), false, []),
  (23, .getfield 17, 2, [6, 1, 27, 2], 0, 0, (0, 0), false, []),
  (26, .iload_n 2, 0, [], 0, 0, (0, 0), false, []),
  (27, .aload_n 0, 0, [], 0, 0, (0, 0), false, []),
  (28, .getfield 17, 2, [6, 1, 27, 2], 0, 0, (0, 0), false, []),
  (31, .iload_n 2, 0, [], 0, 0, (0, 0), false, []),
  (32, .iconst 5, 0, [], 5, 0, (0, 0), false, []),
  (33, .iadd, 0, [], 0, 0, (0, 0), false, []),
  (34, .iaload, 3, [0], 0, 0, (0, 0), false, []),
  (35, .iastore, 3, [0], 0, 0, (0, 0), false, []),
  (36, .iinc 2 1, 0, [], 1, 0, (0, 0), false, []),
  (39, .goto (-32), 1, [6], 0, 0, (0, 0), false, []),
  (42, .aload_n 0, 0, [], 0, 0, (0, 0), false, []),
  (43, .getfield 17, 2, [6, 1, 27, 2], 0, 0, (0, 0), false, []),
  (46, .iconst 1, 0, [], 1, 0, (0, 0), false, []),
  (47, .dup2, 0, [], 0, 0, (0, 0), false, []),
  (48, .iaload, 3, [0], 0, 0, (0, 0), false, []),
  (49, .iconst 1, 0, [], 1, 0, (0, 0), false, []),
  (50, .isub, 0, [], 0, 0, (0, 0), false, []),
  (51, .iastore, 3, [0], 0, 0, (0, 0), false, []),
  (52, .return_, 5, [], 0, 0, (0, 0), false, [])]
def eX6_dropDoor : List zm_M := [mX6_doors]
noncomputable def vX6_dropDoor : List (zm_M × zm_S) := [(mX6_doors, sX6_doors)]
noncomputable def sX6_dropDoor : zm_S := zsem vX6_dropDoor rX6_dropDoor 3
set_option maxRecDepth 100000 in
theorem aX6_dropDoor : zall RX6 mX6_dropDoor eX6_dropDoor rX6_dropDoor = true := by decide +kernel
set_option maxRecDepth 100000 in
theorem wX6_dropDoor : ∀ w ∈ zwds RX6 mX6_dropDoor eX6_dropDoor rX6_dropDoor, w ∈ gT := zwd_of [1482, 1484, 58, 119, 1485, 1227, 1227, 1227] (by decide +kernel) (by decide +kernel) (z7_no (by decide +kernel))
set_option maxRecDepth 100000 in
theorem xX6_dropDoor : ∀ w ∈ zwxs RX6 mX6_dropDoor eX6_dropDoor rX6_dropDoor, zspc w = true ∧ w ∈ lw_tbl := by decide +kernel
theorem tX6_dropDoor {l : Launch} (hlt : l.stackTraces = false) : MetA l mX6_dropDoor sX6_dropDoor := zmet (M := mX6_dropDoor) (own := RX6) (envM := eX6_dropDoor) hlt rfl (by decide +kernel) (by decide +kernel) rfl (fun j q hq => by
  match j, hq with
  | 0, hq => cases hq; exact tX6_doors hlt
  | n + 1, hq => cases hq) aX6_dropDoor wX6_dropDoor xX6_dropDoor rfl
def mX6_withoutDoor : zm_M := (yX6_withoutDoor, cX6_withoutDoor, 2, (some .long), (5, 0, 0, 120), 1, [], (0, 0))
def rX6_withoutDoor : List zm_R := [(0, .aload_n 0, 0, [], 0, 0, (0, 0), false, []),
  (1, .invokevirtual 145, 6, [0, 0, 1, 0, 0, 6], 0, 0, (0, 0), false, []),
  (4, .aload_n 0, 0, [], 0, 0, (0, 0), false, []),
  (5, .iload_n 1, 0, [], 0, 0, (0, 0), false, []),
  (6, .invokevirtual 156, 6, [0, 1, 2, 0, 0, 6], 0, 0, (0, 0), false, []),
  (9, .aload_n 0, 0, [], 0, 0, (0, 0), false, []),
  (10, .aload_n 0, 0, [], 0, 0, (0, 0), false, []),
  (11, .invokevirtual 148, 6, [0, 2, 1, 2, 0, 6], 0, 0, (0, 0), false, []),
  (14, .invokevirtual 152, 6, [0, 3, 2, 2, 0, 6], 0, 0, (0, 0), false, []),
  (17, .lreturn, 5, [], 0, 0, (0, 0), false, [])]
def eX6_withoutDoor : List zm_M := [mX6_keepAside, mX6_dropDoor, mX6_toursNow, mX6_layBack]
noncomputable def vX6_withoutDoor : List (zm_M × zm_S) := [(mX6_keepAside, sX6_keepAside), (mX6_dropDoor, sX6_dropDoor), (mX6_toursNow, sX6_toursNow), (mX6_layBack, sX6_layBack)]
noncomputable def sX6_withoutDoor : zm_S := zsem vX6_withoutDoor rX6_withoutDoor 2
set_option maxRecDepth 100000 in
theorem aX6_withoutDoor : zall RX6 mX6_withoutDoor eX6_withoutDoor rX6_withoutDoor = true := by decide +kernel
set_option maxRecDepth 100000 in
theorem wX6_withoutDoor : ∀ w ∈ zwds RX6 mX6_withoutDoor eX6_withoutDoor rX6_withoutDoor, w ∈ gT := zwd_of [1759, 1761, 99, 119, 1762, 1779, 1781, 102, 119, 1782, 1623, 1625, 80, 119, 1626, 1763, 1765, 100, 119, 1766] (by decide +kernel) (by decide +kernel) (z7_no (by decide +kernel))
set_option maxRecDepth 100000 in
theorem xX6_withoutDoor : ∀ w ∈ zwxs RX6 mX6_withoutDoor eX6_withoutDoor rX6_withoutDoor, zspc w = true ∧ w ∈ lw_tbl := by decide +kernel
theorem tX6_withoutDoor {l : Launch} (hlt : l.stackTraces = false) : MetA l mX6_withoutDoor sX6_withoutDoor := zmet (M := mX6_withoutDoor) (own := RX6) (envM := eX6_withoutDoor) hlt rfl (by decide +kernel) (by decide +kernel) rfl (fun j q hq => by
  match j, hq with
  | 0, hq => cases hq; exact tX6_keepAside hlt
  | 1, hq => cases hq; exact tX6_dropDoor hlt
  | 2, hq => cases hq; exact tX6_toursNow hlt
  | 3, hq => cases hq; exact tX6_layBack hlt
  | n + 4, hq => cases hq) aX6_withoutDoor wX6_withoutDoor xX6_withoutDoor rfl
def mX6_withOpen : zm_M := (yX6_withOpen, cX6_withOpen, 2, (some .long), (5, 0, 0, 120), 1, [], (0, 0))
def rX6_withOpen : List zm_R := [(0, .aload_n 0, 0, [], 0, 0, (0, 0), false, []),
  (1, .invokevirtual 145, 6, [0, 0, 1, 0, 0, 6], 0, 0, (0, 0), false, []),
  (4, .aload_n 0, 0, [], 0, 0, (0, 0), false, []),
  (5, .getfield 17, 2, [6, 1, 27, 2], 0, 0, (0, 0), false, []),
  (8, .bipush 49, 0, [], 49, 0, (0, 0), false, []),
  (10, .iconst 5, 0, [], 5, 0, (0, 0), false, []),
  (11, .iload_n 1, 0, [], 0, 0, (0, 0), false, []),
  (12, .imul, 0, [], 0, 0, (0, 0), false, []),
  (13, .iadd, 0, [], 0, 0, (0, 0), false, []),
  (14, .iconst 2, 0, [], 2, 0, (0, 0), false, []),
  (15, .iadd, 0, [], 0, 0, (0, 0), false, []),
  (16, .iconst 0, 0, [], 0, 0, (0, 0), false, []),
  (17, .iastore, 3, [0], 0, 0, (0, 0), false, []),
  (18, .aload_n 0, 0, [], 0, 0, (0, 0), false, []),
  (19, .getfield 17, 2, [6, 1, 27, 2], 0, 0, (0, 0), false, []),
  (22, .bipush 49, 0, [], 49, 0, (0, 0), false, []),
  (24, .iconst 5, 0, [], 5, 0, (0, 0), false, []),
  (25, .iload_n 1, 0, [], 0, 0, (0, 0), false, []),
  (26, .imul, 0, [], 0, 0, (0, 0), false, []),
  (27, .iadd, 0, [], 0, 0, (0, 0), false, []),
  (28, .iconst 4, 0, [], 4, 0, (0, 0), false, []),
  (29, .iadd, 0, [], 0, 0, (0, 0), false, []),
  (30, .iconst 0, 0, [], 0, 0, (0, 0), false, []),
  (31, .iastore, 3, [0], 0, 0, (0, 0), false, []),
  (32, .aload_n 0, 0, [], 0, 0, (0, 0), false, []),
  (33, .aload_n 0, 0, [], 0, 0, (0, 0), false, []),
  (34, .invokevirtual 148, 6, [0, 1, 1, 2, 0, 6], 0, 0, (0, 0), false, []),
  (37, .invokevirtual 152, 6, [0, 2, 2, 2, 0, 6], 0, 0, (0, 0), false, []),
  (40, .lreturn, 5, [], 0, 0, (0, 0), false, [])]
def eX6_withOpen : List zm_M := [mX6_keepAside, mX6_toursNow, mX6_layBack]
noncomputable def vX6_withOpen : List (zm_M × zm_S) := [(mX6_keepAside, sX6_keepAside), (mX6_toursNow, sX6_toursNow), (mX6_layBack, sX6_layBack)]
noncomputable def sX6_withOpen : zm_S := zsem vX6_withOpen rX6_withOpen 2
set_option maxRecDepth 100000 in
theorem aX6_withOpen : zall RX6 mX6_withOpen eX6_withOpen rX6_withOpen = true := by decide +kernel
set_option maxRecDepth 100000 in
theorem wX6_withOpen : ∀ w ∈ zwds RX6 mX6_withOpen eX6_withOpen rX6_withOpen, w ∈ gT := zwd_of [1759, 1761, 99, 119, 1762, 1227, 1227, 1623, 1625, 80, 119, 1626, 1763, 1765, 100, 119, 1766] (by decide +kernel) (by decide +kernel) (z7_no (by decide +kernel))
set_option maxRecDepth 100000 in
theorem xX6_withOpen : ∀ w ∈ zwxs RX6 mX6_withOpen eX6_withOpen rX6_withOpen, zspc w = true ∧ w ∈ lw_tbl := by decide +kernel
theorem tX6_withOpen {l : Launch} (hlt : l.stackTraces = false) : MetA l mX6_withOpen sX6_withOpen := zmet (M := mX6_withOpen) (own := RX6) (envM := eX6_withOpen) hlt rfl (by decide +kernel) (by decide +kernel) rfl (fun j q hq => by
  match j, hq with
  | 0, hq => cases hq; exact tX6_keepAside hlt
  | 1, hq => cases hq; exact tX6_toursNow hlt
  | 2, hq => cases hq; exact tX6_layBack hlt
  | n + 3, hq => cases hq) aX6_withOpen wX6_withOpen xX6_withOpen rfl
def mX6_appendFour : zm_M := (yX6_appendFour, cX6_appendFour, 3, none, (0, 0, 0, 0), 1, [], (0, 0))
def rX6_appendFour : List zm_R := [(0, .bipush 24, 0, [], 24, 0, (0, 0), false, []),
  (2, .istore_n 2, 0, [], 0, 0, (0, 0), false, []),
  (3, .iload_n 2, 0, [], 0, 0, (0, 0), true, []),
  (4, .ifCond .lt 32, 1, [21], 0, 0, (0, 0), false, []),
  (7, .aload_n 0, 0, [], 0, 0, (0, 0), false, []),
  (8, .getfield 47, 2, [6, 10, 27, 2], 0, 0, (0, 0), false, []),
  (11, .aload_n 0, 0, [], 0, 0, (0, 0), false, []),
  (12, .getfield 160, 2, [6, 11, 27, 0], 0, 0, (0, 0), false, []),
  (15, .iload_n 1, 0, [], 0, 0, (0, 0), false, []),
  (16, .iload_n 2, 0, [], 0, 0, (0, 0), false, []),
  (17, .ishr, 0, [], 0, 0, (0, 0), false, []),
  (18, .i2b, 0, [], 0, 0, (0, 0), false, []),
  (19, .bastore, 3, [2], 0, 0, (0, 0), false, []),
  (20, .aload_n 0, 0, [], 0, 0, (0, 0), false, []),
  (21, .dup, 0, [], 0, 0, (0, 0), false, []),
  (22, .getfield 160, 2, [6, 11, 27, 0], 0, 0, (0, 0), false, []),
  (25, .iconst 1, 0, [], 1, 0, (0, 0), false, []),
  (26, .iadd, 0, [], 0, 0, (0, 0), false, []),
  (27, .putfield 160, 2, [6, 11, 27, 0], 0, 0, (0, 0), false, []),
  (30, .iinc 2 (-8), 0, [], (-8), 0, (0, 0), false, []),
  (33, .goto (-30), 1, [2], 0, 0, (0, 0), false, []),
  (36, .return_, 5, [], 0, 0, (0, 0), false, [])]
def eX6_appendFour : List zm_M := []
noncomputable def vX6_appendFour : List (zm_M × zm_S) := []
noncomputable def sX6_appendFour : zm_S := zsem vX6_appendFour rX6_appendFour 3
set_option maxRecDepth 100000 in
theorem aX6_appendFour : zall RX6 mX6_appendFour eX6_appendFour rX6_appendFour = true := by decide +kernel
set_option maxRecDepth 100000 in
theorem wX6_appendFour : ∀ w ∈ zwds RX6 mX6_appendFour eX6_appendFour rX6_appendFour, w ∈ gT := zwd_of [1236, 1237, 1237, 1237] (by decide +kernel) (by decide +kernel) (z7_no (by decide +kernel))
set_option maxRecDepth 100000 in
theorem xX6_appendFour : ∀ w ∈ zwxs RX6 mX6_appendFour eX6_appendFour rX6_appendFour, zspc w = true ∧ w ∈ lw_tbl := by decide +kernel
theorem tX6_appendFour {l : Launch} (hlt : l.stackTraces = false) : MetA l mX6_appendFour sX6_appendFour := zmet (M := mX6_appendFour) (own := RX6) (envM := eX6_appendFour) hlt rfl (by decide +kernel) (by decide +kernel) rfl (fun j q hq => by cases hq) aX6_appendFour wX6_appendFour xX6_appendFour rfl
def mX6_append : zm_M := (yX6_append, cX6_append, 6, (some .int), (2, 0, 0, 44), 5, [], (0, 0))
def rX6_append : List zm_R := [(0, .aload_n 0, 0, [], 0, 0, (0, 0), false, []),
  (1, .aload_n 0, 0, [], 0, 0, (0, 0), false, []),
  (2, .getfield 160, 2, [6, 11, 27, 0], 0, 0, (0, 0), false, []),
  (5, .bipush 20, 0, [], 20, 0, (0, 0), false, []),
  (7, .iadd, 0, [], 0, 0, (0, 0), false, []),
  (8, .sipush 500, 0, [], 500, 0, (0, 0), false, []),
  (11, .if_icmp .gt 7, 1, [9], 0, 0, (0, 0), false, []),
  (14, .iconst 1, 0, [], 1, 0, (0, 0), false, []),
  (15, .goto 4, 1, [10], 0, 0, (0, 0), false, []),
  (18, .iconst 0, 0, [], 0, 0, (0, 0), false, []),
  (19, .invokevirtual 163, 6, [0, 0, 2, 1, 0, 6], 0, 0, (0, 0), false, []),
  (22, .ifCond .ne 5, 1, [14], 0, 0, (0, 0), false, []),
  (25, .iconst 0, 0, [], 0, 0, (0, 0), false, []),
  (26, .ireturn, 5, [0], 0, 0, (0, 0), false, []),
  (27, .aload_n 0, 0, [], 0, 0, (0, 0), false, []),
  (28, .iload_n 1, 0, [], 0, 0, (0, 0), false, []),
  (29, .invokevirtual 167, 6, [0, 1, 2, 0, 0, 6], 0, 0, (0, 0), false, []),
  (32, .aload_n 0, 0, [], 0, 0, (0, 0), false, []),
  (33, .iload_n 2, 0, [], 0, 0, (0, 0), false, []),
  (34, .invokevirtual 167, 6, [0, 1, 2, 0, 0, 6], 0, 0, (0, 0), false, []),
  (37, .aload_n 0, 0, [], 0, 0, (0, 0), false, []),
  (38, .iload_n 3, 0, [], 0, 0, (0, 0), false, []),
  (39, .invokevirtual 167, 6, [0, 1, 2, 0, 0, 6], 0, 0, (0, 0), false, []),
  (42, .aload_n 0, 0, [], 0, 0, (0, 0), false, []),
  (43, .iload 4, 0, [], 0, 0, (0, 0), false, []),
  (45, .invokevirtual 167, 6, [0, 1, 2, 0, 0, 6], 0, 0, (0, 0), false, []),
  (48, .aload_n 0, 0, [], 0, 0, (0, 0), false, []),
  (49, .iload 5, 0, [], 0, 0, (0, 0), false, []),
  (51, .invokevirtual 167, 6, [0, 1, 2, 0, 0, 6], 0, 0, (0, 0), false, []),
  (54, .aload_n 0, 0, [], 0, 0, (0, 0), false, []),
  (55, .getfield 160, 2, [6, 11, 27, 0], 0, 0, (0, 0), false, []),
  (58, .ireturn, 5, [0], 0, 0, (0, 0), false, [])]
def eX6_append : List zm_M := [mX6_passes, mX6_appendFour]
noncomputable def vX6_append : List (zm_M × zm_S) := [(mX6_passes, sX6_passes), (mX6_appendFour, sX6_appendFour)]
noncomputable def sX6_append : zm_S := zsem vX6_append rX6_append 6
set_option maxRecDepth 100000 in
theorem aX6_append : zall RX6 mX6_append eX6_append rX6_append = true := by decide +kernel
set_option maxRecDepth 100000 in
theorem wX6_append : ∀ w ∈ zwds RX6 mX6_append eX6_append rX6_append, w ∈ gT := zwd_of [1237, 1312, 1314, 35, 119, 1315, 1320, 1322, 37, 119, 1323, 1320, 1322, 37, 119, 1323, 1320, 1322, 37, 119, 1323, 1320, 1322, 37, 119, 1323, 1320, 1322, 37, 119, 1323, 1237] (by decide +kernel) (by decide +kernel) (z7_no (by decide +kernel))
set_option maxRecDepth 100000 in
theorem xX6_append : ∀ w ∈ zwxs RX6 mX6_append eX6_append rX6_append, zspc w = true ∧ w ∈ lw_tbl := by decide +kernel
theorem tX6_append {l : Launch} (hlt : l.stackTraces = false) : MetA l mX6_append sX6_append := zmet (M := mX6_append) (own := RX6) (envM := eX6_append) hlt rfl (by decide +kernel) (by decide +kernel) rfl (fun j q hq => by
  match j, hq with
  | 0, hq => cases hq; exact tX6_passes hlt
  | 1, hq => cases hq; exact tX6_appendFour hlt
  | n + 2, hq => cases hq) aX6_append wX6_append xX6_append rfl
def mX6_truncate : zm_M := (yX6_truncate, cX6_truncate, 2, none, (2, 0, 0, 44), 1, [], (0, 0))
def rX6_truncate : List zm_R := [(0, .aload_n 0, 0, [], 0, 0, (0, 0), false, []),
  (1, .iload_n 1, 0, [], 0, 0, (0, 0), false, []),
  (2, .i2l, 0, [], 0, 0, (0, 0), false, []),
  (3, .lconst 0, 0, [], 0, 0, (0, 0), false, []),
  (4, .aload_n 0, 0, [], 0, 0, (0, 0), false, []),
  (5, .getfield 160, 2, [6, 11, 27, 0], 0, 0, (0, 0), false, []),
  (8, .i2l, 0, [], 0, 0, (0, 0), false, []),
  (9, .invokestatic 73, 6, [1, 0, 3, 1, 0, 6], 0, 0, (0, 0), false, []),
  (12, .invokevirtual 163, 6, [0, 1, 2, 1, 0, 6], 0, 0, (0, 0), false, []),
  (15, .ifCond .eq 8, 1, [13], 0, 0, (0, 0), false, []),
  (18, .aload_n 0, 0, [], 0, 0, (0, 0), false, []),
  (19, .iload_n 1, 0, [], 0, 0, (0, 0), false, []),
  (20, .putfield 160, 2, [6, 11, 27, 0], 0, 0, (0, 0), false, []),
  (23, .return_, 5, [], 0, 0, (0, 0), false, [])]
def eX6_truncate : List zm_M := [mX6_in, mX6_passes]
noncomputable def vX6_truncate : List (zm_M × zm_S) := [(mX6_in, sX6_in), (mX6_passes, sX6_passes)]
noncomputable def sX6_truncate : zm_S := zsem vX6_truncate rX6_truncate 2
set_option maxRecDepth 100000 in
theorem aX6_truncate : zall RX6 mX6_truncate eX6_truncate rX6_truncate = true := by decide +kernel
set_option maxRecDepth 100000 in
theorem wX6_truncate : ∀ w ∈ zwds RX6 mX6_truncate eX6_truncate rX6_truncate, w ∈ gT := zwd_of [1237, 1328, 1329, 119, 1330, 1312, 1314, 35, 119, 1315, 1237] (by decide +kernel) (by decide +kernel) (z7_no (by decide +kernel))
set_option maxRecDepth 100000 in
theorem xX6_truncate : ∀ w ∈ zwxs RX6 mX6_truncate eX6_truncate rX6_truncate, zspc w = true ∧ w ∈ lw_tbl := by decide +kernel
theorem tX6_truncate {l : Launch} (hlt : l.stackTraces = false) : MetA l mX6_truncate sX6_truncate := zmet (M := mX6_truncate) (own := RX6) (envM := eX6_truncate) hlt rfl (by decide +kernel) (by decide +kernel) rfl (fun j q hq => by
  match j, hq with
  | 0, hq => cases hq; exact tX6_in hlt
  | 1, hq => cases hq; exact tX6_passes hlt
  | n + 2, hq => cases hq) aX6_truncate wX6_truncate xX6_truncate rfl
def mX6_fine : zm_M := (yX6_fine, cX6_fine, 1, (some .boolean), (0, 0, 0, 0), 0, [], (0, 0))
def rX6_fine : List zm_R := [(0, .aload_n 0, 0, [], 0, 0, (0, 0), false, []),
  (1, .getfield 170, 2, [6, 17, 27, 0], 0, 0, (0, 0), false, []),
  (4, .ifCond .ne 7, 1, [5], 0, 0, (0, 0), false, []),
  (7, .iconst 1, 0, [], 1, 0, (0, 0), false, []),
  (8, .goto 4, 1, [6], 0, 0, (0, 0), false, []),
  (11, .iconst 0, 0, [], 0, 0, (0, 0), false, []),
  (12, .ireturn, 5, [1], 0, 0, (0, 0), false, [])]
def eX6_fine : List zm_M := []
noncomputable def vX6_fine : List (zm_M × zm_S) := []
noncomputable def sX6_fine : zm_S := zsem vX6_fine rX6_fine 1
set_option maxRecDepth 100000 in
theorem aX6_fine : zall RX6 mX6_fine eX6_fine rX6_fine = true := by decide +kernel
set_option maxRecDepth 100000 in
theorem wX6_fine : ∀ w ∈ zwds RX6 mX6_fine eX6_fine rX6_fine, w ∈ gT := zwd_of [1243] (by decide +kernel) (by decide +kernel) (z7_no (by decide +kernel))
set_option maxRecDepth 100000 in
theorem xX6_fine : ∀ w ∈ zwxs RX6 mX6_fine eX6_fine rX6_fine, zspc w = true ∧ w ∈ lw_tbl := by decide +kernel
theorem tX6_fine {l : Launch} (hlt : l.stackTraces = false) : MetA l mX6_fine sX6_fine := zmet (M := mX6_fine) (own := RX6) (envM := eX6_fine) hlt rfl (by decide +kernel) (by decide +kernel) rfl (fun j q hq => by cases hq) aX6_fine wX6_fine xX6_fine rfl
def mX6_errs : zm_M := (yX6_errs, cX6_errs, 2, none, (1, 0, 0, 20), 1, [], (0, 0))
def rX6_errs : List zm_R := [(0, .aload_n 0, 0, [], 0, 0, (0, 0), false, []),
  (1, .invokevirtual 173, 6, [0, 0, 1, 1, 0, 6], 0, 0, (0, 0), false, []),
  (4, .ifCond .ne 4, 1, [4], 0, 0, (0, 0), false, []),
  (7, .return_, 5, [], 0, 0, (0, 0), false, []),
  (8, .aload_n 0, 0, [], 0, 0, (0, 0), false, []),
  (9, .iload_n 1, 0, [], 0, 0, (0, 0), false, []),
  (10, .putfield 170, 2, [6, 17, 27, 0], 0, 0, (0, 0), false, []),
  (13, .aload_n 0, 0, [], 0, 0, (0, 0), false, []),
  (14, .aload_n 0, 0, [], 0, 0, (0, 0), false, []),
  (15, .getfield 177, 2, [6, 14, 27, 0], 0, 0, (0, 0), false, []),
  (18, .putfield 51, 2, [6, 18, 27, 0], 0, 0, (0, 0), false, []),
  (21, .return_, 5, [], 0, 0, (0, 0), false, [])]
def eX6_errs : List zm_M := [mX6_fine]
noncomputable def vX6_errs : List (zm_M × zm_S) := [(mX6_fine, sX6_fine)]
noncomputable def sX6_errs : zm_S := zsem vX6_errs rX6_errs 2
set_option maxRecDepth 100000 in
theorem aX6_errs : zall RX6 mX6_errs eX6_errs rX6_errs = true := by decide +kernel
set_option maxRecDepth 100000 in
theorem wX6_errs : ∀ w ∈ zwds RX6 mX6_errs eX6_errs rX6_errs, w ∈ gT := zwd_of [1352, 1354, 41, 119, 1355, 1243, 1240, 1244] (by decide +kernel) (by decide +kernel) (z7_no (by decide +kernel))
set_option maxRecDepth 100000 in
theorem xX6_errs : ∀ w ∈ zwxs RX6 mX6_errs eX6_errs rX6_errs, zspc w = true ∧ w ∈ lw_tbl := by decide +kernel
theorem tX6_errs {l : Launch} (hlt : l.stackTraces = false) : MetA l mX6_errs sX6_errs := zmet (M := mX6_errs) (own := RX6) (envM := eX6_errs) hlt rfl (by decide +kernel) (by decide +kernel) rfl (fun j q hq => by
  match j, hq with
  | 0, hq => cases hq; exact tX6_fine hlt
  | n + 1, hq => cases hq) aX6_errs wX6_errs xX6_errs rfl
def mX6_byteAt : zm_M := (yX6_byteAt, cX6_byteAt, 2, (some .int), (0, 0, 0, 0), 1, [], (0, 0))
def rX6_byteAt : List zm_R := [(0, .iload_n 1, 0, [], 0, 0, (0, 0), false, []),
  (1, .aload_n 0, 0, [], 0, 0, (0, 0), false, []),
  (2, .getfield 180, 2, [6, 12, 27, 0], 0, 0, (0, 0), false, []),
  (5, .if_icmp .ge 16, 1, [11], 0, 0, (0, 0), false, []),
  (8, .aload_n 0, 0, [], 0, 0, (0, 0), false, []),
  (9, .getfield 47, 2, [6, 10, 27, 2], 0, 0, (0, 0), false, []),
  (12, .iload_n 1, 0, [], 0, 0, (0, 0), false, []),
  (13, .baload, 3, [2], 0, 0, (0, 0), false, []),
  (14, .sipush 255, 0, [], 255, 0, (0, 0), false, []),
  (17, .iand, 0, [], 0, 0, (0, 0), false, []),
  (18, .goto 4, 1, [12], 0, 0, (0, 0), false, []),
  (21, .iconst (-1), 0, [], (-1), 0, (0, 0), false, []),
  (22, .ireturn, 5, [0], 0, 0, (0, 0), false, [])]
def eX6_byteAt : List zm_M := []
noncomputable def vX6_byteAt : List (zm_M × zm_S) := []
noncomputable def sX6_byteAt : zm_S := zsem vX6_byteAt rX6_byteAt 2
set_option maxRecDepth 100000 in
theorem aX6_byteAt : zall RX6 mX6_byteAt eX6_byteAt rX6_byteAt = true := by decide +kernel
set_option maxRecDepth 100000 in
theorem wX6_byteAt : ∀ w ∈ zwds RX6 mX6_byteAt eX6_byteAt rX6_byteAt, w ∈ gT := zwd_of [1238, 1236] (by decide +kernel) (by decide +kernel) (z7_no (by decide +kernel))
set_option maxRecDepth 100000 in
theorem xX6_byteAt : ∀ w ∈ zwxs RX6 mX6_byteAt eX6_byteAt rX6_byteAt, zspc w = true ∧ w ∈ lw_tbl := by decide +kernel
theorem tX6_byteAt {l : Launch} (hlt : l.stackTraces = false) : MetA l mX6_byteAt sX6_byteAt := zmet (M := mX6_byteAt) (own := RX6) (envM := eX6_byteAt) hlt rfl (by decide +kernel) (by decide +kernel) rfl (fun j q hq => by cases hq) aX6_byteAt wX6_byteAt xX6_byteAt rfl
def mX6_scan : zm_M := (yX6_scan, cX6_scan, 2, none, (1, 0, 0, 25), 0, [], (0, 0))
def rX6_scan : List zm_R := [(0, .aload_n 0, 0, [], 0, 0, (0, 0), true, [1]),
  (1, .aload_n 0, 0, [], 0, 0, (0, 0), false, []),
  (2, .getfield 183, 2, [6, 13, 27, 0], 0, 0, (0, 0), false, []),
  (5, .invokevirtual 186, 6, [0, 0, 2, 1, 0, 6], 0, 0, (0, 0), false, []),
  (8, .bipush 32, 0, [], 32, 0, (0, 0), false, []),
  (10, .if_icmp .eq 16, 1, [12], 0, 0, (0, 0), false, []),
  (13, .aload_n 0, 0, [], 0, 0, (0, 0), false, []),
  (14, .aload_n 0, 0, [], 0, 0, (0, 0), false, []),
  (15, .getfield 183, 2, [6, 13, 27, 0], 0, 0, (0, 0), false, []),
  (18, .invokevirtual 186, 6, [0, 0, 2, 1, 0, 6], 0, 0, (0, 0), false, []),
  (21, .bipush 10, 0, [], 10, 0, (0, 0), false, []),
  (23, .if_icmp .ne 16, 1, [19], 0, 0, (0, 0), false, []),
  (26, .aload_n 0, 0, [], 0, 0, (0, 0), false, []),
  (27, .dup, 0, [], 0, 0, (0, 0), false, []),
  (28, .getfield 183, 2, [6, 13, 27, 0], 0, 0, (0, 0), false, []),
  (31, .iconst 1, 0, [], 1, 0, (0, 0), false, []),
  (32, .iadd, 0, [], 0, 0, (0, 0), false, []),
  (33, .putfield 183, 2, [6, 13, 27, 0], 0, 0, (0, 0), false, []),
  (36, .goto (-36), 1, [0], 0, 0, (0, 0), false, []),
  (39, .aload_n 0, 0, [], 0, 0, (0, 0), false, []),
  (40, .aload_n 0, 0, [], 0, 0, (0, 0), false, []),
  (41, .getfield 183, 2, [6, 13, 27, 0], 0, 0, (0, 0), false, []),
  (44, .putfield 177, 2, [6, 14, 27, 0], 0, 0, (0, 0), false, []),
  (47, .aload_n 0, 0, [], 0, 0, (0, 0), false, []),
  (48, .aload_n 0, 0, [], 0, 0, (0, 0), false, []),
  (49, .getfield 183, 2, [6, 13, 27, 0], 0, 0, (0, 0), false, []),
  (52, .invokevirtual 186, 6, [0, 0, 2, 1, 0, 6], 0, 0, (0, 0), false, []),
  (55, .istore_n 1, 0, [], 0, 0, (0, 0), false, []),
  (56, .iload_n 1, 0, [], 0, 0, (0, 0), false, []),
  (57, .iconst (-1), 0, [], (-1), 0, (0, 0), false, []),
  (58, .if_icmp .ne 11, 1, [35], 0, 0, (0, 0), false, []),
  (61, .aload_n 0, 0, [], 0, 0, (0, 0), false, []),
  (62, .iconst 0, 0, [], 0, 0, (0, 0), false, []),
  (63, .putfield 189, 2, [6, 15, 27, 0], 0, 0, (0, 0), false, []),
  (66, .goto 169, 1, [117], 0, 0, (0, 0), false, []),
  (69, .iload_n 1, 0, [], 0, 0, (0, 0), false, []),
  (70, .i2l, 0, [], 0, 0, (0, 0), false, []),
  (71, .ldc2_w 192, 9, [1], 0, 97, (0, 0), false, []),
  (74, .ldc2_w 194, 9, [1], 0, 122, (0, 0), false, []),
  (77, .invokestatic 73, 6, [1, 1, 3, 1, 0, 6], 0, 0, (0, 0), false, []),
  (80, .ifCond .eq 45, 1, [61], 0, 0, (0, 0), false, []),
  (83, .aload_n 0, 0, [], 0, 0, (0, 0), true, [1]),
  (84, .aload_n 0, 0, [], 0, 0, (0, 0), false, []),
  (85, .getfield 183, 2, [6, 13, 27, 0], 0, 0, (0, 0), false, []),
  (88, .invokevirtual 186, 6, [0, 0, 2, 1, 0, 6], 0, 0, (0, 0), false, []),
  (91, .i2l, 0, [], 0, 0, (0, 0), false, []),
  (92, .ldc2_w 192, 9, [1], 0, 97, (0, 0), false, []),
  (95, .ldc2_w 194, 9, [1], 0, 122, (0, 0), false, []),
  (98, .invokestatic 73, 6, [1, 1, 3, 1, 0, 6], 0, 0, (0, 0), false, []),
  (101, .ifCond .eq 16, 1, [57], 0, 0, (0, 0), false, []),
  (104, .aload_n 0, 0, [], 0, 0, (0, 0), false, []),
  (105, .dup, 0, [], 0, 0, (0, 0), false, []),
  (106, .getfield 183, 2, [6, 13, 27, 0], 0, 0, (0, 0), false, []),
  (109, .iconst 1, 0, [], 1, 0, (0, 0), false, []),
  (110, .iadd, 0, [], 0, 0, (0, 0), false, []),
  (111, .putfield 183, 2, [6, 13, 27, 0], 0, 0, (0, 0), false, []),
  (114, .goto (-31), 1, [41], 0, 0, (0, 0), false, []),
  (117, .aload_n 0, 0, [], 0, 0, (0, 0), false, []),
  (118, .iconst 1, 0, [], 1, 0, (0, 0), false, []),
  (119, .putfield 189, 2, [6, 15, 27, 0], 0, 0, (0, 0), false, []),
  (122, .goto 113, 1, [117], 0, 0, (0, 0), false, []),
  (125, .iload_n 1, 0, [], 0, 0, (0, 0), false, []),
  (126, .i2l, 0, [], 0, 0, (0, 0), false, []),
  (127, .ldc2_w 196, 9, [1], 0, 48, (0, 0), false, []),
  (130, .ldc2_w 198, 9, [1], 0, 57, (0, 0), false, []),
  (133, .invokestatic 73, 6, [1, 1, 3, 1, 0, 6], 0, 0, (0, 0), false, []),
  (136, .ifCond .eq 79, 1, [105], 0, 0, (0, 0), false, []),
  (139, .aload_n 0, 0, [], 0, 0, (0, 0), false, []),
  (140, .iconst 0, 0, [], 0, 0, (0, 0), false, []),
  (141, .putfield 200, 2, [6, 16, 27, 0], 0, 0, (0, 0), false, []),
  (144, .aload_n 0, 0, [], 0, 0, (0, 0), true, [1]),
  (145, .aload_n 0, 0, [], 0, 0, (0, 0), false, []),
  (146, .getfield 183, 2, [6, 13, 27, 0], 0, 0, (0, 0), false, []),
  (149, .invokevirtual 186, 6, [0, 0, 2, 1, 0, 6], 0, 0, (0, 0), false, []),
  (152, .i2l, 0, [], 0, 0, (0, 0), false, []),
  (153, .ldc2_w 196, 9, [1], 0, 48, (0, 0), false, []),
  (156, .ldc2_w 198, 9, [1], 0, 57, (0, 0), false, []),
  (159, .invokestatic 73, 6, [1, 1, 3, 1, 0, 6], 0, 0, (0, 0), false, []),
  (162, .ifCond .eq 45, 1, [101], 0, 0, (0, 0), false, []),
  (165, .aload_n 0, 0, [], 0, 0, (0, 0), false, []),
  (166, .sipush 9999, 0, [], 9999, 0, (0, 0), false, []),
  (169, .bipush 10, 0, [], 10, 0, (0, 0), false, []),
  (171, .aload_n 0, 0, [], 0, 0, (0, 0), false, []),
  (172, .getfield 200, 2, [6, 16, 27, 0], 0, 0, (0, 0), false, []),
  (175, .imul, 0, [], 0, 0, (0, 0), false, []),
  (176, .aload_n 0, 0, [], 0, 0, (0, 0), false, []),
  (177, .aload_n 0, 0, [], 0, 0, (0, 0), false, []),
  (178, .getfield 183, 2, [6, 13, 27, 0], 0, 0, (0, 0), false, []),
  (181, .invokevirtual 186, 6, [0, 0, 2, 1, 0, 6], 0, 0, (0, 0), false, []),
  (184, .iadd, 0, [], 0, 0, (0, 0), false, []),
  (185, .bipush 48, 0, [], 48, 0, (0, 0), false, []),
  (187, .isub, 0, [], 0, 0, (0, 0), false, []),
  (188, .invokestatic 203, 13, [1], 0, 0, (0, 0), false, []),
  (191, .putfield 200, 2, [6, 16, 27, 0], 0, 0, (0, 0), false, []),
  (194, .aload_n 0, 0, [], 0, 0, (0, 0), false, []),
  (195, .dup, 0, [], 0, 0, (0, 0), false, []),
  (196, .getfield 183, 2, [6, 13, 27, 0], 0, 0, (0, 0), false, []),
  (199, .iconst 1, 0, [], 1, 0, (0, 0), false, []),
  (200, .iadd, 0, [], 0, 0, (0, 0), false, []),
  (201, .putfield 183, 2, [6, 13, 27, 0], 0, 0, (0, 0), false, []),
  (204, .goto (-60), 1, [70], 0, 0, (0, 0), false, []),
  (207, .aload_n 0, 0, [], 0, 0, (0, 0), false, []),
  (208, .iconst 2, 0, [], 2, 0, (0, 0), false, []),
  (209, .putfield 189, 2, [6, 15, 27, 0], 0, 0, (0, 0), false, []),
  (212, .goto 23, 1, [117], 0, 0, (0, 0), false, []),
  (215, .aload_n 0, 0, [], 0, 0, (0, 0), false, []),
  (216, .iconst 3, 0, [], 3, 0, (0, 0), false, []),
  (217, .putfield 189, 2, [6, 15, 27, 0], 0, 0, (0, 0), false, []),
  (220, .aload_n 0, 0, [], 0, 0, (0, 0), false, []),
  (221, .iload_n 1, 0, [], 0, 0, (0, 0), false, []),
  (222, .putfield 200, 2, [6, 16, 27, 0], 0, 0, (0, 0), false, []),
  (225, .aload_n 0, 0, [], 0, 0, (0, 0), false, []),
  (226, .dup, 0, [], 0, 0, (0, 0), false, []),
  (227, .getfield 183, 2, [6, 13, 27, 0], 0, 0, (0, 0), false, []),
  (230, .iconst 1, 0, [], 1, 0, (0, 0), false, []),
  (231, .iadd, 0, [], 0, 0, (0, 0), false, []),
  (232, .putfield 183, 2, [6, 13, 27, 0], 0, 0, (0, 0), false, []),
  (235, .return_, 5, [], 0, 0, (0, 0), false, [])]
def eX6_scan : List zm_M := [mX6_byteAt, mX6_in]
noncomputable def vX6_scan : List (zm_M × zm_S) := [(mX6_byteAt, sX6_byteAt), (mX6_in, sX6_in)]
noncomputable def sX6_scan : zm_S := zsem vX6_scan rX6_scan 2
set_option maxRecDepth 100000 in
theorem aX6_scan : zall RX6 mX6_scan eX6_scan rX6_scan = true := by decide +kernel
set_option maxRecDepth 100000 in
theorem wX6_scan : ∀ w ∈ zwds RX6 mX6_scan eX6_scan rX6_scan, w ∈ gT := zwd_of [1239, 1339, 1341, 39, 119, 1342, 1239, 1339, 1341, 39, 119, 1342, 1239, 1239, 1239, 1240, 1239, 1339, 1341, 39, 119, 1342, 1241, 1343, 1344, 1328, 1329, 119, 1330, 1239, 1339, 1341, 39, 119, 1342, 1343, 1344, 1328, 1329, 119, 1330, 1239, 1239, 1241, 1345, 1346, 1328, 1329, 119, 1330, 1242, 1239, 1339, 1341, 39, 119, 1342, 1345, 1346, 1328, 1329, 119, 1330, 1242, 1239, 1339, 1341, 39, 119, 1342, 1347, 384, 126, 385, 1242, 1239, 1239, 1241, 1241, 1242, 1239, 1239] (by decide +kernel) (by decide +kernel) (z7_no (by decide +kernel))
set_option maxRecDepth 100000 in
theorem xX6_scan : ∀ w ∈ zwxs RX6 mX6_scan eX6_scan rX6_scan, zspc w = true ∧ w ∈ lw_tbl := by decide +kernel
theorem tX6_scan {l : Launch} (hlt : l.stackTraces = false) : MetA l mX6_scan sX6_scan := zmet (M := mX6_scan) (own := RX6) (envM := eX6_scan) hlt rfl (by decide +kernel) (by decide +kernel) rfl (fun j q hq => by
  match j, hq with
  | 0, hq => cases hq; exact tX6_byteAt hlt
  | 1, hq => cases hq; exact tX6_in hlt
  | n + 2, hq => cases hq) aX6_scan wX6_scan xX6_scan rfl
def mX6_goOn : zm_M := (yX6_goOn, cX6_goOn, 1, none, (2, 0, 0, 46), 0, [], (0, 0))
def rX6_goOn : List zm_R := [(0, .aload_n 0, 0, [], 0, 0, (0, 0), false, []),
  (1, .invokevirtual 173, 6, [0, 0, 1, 1, 0, 6], 0, 0, (0, 0), false, []),
  (4, .ifCond .eq 7, 1, [5], 0, 0, (0, 0), false, []),
  (7, .aload_n 0, 0, [], 0, 0, (0, 0), false, []),
  (8, .invokevirtual 206, 6, [0, 1, 1, 0, 0, 6], 0, 0, (0, 0), false, []),
  (11, .return_, 5, [], 0, 0, (0, 0), false, [])]
def eX6_goOn : List zm_M := [mX6_fine, mX6_scan]
noncomputable def vX6_goOn : List (zm_M × zm_S) := [(mX6_fine, sX6_fine), (mX6_scan, sX6_scan)]
noncomputable def sX6_goOn : zm_S := zsem vX6_goOn rX6_goOn 1
set_option maxRecDepth 100000 in
theorem aX6_goOn : zall RX6 mX6_goOn eX6_goOn rX6_goOn = true := by decide +kernel
set_option maxRecDepth 100000 in
theorem wX6_goOn : ∀ w ∈ zwds RX6 mX6_goOn eX6_goOn rX6_goOn, w ∈ gT := zwd_of [1352, 1354, 41, 119, 1355, 1335, 1337, 38, 119, 1338] (by decide +kernel) (by decide +kernel) (z7_no (by decide +kernel))
set_option maxRecDepth 100000 in
theorem xX6_goOn : ∀ w ∈ zwxs RX6 mX6_goOn eX6_goOn rX6_goOn, zspc w = true ∧ w ∈ lw_tbl := by decide +kernel
theorem tX6_goOn {l : Launch} (hlt : l.stackTraces = false) : MetA l mX6_goOn sX6_goOn := zmet (M := mX6_goOn) (own := RX6) (envM := eX6_goOn) hlt rfl (by decide +kernel) (by decide +kernel) rfl (fun j q hq => by
  match j, hq with
  | 0, hq => cases hq; exact tX6_fine hlt
  | 1, hq => cases hq; exact tX6_scan hlt
  | n + 2, hq => cases hq) aX6_goOn wX6_goOn xX6_goOn rfl
def mX6_isWord : zm_M := (yX6_isWord, cX6_isWord, 4, (some .boolean), (5, 0, 0, 171), 1, [], (0, 0))
def rX6_isWord : List zm_R := [(0, .aload_n 0, 0, [], 0, 0, (0, 0), false, []),
  (1, .invokevirtual 173, 6, [0, 0, 1, 1, 0, 6], 0, 0, (0, 0), false, []),
  (4, .ifCond .eq 31, 1, [17], 0, 0, (0, 0), false, []),
  (7, .aload_n 0, 0, [], 0, 0, (0, 0), false, []),
  (8, .getfield 189, 2, [6, 15, 27, 0], 0, 0, (0, 0), false, []),
  (11, .iconst 1, 0, [], 1, 0, (0, 0), false, []),
  (12, .if_icmp .ne 23, 1, [17], 0, 0, (0, 0), false, []),
  (15, .aload_n 0, 0, [], 0, 0, (0, 0), false, []),
  (16, .getfield 183, 2, [6, 13, 27, 0], 0, 0, (0, 0), false, []),
  (19, .aload_n 0, 0, [], 0, 0, (0, 0), false, []),
  (20, .getfield 177, 2, [6, 14, 27, 0], 0, 0, (0, 0), false, []),
  (23, .isub, 0, [], 0, 0, (0, 0), false, []),
  (24, .aload_n 1, 0, [], 0, 0, (0, 0), false, []),
  (25, .invokevirtual 209, 6, [6, 1, 1, 1, 0, 0], 0, 0, (0, 0), false, []),
  (28, .if_icmp .ne 7, 1, [17], 0, 0, (0, 0), false, []),
  (31, .iconst 1, 0, [], 1, 0, (0, 0), false, []),
  (32, .goto 4, 1, [18], 0, 0, (0, 0), false, []),
  (35, .iconst 0, 0, [], 0, 0, (0, 0), false, []),
  (36, .istore_n 2, 0, [], 0, 0, (0, 0), false, []),
  (37, .iconst 0, 0, [], 0, 0, (0, 0), false, []),
  (38, .istore_n 3, 0, [], 0, 0, (0, 0), false, []),
  (39, .iload_n 3, 0, [], 0, 0, (0, 0), true, []),
  (40, .aload_n 1, 0, [], 0, 0, (0, 0), false, []),
  (41, .invokevirtual 209, 6, [6, 1, 1, 1, 0, 0], 0, 0, (0, 0), false, []),
  (44, .if_icmp .ge 38, 1, [44], 0, 0, (0, 0), false, []),
  (47, .iload_n 2, 0, [], 0, 0, (0, 0), false, []),
  (48, .ifCond .eq 34, 1, [44], 0, 0, (0, 0), false, []),
  (51, .aload_n 0, 0, [], 0, 0, (0, 0), false, []),
  (52, .getfield 47, 2, [6, 10, 27, 2], 0, 0, (0, 0), false, []),
  (55, .aload_n 0, 0, [], 0, 0, (0, 0), false, []),
  (56, .getfield 177, 2, [6, 14, 27, 0], 0, 0, (0, 0), false, []),
  (59, .iload_n 3, 0, [], 0, 0, (0, 0), false, []),
  (60, .iadd, 0, [], 0, 0, (0, 0), false, []),
  (61, .baload, 3, [2], 0, 0, (0, 0), false, []),
  (62, .aload_n 1, 0, [], 0, 0, (0, 0), false, []),
  (63, .iload_n 3, 0, [], 0, 0, (0, 0), false, []),
  (64, .invokevirtual 214, 6, [6, 2, 2, 1, 0, 0], 0, 0, (0, 0), false, []),
  (67, .if_icmp .ne 7, 1, [40], 0, 0, (0, 0), false, []),
  (70, .iconst 1, 0, [], 1, 0, (0, 0), false, []),
  (71, .goto 4, 1, [41], 0, 0, (0, 0), false, []),
  (74, .iconst 0, 0, [], 0, 0, (0, 0), false, []),
  (75, .istore_n 2, 0, [], 0, 0, (0, 0), false, []),
  (76, .iinc 3 1, 0, [], 1, 0, (0, 0), false, []),
  (79, .goto (-40), 1, [21], 0, 0, (0, 0), false, []),
  (82, .iload_n 2, 0, [], 0, 0, (0, 0), false, []),
  (83, .ireturn, 5, [1], 0, 0, (0, 0), false, [])]
def eX6_isWord : List zm_M := [mX6_fine, mJ0_length_8abf5, mJ0_charAt_5068e]
noncomputable def vX6_isWord : List (zm_M × zm_S) := [(mX6_fine, sX6_fine), (mJ0_length_8abf5, sJ0_length_8abf5), (mJ0_charAt_5068e, sJ0_charAt_5068e)]
noncomputable def sX6_isWord : zm_S := zsem vX6_isWord rX6_isWord 4
set_option maxRecDepth 100000 in
theorem aX6_isWord : zall RX6 mX6_isWord eX6_isWord rX6_isWord = true := by decide +kernel
set_option maxRecDepth 100000 in
theorem wX6_isWord : ∀ w ∈ zwds RX6 mX6_isWord eX6_isWord rX6_isWord, w ∈ gT := zwd_of [1352, 1354, 41, 119, 1355, 1241, 1239, 1240, 1369, 1370, 1371, 128, 1372, 1369, 1370, 1371, 128, 1372, 1236, 1240, 1379, 1380, 1381, 128, 1382] (by decide +kernel) (by decide +kernel) (z7_no (by decide +kernel))
set_option maxRecDepth 100000 in
theorem xX6_isWord : ∀ w ∈ zwxs RX6 mX6_isWord eX6_isWord rX6_isWord, zspc w = true ∧ w ∈ lw_tbl := by decide +kernel
theorem tX6_isWord {l : Launch} (hlt : l.stackTraces = false) : MetA l mX6_isWord sX6_isWord := zmet (M := mX6_isWord) (own := RX6) (envM := eX6_isWord) hlt rfl (by decide +kernel) (by decide +kernel) rfl (fun j q hq => by
  match j, hq with
  | 0, hq => cases hq; exact tX6_fine hlt
  | 1, hq => cases hq; exact tJ0_length_8abf5 hlt
  | 2, hq => cases hq; exact tJ0_charAt_5068e hlt
  | n + 3, hq => cases hq) aX6_isWord wX6_isWord xX6_isWord rfl
def mX6_numberHere : zm_M := (yX6_numberHere, cX6_numberHere, 3, (some .int), (2, 0, 0, 41), 2, [], (0, 0))
def rX6_numberHere : List zm_R := [(0, .aload_n 0, 0, [], 0, 0, (0, 0), false, []),
  (1, .invokevirtual 173, 6, [0, 0, 1, 1, 0, 6], 0, 0, (0, 0), false, []),
  (4, .ifCond .eq 16, 1, [10], 0, 0, (0, 0), false, []),
  (7, .aload_n 0, 0, [], 0, 0, (0, 0), false, []),
  (8, .getfield 189, 2, [6, 15, 27, 0], 0, 0, (0, 0), false, []),
  (11, .iconst 2, 0, [], 2, 0, (0, 0), false, []),
  (12, .if_icmp .eq 8, 1, [10], 0, 0, (0, 0), false, []),
  (15, .aload_n 0, 0, [], 0, 0, (0, 0), false, []),
  (16, .iconst 1, 0, [], 1, 0, (0, 0), false, []),
  (17, .invokevirtual 218, 6, [0, 2, 2, 0, 0, 6], 0, 0, (0, 0), false, []),
  (20, .aload_n 0, 0, [], 0, 0, (0, 0), false, []),
  (21, .invokevirtual 173, 6, [0, 0, 1, 1, 0, 6], 0, 0, (0, 0), false, []),
  (24, .ifCond .eq 23, 1, [25], 0, 0, (0, 0), false, []),
  (27, .aload_n 0, 0, [], 0, 0, (0, 0), false, []),
  (28, .getfield 200, 2, [6, 16, 27, 0], 0, 0, (0, 0), false, []),
  (31, .i2l, 0, [], 0, 0, (0, 0), false, []),
  (32, .iload_n 1, 0, [], 0, 0, (0, 0), false, []),
  (33, .i2l, 0, [], 0, 0, (0, 0), false, []),
  (34, .iload_n 2, 0, [], 0, 0, (0, 0), false, []),
  (35, .i2l, 0, [], 0, 0, (0, 0), false, []),
  (36, .invokestatic 73, 6, [1, 1, 3, 1, 0, 6], 0, 0, (0, 0), false, []),
  (39, .ifCond .ne 8, 1, [25], 0, 0, (0, 0), false, []),
  (42, .aload_n 0, 0, [], 0, 0, (0, 0), false, []),
  (43, .iconst 2, 0, [], 2, 0, (0, 0), false, []),
  (44, .invokevirtual 218, 6, [0, 2, 2, 0, 0, 6], 0, 0, (0, 0), false, []),
  (47, .aload_n 0, 0, [], 0, 0, (0, 0), false, []),
  (48, .invokevirtual 173, 6, [0, 0, 1, 1, 0, 6], 0, 0, (0, 0), false, []),
  (51, .ifCond .eq 10, 1, [31], 0, 0, (0, 0), false, []),
  (54, .aload_n 0, 0, [], 0, 0, (0, 0), false, []),
  (55, .getfield 200, 2, [6, 16, 27, 0], 0, 0, (0, 0), false, []),
  (58, .goto 4, 1, [32], 0, 0, (0, 0), false, []),
  (61, .iload_n 1, 0, [], 0, 0, (0, 0), false, []),
  (62, .ireturn, 5, [0], 0, 0, (0, 0), false, [])]
def eX6_numberHere : List zm_M := [mX6_fine, mX6_in, mX6_errs]
noncomputable def vX6_numberHere : List (zm_M × zm_S) := [(mX6_fine, sX6_fine), (mX6_in, sX6_in), (mX6_errs, sX6_errs)]
noncomputable def sX6_numberHere : zm_S := zsem vX6_numberHere rX6_numberHere 3
set_option maxRecDepth 100000 in
theorem aX6_numberHere : zall RX6 mX6_numberHere eX6_numberHere rX6_numberHere = true := by decide +kernel
set_option maxRecDepth 100000 in
theorem wX6_numberHere : ∀ w ∈ zwds RX6 mX6_numberHere eX6_numberHere rX6_numberHere, w ∈ gT := zwd_of [1352, 1354, 41, 119, 1355, 1241, 1356, 1358, 42, 119, 1359, 1352, 1354, 41, 119, 1355, 1242, 1328, 1329, 119, 1330, 1356, 1358, 42, 119, 1359, 1352, 1354, 41, 119, 1355, 1242] (by decide +kernel) (by decide +kernel) (z7_no (by decide +kernel))
set_option maxRecDepth 100000 in
theorem xX6_numberHere : ∀ w ∈ zwxs RX6 mX6_numberHere eX6_numberHere rX6_numberHere, zspc w = true ∧ w ∈ lw_tbl := by decide +kernel
theorem tX6_numberHere {l : Launch} (hlt : l.stackTraces = false) : MetA l mX6_numberHere sX6_numberHere := zmet (M := mX6_numberHere) (own := RX6) (envM := eX6_numberHere) hlt rfl (by decide +kernel) (by decide +kernel) rfl (fun j q hq => by
  match j, hq with
  | 0, hq => cases hq; exact tX6_fine hlt
  | 1, hq => cases hq; exact tX6_in hlt
  | 2, hq => cases hq; exact tX6_errs hlt
  | n + 3, hq => cases hq) aX6_numberHere wX6_numberHere xX6_numberHere rfl
def mX6_number : zm_M := (yX6_number, cX6_number, 4, (some .int), (3, 0, 0, 66), 2, [], (0, 0))
def rX6_number : List zm_R := [(0, .aload_n 0, 0, [], 0, 0, (0, 0), false, []),
  (1, .iload_n 1, 0, [], 0, 0, (0, 0), false, []),
  (2, .iload_n 2, 0, [], 0, 0, (0, 0), false, []),
  (3, .invokevirtual 221, 6, [0, 0, 3, 1, 0, 6], 0, 0, (0, 0), false, []),
  (6, .istore_n 3, 0, [], 0, 0, (0, 0), false, []),
  (7, .aload_n 0, 0, [], 0, 0, (0, 0), false, []),
  (8, .invokevirtual 224, 6, [0, 1, 1, 0, 0, 6], 0, 0, (0, 0), false, []),
  (11, .iload_n 3, 0, [], 0, 0, (0, 0), false, []),
  (12, .ireturn, 5, [0], 0, 0, (0, 0), false, [])]
def eX6_number : List zm_M := [mX6_numberHere, mX6_goOn]
noncomputable def vX6_number : List (zm_M × zm_S) := [(mX6_numberHere, sX6_numberHere), (mX6_goOn, sX6_goOn)]
noncomputable def sX6_number : zm_S := zsem vX6_number rX6_number 4
set_option maxRecDepth 100000 in
theorem aX6_number : zall RX6 mX6_number eX6_number rX6_number = true := by decide +kernel
set_option maxRecDepth 100000 in
theorem wX6_number : ∀ w ∈ zwds RX6 mX6_number eX6_number rX6_number, w ∈ gT := zwd_of [1459, 1461, 53, 119, 1462, 1425, 1427, 47, 119, 1428] (by decide +kernel) (by decide +kernel) (z7_no (by decide +kernel))
set_option maxRecDepth 100000 in
theorem xX6_number : ∀ w ∈ zwxs RX6 mX6_number eX6_number rX6_number, zspc w = true ∧ w ∈ lw_tbl := by decide +kernel
theorem tX6_number {l : Launch} (hlt : l.stackTraces = false) : MetA l mX6_number sX6_number := zmet (M := mX6_number) (own := RX6) (envM := eX6_number) hlt rfl (by decide +kernel) (by decide +kernel) rfl (fun j q hq => by
  match j, hq with
  | 0, hq => cases hq; exact tX6_numberHere hlt
  | 1, hq => cases hq; exact tX6_goOn hlt
  | n + 2, hq => cases hq) aX6_number wX6_number xX6_number rfl
def mX6_semicolon : zm_M := (yX6_semicolon, cX6_semicolon, 1, none, (3, 0, 0, 66), 0, [], (0, 0))
def rX6_semicolon : List zm_R := [(0, .aload_n 0, 0, [], 0, 0, (0, 0), false, []),
  (1, .invokevirtual 173, 6, [0, 0, 1, 1, 0, 6], 0, 0, (0, 0), false, []),
  (4, .ifCond .eq 20, 1, [11], 0, 0, (0, 0), false, []),
  (7, .aload_n 0, 0, [], 0, 0, (0, 0), false, []),
  (8, .getfield 189, 2, [6, 15, 27, 0], 0, 0, (0, 0), false, []),
  (11, .iconst 3, 0, [], 3, 0, (0, 0), false, []),
  (12, .if_icmp .ne 12, 1, [11], 0, 0, (0, 0), false, []),
  (15, .aload_n 0, 0, [], 0, 0, (0, 0), false, []),
  (16, .getfield 200, 2, [6, 16, 27, 0], 0, 0, (0, 0), false, []),
  (19, .bipush 59, 0, [], 59, 0, (0, 0), false, []),
  (21, .if_icmp .eq 8, 1, [14], 0, 0, (0, 0), false, []),
  (24, .aload_n 0, 0, [], 0, 0, (0, 0), false, []),
  (25, .iconst 1, 0, [], 1, 0, (0, 0), false, []),
  (26, .invokevirtual 218, 6, [0, 1, 2, 0, 0, 6], 0, 0, (0, 0), false, []),
  (29, .aload_n 0, 0, [], 0, 0, (0, 0), false, []),
  (30, .invokevirtual 224, 6, [0, 2, 1, 0, 0, 6], 0, 0, (0, 0), false, []),
  (33, .return_, 5, [], 0, 0, (0, 0), false, [])]
def eX6_semicolon : List zm_M := [mX6_fine, mX6_errs, mX6_goOn]
noncomputable def vX6_semicolon : List (zm_M × zm_S) := [(mX6_fine, sX6_fine), (mX6_errs, sX6_errs), (mX6_goOn, sX6_goOn)]
noncomputable def sX6_semicolon : zm_S := zsem vX6_semicolon rX6_semicolon 1
set_option maxRecDepth 100000 in
theorem aX6_semicolon : zall RX6 mX6_semicolon eX6_semicolon rX6_semicolon = true := by decide +kernel
set_option maxRecDepth 100000 in
theorem wX6_semicolon : ∀ w ∈ zwds RX6 mX6_semicolon eX6_semicolon rX6_semicolon, w ∈ gT := zwd_of [1352, 1354, 41, 119, 1355, 1241, 1242, 1356, 1358, 42, 119, 1359, 1425, 1427, 47, 119, 1428] (by decide +kernel) (by decide +kernel) (z7_no (by decide +kernel))
set_option maxRecDepth 100000 in
theorem xX6_semicolon : ∀ w ∈ zwxs RX6 mX6_semicolon eX6_semicolon rX6_semicolon, zspc w = true ∧ w ∈ lw_tbl := by decide +kernel
theorem tX6_semicolon {l : Launch} (hlt : l.stackTraces = false) : MetA l mX6_semicolon sX6_semicolon := zmet (M := mX6_semicolon) (own := RX6) (envM := eX6_semicolon) hlt rfl (by decide +kernel) (by decide +kernel) rfl (fun j q hq => by
  match j, hq with
  | 0, hq => cases hq; exact tX6_fine hlt
  | 1, hq => cases hq; exact tX6_errs hlt
  | 2, hq => cases hq; exact tX6_goOn hlt
  | n + 3, hq => cases hq) aX6_semicolon wX6_semicolon xX6_semicolon rfl
def mX6_isKeyword : zm_M := (yX6_isKeyword, cX6_isKeyword, 2, (some .boolean), (6, 0, 0, 194), 0, [], (0, 0))
def rX6_isKeyword : List zm_R := [(0, .aload_n 0, 0, [], 0, 0, (0, 0), false, []),
  (1, .ldc 231, 9, [7, 0], 0, 0, (0, 0), false, []),
  (3, .invokevirtual 227, 6, [0, 0, 2, 1, 0, 6], 0, 0, (0, 0), false, []),
  (6, .ifCond .ne 30, 1, [16], 0, 0, (0, 0), false, []),
  (9, .aload_n 0, 0, [], 0, 0, (0, 0), false, []),
  (10, .ldc 233, 9, [7, 1], 0, 0, (0, 0), false, []),
  (12, .invokevirtual 227, 6, [0, 0, 2, 1, 0, 6], 0, 0, (0, 0), false, []),
  (15, .ifCond .ne 21, 1, [16], 0, 0, (0, 0), false, []),
  (18, .aload_n 0, 0, [], 0, 0, (0, 0), false, []),
  (19, .ldc 235, 9, [7, 2], 0, 0, (0, 0), false, []),
  (21, .invokevirtual 227, 6, [0, 0, 2, 1, 0, 6], 0, 0, (0, 0), false, []),
  (24, .ifCond .ne 12, 1, [16], 0, 0, (0, 0), false, []),
  (27, .aload_n 0, 0, [], 0, 0, (0, 0), false, []),
  (28, .ldc 237, 9, [7, 3], 0, 0, (0, 0), false, []),
  (30, .invokevirtual 227, 6, [0, 0, 2, 1, 0, 6], 0, 0, (0, 0), false, []),
  (33, .ifCond .eq 7, 1, [18], 0, 0, (0, 0), false, []),
  (36, .iconst 1, 0, [], 1, 0, (0, 0), false, []),
  (37, .goto 4, 1, [19], 0, 0, (0, 0), false, []),
  (40, .iconst 0, 0, [], 0, 0, (0, 0), false, []),
  (41, .istore_n 1, 0, [], 0, 0, (0, 0), false, []),
  (42, .iload_n 1, 0, [], 0, 0, (0, 0), false, []),
  (43, .ifCond .ne 39, 1, [38], 0, 0, (0, 0), false, []),
  (46, .aload_n 0, 0, [], 0, 0, (0, 0), false, []),
  (47, .ldc 239, 9, [7, 4], 0, 0, (0, 0), false, []),
  (49, .invokevirtual 227, 6, [0, 0, 2, 1, 0, 6], 0, 0, (0, 0), false, []),
  (52, .ifCond .ne 30, 1, [38], 0, 0, (0, 0), false, []),
  (55, .aload_n 0, 0, [], 0, 0, (0, 0), false, []),
  (56, .ldc 241, 9, [7, 5], 0, 0, (0, 0), false, []),
  (58, .invokevirtual 227, 6, [0, 0, 2, 1, 0, 6], 0, 0, (0, 0), false, []),
  (61, .ifCond .ne 21, 1, [38], 0, 0, (0, 0), false, []),
  (64, .aload_n 0, 0, [], 0, 0, (0, 0), false, []),
  (65, .ldc 243, 9, [7, 6], 0, 0, (0, 0), false, []),
  (67, .invokevirtual 227, 6, [0, 0, 2, 1, 0, 6], 0, 0, (0, 0), false, []),
  (70, .ifCond .ne 12, 1, [38], 0, 0, (0, 0), false, []),
  (73, .aload_n 0, 0, [], 0, 0, (0, 0), false, []),
  (74, .ldc 244, 9, [7, 7], 0, 0, (0, 0), false, []),
  (76, .invokevirtual 227, 6, [0, 0, 2, 1, 0, 6], 0, 0, (0, 0), false, []),
  (79, .ifCond .eq 7, 1, [40], 0, 0, (0, 0), false, []),
  (82, .iconst 1, 0, [], 1, 0, (0, 0), false, []),
  (83, .goto 4, 1, [41], 0, 0, (0, 0), false, []),
  (86, .iconst 0, 0, [], 0, 0, (0, 0), false, []),
  (87, .ireturn, 5, [1], 0, 0, (0, 0), false, [])]
def eX6_isKeyword : List zm_M := [mX6_isWord]
noncomputable def vX6_isKeyword : List (zm_M × zm_S) := [(mX6_isWord, sX6_isWord)]
noncomputable def sX6_isKeyword : zm_S := zsem vX6_isKeyword rX6_isKeyword 2
set_option maxRecDepth 100000 in
theorem aX6_isKeyword : zall RX6 mX6_isKeyword eX6_isKeyword rX6_isKeyword = true := by decide +kernel
set_option maxRecDepth 100000 in
theorem wX6_isKeyword : ∀ w ∈ zwds RX6 mX6_isKeyword eX6_isKeyword rX6_isKeyword, w ∈ gT := zwd_of [1365, 1367, 44, 119, 1368, 1365, 1367, 44, 119, 1368, 1365, 1367, 44, 119, 1368, 1365, 1367, 44, 119, 1368, 1365, 1367, 44, 119, 1368, 1365, 1367, 44, 119, 1368, 1365, 1367, 44, 119, 1368, 1365, 1367, 44, 119, 1368] (by decide +kernel) (by decide +kernel) (z7_no (by decide +kernel))
set_option maxRecDepth 100000 in
theorem xX6_isKeyword : ∀ w ∈ zwxs RX6 mX6_isKeyword eX6_isKeyword rX6_isKeyword, zspc w = true ∧ w ∈ lw_tbl := by decide +kernel
theorem tX6_isKeyword {l : Launch} (hlt : l.stackTraces = false) : MetA l mX6_isKeyword sX6_isKeyword := zmet (M := mX6_isKeyword) (own := RX6) (envM := eX6_isKeyword) hlt rfl (by decide +kernel) (by decide +kernel) rfl (fun j q hq => by
  match j, hq with
  | 0, hq => cases hq; exact tX6_isWord hlt
  | n + 1, hq => cases hq) aX6_isKeyword wX6_isKeyword xX6_isKeyword rfl
def mX6_nameOf : zm_M := (yX6_nameOf, cX6_nameOf, 5, (some .int), (0, 0, 0, 0), 3, [], (0, 0))
def rX6_nameOf : List zm_R := [(0, .iconst 0, 0, [], 0, 0, (0, 0), false, []),
  (1, .istore_n 3, 0, [], 0, 0, (0, 0), false, []),
  (2, .iload_n 1, 0, [], 0, 0, (0, 0), false, []),
  (3, .istore 4, 0, [], 0, 0, (0, 0), false, []),
  (5, .iload 4, 0, [], 0, 0, (0, 0), true, [1]),
  (7, .iload_n 2, 0, [], 0, 0, (0, 0), false, []),
  (8, .if_icmp .ge 22, 1, [19], 0, 0, (0, 0), false, []),
  (11, .bipush 27, 0, [], 27, 0, (0, 0), false, []),
  (13, .iload_n 3, 0, [], 0, 0, (0, 0), false, []),
  (14, .imul, 0, [], 0, 0, (0, 0), false, []),
  (15, .aload_n 0, 0, [], 0, 0, (0, 0), false, []),
  (16, .iload 4, 0, [], 0, 0, (0, 0), false, []),
  (18, .baload, 3, [2], 0, 0, (0, 0), false, []),
  (19, .iadd, 0, [], 0, 0, (0, 0), false, []),
  (20, .bipush 96, 0, [], 96, 0, (0, 0), false, []),
  (22, .isub, 0, [], 0, 0, (0, 0), false, []),
  (23, .istore_n 3, 0, [], 0, 0, (0, 0), false, []),
  (24, .iinc 4 1, 0, [], 1, 0, (0, 0), false, []),
  (27, .goto (-22), 1, [4], 0, 0, (0, 0), false, []),
  (30, .iload_n 3, 0, [], 0, 0, (0, 0), false, []),
  (31, .ireturn, 5, [0], 0, 0, (0, 0), false, [])]
def eX6_nameOf : List zm_M := []
noncomputable def vX6_nameOf : List (zm_M × zm_S) := []
noncomputable def sX6_nameOf : zm_S := zsem vX6_nameOf rX6_nameOf 5
set_option maxRecDepth 100000 in
theorem aX6_nameOf : zall RX6 mX6_nameOf eX6_nameOf rX6_nameOf = true := by decide +kernel
set_option maxRecDepth 100000 in
theorem wX6_nameOf : ∀ w ∈ zwds RX6 mX6_nameOf eX6_nameOf rX6_nameOf, w ∈ gT := zwd_of [] (by decide +kernel) (by decide +kernel) (z7_no (by decide +kernel))
set_option maxRecDepth 100000 in
theorem xX6_nameOf : ∀ w ∈ zwxs RX6 mX6_nameOf eX6_nameOf rX6_nameOf, zspc w = true ∧ w ∈ lw_tbl := by decide +kernel
theorem tX6_nameOf {l : Launch} (hlt : l.stackTraces = false) : MetA l mX6_nameOf sX6_nameOf := zmet (M := mX6_nameOf) (own := RX6) (envM := eX6_nameOf) hlt rfl (by decide +kernel) (by decide +kernel) rfl (fun j q hq => by cases hq) aX6_nameOf wX6_nameOf xX6_nameOf rfl
def mX6_roomNamed : zm_M := (yX6_roomNamed, cX6_roomNamed, 3, (some .int), (1, 0, 0, 22), 1, [], (0, 0))
def rX6_roomNamed : List zm_R := [(0, .iconst 0, 0, [], 0, 0, (0, 0), false, []),
  (1, .istore_n 2, 0, [], 0, 0, (0, 0), false, []),
  (2, .iload_n 2, 0, [], 0, 0, (0, 0), true, []),
  (3, .aload_n 0, 0, [], 0, 0, (0, 0), false, []),
  (4, .invokevirtual 69, 6, [0, 0, 1, 1, 0, 6], 0, 0, (0, 0), false, []),
  (7, .if_icmp .ge 25, 1, [18], 0, 0, (0, 0), false, []),
  (10, .iload_n 1, 0, [], 0, 0, (0, 0), false, []),
  (11, .ifCond .le 15, 1, [16], 0, 0, (0, 0), false, []),
  (14, .aload_n 0, 0, [], 0, 0, (0, 0), false, []),
  (15, .iload_n 2, 0, [], 0, 0, (0, 0), false, []),
  (16, .iconst 2, 0, [], 2, 0, (0, 0), false, []),
  (17, .invokevirtual 90, 6, [0, 1, 3, 1, 0, 6], 0, 0, (0, 0), false, []),
  (20, .iload_n 1, 0, [], 0, 0, (0, 0), false, []),
  (21, .if_icmp .ne 5, 1, [16], 0, 0, (0, 0), false, []),
  (24, .iload_n 2, 0, [], 0, 0, (0, 0), false, []),
  (25, .ireturn, 5, [0], 0, 0, (0, 0), false, []),
  (26, .iinc 2 1, 0, [], 1, 0, (0, 0), false, []),
  (29, .goto (-27), 1, [2], 0, 0, (0, 0), false, []),
  (32, .iconst (-1), 0, [], (-1), 0, (0, 0), false, []),
  (33, .ireturn, 5, [0], 0, 0, (0, 0), false, [])]
def eX6_roomNamed : List zm_M := [mX6_rooms, mX6_ofRoom]
noncomputable def vX6_roomNamed : List (zm_M × zm_S) := [(mX6_rooms, sX6_rooms), (mX6_ofRoom, sX6_ofRoom)]
noncomputable def sX6_roomNamed : zm_S := zsem vX6_roomNamed rX6_roomNamed 3
set_option maxRecDepth 100000 in
theorem aX6_roomNamed : zall RX6 mX6_roomNamed eX6_roomNamed rX6_roomNamed = true := by decide +kernel
set_option maxRecDepth 100000 in
theorem wX6_roomNamed : ∀ w ∈ zwds RX6 mX6_roomNamed eX6_roomNamed rX6_roomNamed, w ∈ gT := zwd_of [1421, 1423, 46, 119, 1424, 1451, 1453, 51, 119, 1454] (by decide +kernel) (by decide +kernel) (z7_no (by decide +kernel))
set_option maxRecDepth 100000 in
theorem xX6_roomNamed : ∀ w ∈ zwxs RX6 mX6_roomNamed eX6_roomNamed rX6_roomNamed, zspc w = true ∧ w ∈ lw_tbl := by decide +kernel
theorem tX6_roomNamed {l : Launch} (hlt : l.stackTraces = false) : MetA l mX6_roomNamed sX6_roomNamed := zmet (M := mX6_roomNamed) (own := RX6) (envM := eX6_roomNamed) hlt rfl (by decide +kernel) (by decide +kernel) rfl (fun j q hq => by
  match j, hq with
  | 0, hq => cases hq; exact tX6_rooms hlt
  | 1, hq => cases hq; exact tX6_ofRoom hlt
  | n + 2, hq => cases hq) aX6_roomNamed wX6_roomNamed xX6_roomNamed rfl
def mX6_errsIf : zm_M := (yX6_errsIf, cX6_errsIf, 3, none, (2, 0, 0, 41), 2, [], (0, 0))
def rX6_errsIf : List zm_R := [(0, .aload_n 0, 0, [], 0, 0, (0, 0), false, []),
  (1, .invokevirtual 173, 6, [0, 0, 1, 1, 0, 6], 0, 0, (0, 0), false, []),
  (4, .ifCond .eq 12, 1, [8], 0, 0, (0, 0), false, []),
  (7, .iload_n 1, 0, [], 0, 0, (0, 0), false, []),
  (8, .ifCond .eq 8, 1, [8], 0, 0, (0, 0), false, []),
  (11, .aload_n 0, 0, [], 0, 0, (0, 0), false, []),
  (12, .iload_n 2, 0, [], 0, 0, (0, 0), false, []),
  (13, .invokevirtual 218, 6, [0, 1, 2, 0, 0, 6], 0, 0, (0, 0), false, []),
  (16, .return_, 5, [], 0, 0, (0, 0), false, [])]
def eX6_errsIf : List zm_M := [mX6_fine, mX6_errs]
noncomputable def vX6_errsIf : List (zm_M × zm_S) := [(mX6_fine, sX6_fine), (mX6_errs, sX6_errs)]
noncomputable def sX6_errsIf : zm_S := zsem vX6_errsIf rX6_errsIf 3
set_option maxRecDepth 100000 in
theorem aX6_errsIf : zall RX6 mX6_errsIf eX6_errsIf rX6_errsIf = true := by decide +kernel
set_option maxRecDepth 100000 in
theorem wX6_errsIf : ∀ w ∈ zwds RX6 mX6_errsIf eX6_errsIf rX6_errsIf, w ∈ gT := zwd_of [1352, 1354, 41, 119, 1355, 1356, 1358, 42, 119, 1359] (by decide +kernel) (by decide +kernel) (z7_no (by decide +kernel))
set_option maxRecDepth 100000 in
theorem xX6_errsIf : ∀ w ∈ zwxs RX6 mX6_errsIf eX6_errsIf rX6_errsIf, zspc w = true ∧ w ∈ lw_tbl := by decide +kernel
theorem tX6_errsIf {l : Launch} (hlt : l.stackTraces = false) : MetA l mX6_errsIf sX6_errsIf := zmet (M := mX6_errsIf) (own := RX6) (envM := eX6_errsIf) hlt rfl (by decide +kernel) (by decide +kernel) rfl (fun j q hq => by
  match j, hq with
  | 0, hq => cases hq; exact tX6_fine hlt
  | 1, hq => cases hq; exact tX6_errs hlt
  | n + 2, hq => cases hq) aX6_errsIf wX6_errsIf xX6_errsIf rfl
def mX6_nameHere : zm_M := (yX6_nameHere, cX6_nameHere, 1, (some .int), (7, 0, 0, 215), 0, [], (0, 0))
def rX6_nameHere : List zm_R := [(0, .aload_n 0, 0, [], 0, 0, (0, 0), false, []),
  (1, .aload_n 0, 0, [], 0, 0, (0, 0), false, []),
  (2, .invokevirtual 173, 6, [0, 0, 1, 1, 0, 6], 0, 0, (0, 0), false, []),
  (5, .ifCond .eq 36, 1, [20], 0, 0, (0, 0), false, []),
  (8, .aload_n 0, 0, [], 0, 0, (0, 0), false, []),
  (9, .getfield 189, 2, [6, 15, 27, 0], 0, 0, (0, 0), false, []),
  (12, .iconst 1, 0, [], 1, 0, (0, 0), false, []),
  (13, .if_icmp .ne 24, 1, [18], 0, 0, (0, 0), false, []),
  (16, .aload_n 0, 0, [], 0, 0, (0, 0), false, []),
  (17, .getfield 183, 2, [6, 13, 27, 0], 0, 0, (0, 0), false, []),
  (20, .aload_n 0, 0, [], 0, 0, (0, 0), false, []),
  (21, .getfield 177, 2, [6, 14, 27, 0], 0, 0, (0, 0), false, []),
  (24, .isub, 0, [], 0, 0, (0, 0), false, []),
  (25, .bipush 6, 0, [], 6, 0, (0, 0), false, []),
  (27, .if_icmp .gt 10, 1, [18], 0, 0, (0, 0), false, []),
  (30, .aload_n 0, 0, [], 0, 0, (0, 0), false, []),
  (31, .invokevirtual 246, 6, [0, 3, 1, 1, 0, 6], 0, 0, (0, 0), false, []),
  (34, .ifCond .eq 7, 1, [20], 0, 0, (0, 0), false, []),
  (37, .iconst 1, 0, [], 1, 0, (0, 0), false, []),
  (38, .goto 4, 1, [21], 0, 0, (0, 0), false, []),
  (41, .iconst 0, 0, [], 0, 0, (0, 0), false, []),
  (42, .iconst 1, 0, [], 1, 0, (0, 0), false, []),
  (43, .invokevirtual 249, 6, [0, 1, 3, 0, 0, 6], 0, 0, (0, 0), false, []),
  (46, .aload_n 0, 0, [], 0, 0, (0, 0), false, []),
  (47, .invokevirtual 173, 6, [0, 0, 1, 1, 0, 6], 0, 0, (0, 0), false, []),
  (50, .ifCond .eq 21, 1, [34], 0, 0, (0, 0), false, []),
  (53, .aload_n 0, 0, [], 0, 0, (0, 0), false, []),
  (54, .getfield 47, 2, [6, 10, 27, 2], 0, 0, (0, 0), false, []),
  (57, .aload_n 0, 0, [], 0, 0, (0, 0), false, []),
  (58, .getfield 177, 2, [6, 14, 27, 0], 0, 0, (0, 0), false, []),
  (61, .aload_n 0, 0, [], 0, 0, (0, 0), false, []),
  (62, .getfield 183, 2, [6, 13, 27, 0], 0, 0, (0, 0), false, []),
  (65, .invokestatic 253, 6, [1, 2, 3, 1, 0, 6], 0, 0, (0, 0), false, []),
  (68, .goto 4, 1, [35], 0, 0, (0, 0), false, []),
  (71, .iconst 0, 0, [], 0, 0, (0, 0), false, []),
  (72, .ireturn, 5, [0], 0, 0, (0, 0), false, [])]
def eX6_nameHere : List zm_M := [mX6_fine, mX6_errsIf, mX6_nameOf, mX6_isKeyword]
noncomputable def vX6_nameHere : List (zm_M × zm_S) := [(mX6_fine, sX6_fine), (mX6_errsIf, sX6_errsIf), (mX6_nameOf, sX6_nameOf), (mX6_isKeyword, sX6_isKeyword)]
noncomputable def sX6_nameHere : zm_S := zsem vX6_nameHere rX6_nameHere 1
set_option maxRecDepth 100000 in
theorem aX6_nameHere : zall RX6 mX6_nameHere eX6_nameHere rX6_nameHere = true := by decide +kernel
set_option maxRecDepth 100000 in
theorem wX6_nameHere : ∀ w ∈ zwds RX6 mX6_nameHere eX6_nameHere rX6_nameHere, w ∈ gT := zwd_of [1352, 1354, 41, 119, 1355, 1241, 1239, 1240, 1433, 1435, 49, 119, 1436, 1348, 1350, 40, 119, 1351, 1352, 1354, 41, 119, 1355, 1236, 1240, 1239, 1444, 1445, 119, 1446] (by decide +kernel) (by decide +kernel) (z7_no (by decide +kernel))
set_option maxRecDepth 100000 in
theorem xX6_nameHere : ∀ w ∈ zwxs RX6 mX6_nameHere eX6_nameHere rX6_nameHere, zspc w = true ∧ w ∈ lw_tbl := by decide +kernel
theorem tX6_nameHere {l : Launch} (hlt : l.stackTraces = false) : MetA l mX6_nameHere sX6_nameHere := zmet (M := mX6_nameHere) (own := RX6) (envM := eX6_nameHere) hlt rfl (by decide +kernel) (by decide +kernel) rfl (fun j q hq => by
  match j, hq with
  | 0, hq => cases hq; exact tX6_fine hlt
  | 1, hq => cases hq; exact tX6_errsIf hlt
  | 2, hq => cases hq; exact tX6_nameOf hlt
  | 3, hq => cases hq; exact tX6_isKeyword hlt
  | n + 4, hq => cases hq) aX6_nameHere wX6_nameHere xX6_nameHere rfl
def mX6_roomHere : zm_M := (yX6_roomHere, cX6_roomHere, 2, (some .int), (8, 0, 0, 235), 0, [], (0, 0))
def rX6_roomHere : List zm_R := [(0, .aload_n 0, 0, [], 0, 0, (0, 0), false, []),
  (1, .aload_n 0, 0, [], 0, 0, (0, 0), false, []),
  (2, .invokevirtual 257, 6, [0, 0, 1, 1, 0, 6], 0, 0, (0, 0), false, []),
  (5, .invokevirtual 260, 6, [0, 1, 2, 1, 0, 6], 0, 0, (0, 0), false, []),
  (8, .istore_n 1, 0, [], 0, 0, (0, 0), false, []),
  (9, .aload_n 0, 0, [], 0, 0, (0, 0), false, []),
  (10, .iload_n 1, 0, [], 0, 0, (0, 0), false, []),
  (11, .iconst (-1), 0, [], (-1), 0, (0, 0), false, []),
  (12, .if_icmp .ne 7, 1, [11], 0, 0, (0, 0), false, []),
  (15, .iconst 1, 0, [], 1, 0, (0, 0), false, []),
  (16, .goto 4, 1, [12], 0, 0, (0, 0), false, []),
  (19, .iconst 0, 0, [], 0, 0, (0, 0), false, []),
  (20, .iconst 4, 0, [], 4, 0, (0, 0), false, []),
  (21, .invokevirtual 249, 6, [0, 2, 3, 0, 0, 6], 0, 0, (0, 0), false, []),
  (24, .iconst 0, 0, [], 0, 0, (0, 0), false, []),
  (25, .iload_n 1, 0, [], 0, 0, (0, 0), false, []),
  (26, .invokestatic 137, 13, [0], 0, 0, (0, 0), false, []),
  (29, .ireturn, 5, [0], 0, 0, (0, 0), false, [])]
def eX6_roomHere : List zm_M := [mX6_nameHere, mX6_roomNamed, mX6_errsIf]
noncomputable def vX6_roomHere : List (zm_M × zm_S) := [(mX6_nameHere, sX6_nameHere), (mX6_roomNamed, sX6_roomNamed), (mX6_errsIf, sX6_errsIf)]
noncomputable def sX6_roomHere : zm_S := zsem vX6_roomHere rX6_roomHere 2
set_option maxRecDepth 100000 in
theorem aX6_roomHere : zall RX6 mX6_roomHere eX6_roomHere rX6_roomHere = true := by decide +kernel
set_option maxRecDepth 100000 in
theorem wX6_roomHere : ∀ w ∈ zwds RX6 mX6_roomHere eX6_roomHere rX6_roomHere, w ∈ gT := zwd_of [1429, 1431, 48, 119, 1432, 1447, 1449, 50, 119, 1450, 1348, 1350, 40, 119, 1351, 1490, 714, 126, 715] (by decide +kernel) (by decide +kernel) (z7_no (by decide +kernel))
set_option maxRecDepth 100000 in
theorem xX6_roomHere : ∀ w ∈ zwxs RX6 mX6_roomHere eX6_roomHere rX6_roomHere, zspc w = true ∧ w ∈ lw_tbl := by decide +kernel
theorem tX6_roomHere {l : Launch} (hlt : l.stackTraces = false) : MetA l mX6_roomHere sX6_roomHere := zmet (M := mX6_roomHere) (own := RX6) (envM := eX6_roomHere) hlt rfl (by decide +kernel) (by decide +kernel) rfl (fun j q hq => by
  match j, hq with
  | 0, hq => cases hq; exact tX6_nameHere hlt
  | 1, hq => cases hq; exact tX6_roomNamed hlt
  | 2, hq => cases hq; exact tX6_errsIf hlt
  | n + 3, hq => cases hq) aX6_roomHere wX6_roomHere xX6_roomHere rfl
def mX6_isComma : zm_M := (yX6_isComma, cX6_isComma, 1, (some .boolean), (1, 0, 0, 20), 0, [], (0, 0))
def rX6_isComma : List zm_R := [(0, .aload_n 0, 0, [], 0, 0, (0, 0), false, []),
  (1, .invokevirtual 173, 6, [0, 0, 1, 1, 0, 6], 0, 0, (0, 0), false, []),
  (4, .ifCond .eq 24, 1, [13], 0, 0, (0, 0), false, []),
  (7, .aload_n 0, 0, [], 0, 0, (0, 0), false, []),
  (8, .getfield 189, 2, [6, 15, 27, 0], 0, 0, (0, 0), false, []),
  (11, .iconst 3, 0, [], 3, 0, (0, 0), false, []),
  (12, .if_icmp .ne 16, 1, [13], 0, 0, (0, 0), false, []),
  (15, .aload_n 0, 0, [], 0, 0, (0, 0), false, []),
  (16, .getfield 200, 2, [6, 16, 27, 0], 0, 0, (0, 0), false, []),
  (19, .bipush 44, 0, [], 44, 0, (0, 0), false, []),
  (21, .if_icmp .ne 7, 1, [13], 0, 0, (0, 0), false, []),
  (24, .iconst 1, 0, [], 1, 0, (0, 0), false, []),
  (25, .goto 4, 1, [14], 0, 0, (0, 0), false, []),
  (28, .iconst 0, 0, [], 0, 0, (0, 0), false, []),
  (29, .ireturn, 5, [1], 0, 0, (0, 0), false, [])]
def eX6_isComma : List zm_M := [mX6_fine]
noncomputable def vX6_isComma : List (zm_M × zm_S) := [(mX6_fine, sX6_fine)]
noncomputable def sX6_isComma : zm_S := zsem vX6_isComma rX6_isComma 1
set_option maxRecDepth 100000 in
theorem aX6_isComma : zall RX6 mX6_isComma eX6_isComma rX6_isComma = true := by decide +kernel
set_option maxRecDepth 100000 in
theorem wX6_isComma : ∀ w ∈ zwds RX6 mX6_isComma eX6_isComma rX6_isComma, w ∈ gT := zwd_of [1352, 1354, 41, 119, 1355, 1241, 1242] (by decide +kernel) (by decide +kernel) (z7_no (by decide +kernel))
set_option maxRecDepth 100000 in
theorem xX6_isComma : ∀ w ∈ zwxs RX6 mX6_isComma eX6_isComma rX6_isComma, zspc w = true ∧ w ∈ lw_tbl := by decide +kernel
theorem tX6_isComma {l : Launch} (hlt : l.stackTraces = false) : MetA l mX6_isComma sX6_isComma := zmet (M := mX6_isComma) (own := RX6) (envM := eX6_isComma) hlt rfl (by decide +kernel) (by decide +kernel) rfl (fun j q hq => by
  match j, hq with
  | 0, hq => cases hq; exact tX6_fine hlt
  | n + 1, hq => cases hq) aX6_isComma wX6_isComma xX6_isComma rfl
def mX6_parseKeys : zm_M := (yX6_parseKeys, cX6_parseKeys, 4, (some .int), (6, 0, 0, 194), 0, [], (0, 0))
def rX6_parseKeys : List zm_R := [(0, .iconst 0, 0, [], 0, 0, (0, 0), false, []),
  (1, .istore_n 1, 0, [], 0, 0, (0, 0), false, []),
  (2, .aload_n 0, 0, [], 0, 0, (0, 0), false, []),
  (3, .ldc 233, 9, [7, 1], 0, 0, (0, 0), false, []),
  (5, .invokevirtual 227, 6, [0, 0, 2, 1, 0, 6], 0, 0, (0, 0), false, []),
  (8, .istore_n 2, 0, [], 0, 0, (0, 0), false, []),
  (9, .iload_n 2, 0, [], 0, 0, (0, 0), true, [3]),
  (10, .ifCond .eq 43, 1, [33], 0, 0, (0, 0), false, []),
  (13, .aload_n 0, 0, [], 0, 0, (0, 0), false, []),
  (14, .invokevirtual 224, 6, [0, 1, 1, 0, 0, 6], 0, 0, (0, 0), false, []),
  (17, .aload_n 0, 0, [], 0, 0, (0, 0), false, []),
  (18, .iconst 0, 0, [], 0, 0, (0, 0), false, []),
  (19, .bipush 7, 0, [], 7, 0, (0, 0), false, []),
  (21, .invokevirtual 221, 6, [0, 2, 3, 1, 0, 6], 0, 0, (0, 0), false, []),
  (24, .istore_n 3, 0, [], 0, 0, (0, 0), false, []),
  (25, .aload_n 0, 0, [], 0, 0, (0, 0), false, []),
  (26, .iload_n 1, 0, [], 0, 0, (0, 0), false, []),
  (27, .iload_n 3, 0, [], 0, 0, (0, 0), false, []),
  (28, .invokestatic 86, 6, [1, 3, 2, 1, 0, 6], 0, 0, (0, 0), false, []),
  (31, .iconst 3, 0, [], 3, 0, (0, 0), false, []),
  (32, .invokevirtual 249, 6, [0, 4, 3, 0, 0, 6], 0, 0, (0, 0), false, []),
  (35, .iload_n 1, 0, [], 0, 0, (0, 0), false, []),
  (36, .iconst 1, 0, [], 1, 0, (0, 0), false, []),
  (37, .iload_n 3, 0, [], 0, 0, (0, 0), false, []),
  (38, .ishl, 0, [], 0, 0, (0, 0), false, []),
  (39, .ior, 0, [], 0, 0, (0, 0), false, []),
  (40, .istore_n 1, 0, [], 0, 0, (0, 0), false, []),
  (41, .aload_n 0, 0, [], 0, 0, (0, 0), false, []),
  (42, .invokevirtual 224, 6, [0, 1, 1, 0, 0, 6], 0, 0, (0, 0), false, []),
  (45, .aload_n 0, 0, [], 0, 0, (0, 0), false, []),
  (46, .invokevirtual 263, 6, [0, 5, 1, 1, 0, 6], 0, 0, (0, 0), false, []),
  (49, .istore_n 2, 0, [], 0, 0, (0, 0), false, []),
  (50, .goto (-41), 1, [6], 0, 0, (0, 0), false, []),
  (53, .iload_n 1, 0, [], 0, 0, (0, 0), false, []),
  (54, .ireturn, 5, [0], 0, 0, (0, 0), false, [])]
def eX6_parseKeys : List zm_M := [mX6_isWord, mX6_goOn, mX6_numberHere, mX6_has, mX6_errsIf, mX6_isComma]
noncomputable def vX6_parseKeys : List (zm_M × zm_S) := [(mX6_isWord, sX6_isWord), (mX6_goOn, sX6_goOn), (mX6_numberHere, sX6_numberHere), (mX6_has, sX6_has), (mX6_errsIf, sX6_errsIf), (mX6_isComma, sX6_isComma)]
noncomputable def sX6_parseKeys : zm_S := zsem vX6_parseKeys rX6_parseKeys 4
set_option maxRecDepth 100000 in
theorem aX6_parseKeys : zall RX6 mX6_parseKeys eX6_parseKeys rX6_parseKeys = true := by decide +kernel
set_option maxRecDepth 100000 in
theorem wX6_parseKeys : ∀ w ∈ zwds RX6 mX6_parseKeys eX6_parseKeys rX6_parseKeys, w ∈ gT := zwd_of [1365, 1367, 44, 119, 1368, 1425, 1427, 47, 119, 1428, 1459, 1461, 53, 119, 1462, 1463, 1464, 119, 1465, 1348, 1350, 40, 119, 1351, 1425, 1427, 47, 119, 1428, 1466, 1468, 54, 119, 1469] (by decide +kernel) (by decide +kernel) (z7_no (by decide +kernel))
set_option maxRecDepth 100000 in
theorem xX6_parseKeys : ∀ w ∈ zwxs RX6 mX6_parseKeys eX6_parseKeys rX6_parseKeys, zspc w = true ∧ w ∈ lw_tbl := by decide +kernel
theorem tX6_parseKeys {l : Launch} (hlt : l.stackTraces = false) : MetA l mX6_parseKeys sX6_parseKeys := zmet (M := mX6_parseKeys) (own := RX6) (envM := eX6_parseKeys) hlt rfl (by decide +kernel) (by decide +kernel) rfl (fun j q hq => by
  match j, hq with
  | 0, hq => cases hq; exact tX6_isWord hlt
  | 1, hq => cases hq; exact tX6_goOn hlt
  | 2, hq => cases hq; exact tX6_numberHere hlt
  | 3, hq => cases hq; exact tX6_has hlt
  | 4, hq => cases hq; exact tX6_errsIf hlt
  | 5, hq => cases hq; exact tX6_isComma hlt
  | n + 6, hq => cases hq) aX6_parseKeys wX6_parseKeys xX6_parseKeys rfl
def mX6_parseRoom : zm_M := (yX6_parseRoom, cX6_parseRoom, 5, none, (8, 0, 0, 235), 0, [], (0, 0))
def rX6_parseRoom : List zm_R := [(0, .aload_n 0, 0, [], 0, 0, (0, 0), false, []),
  (1, .aload_n 0, 0, [], 0, 0, (0, 0), false, []),
  (2, .invokevirtual 69, 6, [0, 0, 1, 1, 0, 6], 0, 0, (0, 0), false, []),
  (5, .bipush 11, 0, [], 11, 0, (0, 0), false, []),
  (7, .if_icmp .ne 7, 1, [7], 0, 0, (0, 0), false, []),
  (10, .iconst 1, 0, [], 1, 0, (0, 0), false, []),
  (11, .goto 4, 1, [8], 0, 0, (0, 0), false, []),
  (14, .iconst 0, 0, [], 0, 0, (0, 0), false, []),
  (15, .iconst 5, 0, [], 5, 0, (0, 0), true, [1, 2, 3, 4]),
  (16, .invokevirtual 249, 6, [0, 1, 3, 0, 0, 6], 0, 0, (0, 0), false, []),
  (19, .aload_n 0, 0, [], 0, 0, (0, 0), false, []),
  (20, .invokevirtual 224, 6, [0, 2, 1, 0, 0, 6], 0, 0, (0, 0), false, []),
  (23, .aload_n 0, 0, [], 0, 0, (0, 0), false, []),
  (24, .invokevirtual 257, 6, [0, 3, 1, 1, 0, 6], 0, 0, (0, 0), false, []),
  (27, .istore_n 1, 0, [], 0, 0, (0, 0), false, []),
  (28, .aload_n 0, 0, [], 0, 0, (0, 0), false, []),
  (29, .aload_n 0, 0, [], 0, 0, (0, 0), false, []),
  (30, .iload_n 1, 0, [], 0, 0, (0, 0), false, []),
  (31, .invokevirtual 260, 6, [0, 4, 2, 1, 0, 6], 0, 0, (0, 0), false, []),
  (34, .iconst (-1), 0, [], (-1), 0, (0, 0), false, []),
  (35, .if_icmp .eq 7, 1, [23], 0, 0, (0, 0), false, []),
  (38, .iconst 1, 0, [], 1, 0, (0, 0), false, []),
  (39, .goto 4, 1, [24], 0, 0, (0, 0), false, []),
  (42, .iconst 0, 0, [], 0, 0, (0, 0), false, []),
  (43, .iconst 3, 0, [], 3, 0, (0, 0), true, [2, 3, 4]),
  (44, .invokevirtual 249, 6, [0, 1, 3, 0, 0, 6], 0, 0, (0, 0), false, []),
  (47, .aload_n 0, 0, [], 0, 0, (0, 0), false, []),
  (48, .invokevirtual 224, 6, [0, 2, 1, 0, 0, 6], 0, 0, (0, 0), false, []),
  (51, .aload_n 0, 0, [], 0, 0, (0, 0), false, []),
  (52, .invokevirtual 266, 6, [0, 5, 1, 1, 0, 6], 0, 0, (0, 0), false, []),
  (55, .istore_n 2, 0, [], 0, 0, (0, 0), false, []),
  (56, .iconst 0, 0, [], 0, 0, (0, 0), false, []),
  (57, .istore_n 3, 0, [], 0, 0, (0, 0), false, []),
  (58, .aload_n 0, 0, [], 0, 0, (0, 0), false, []),
  (59, .ldc 235, 9, [7, 2], 0, 0, (0, 0), false, []),
  (61, .invokevirtual 227, 6, [0, 6, 2, 1, 0, 6], 0, 0, (0, 0), false, []),
  (64, .ifCond .eq 15, 1, [44], 0, 0, (0, 0), false, []),
  (67, .aload_n 0, 0, [], 0, 0, (0, 0), false, []),
  (68, .invokevirtual 224, 6, [0, 2, 1, 0, 0, 6], 0, 0, (0, 0), false, []),
  (71, .aload_n 0, 0, [], 0, 0, (0, 0), false, []),
  (72, .iconst 0, 0, [], 0, 0, (0, 0), false, []),
  (73, .bipush 99, 0, [], 99, 0, (0, 0), false, []),
  (75, .invokevirtual 269, 6, [0, 9, 3, 1, 0, 6], 0, 0, (0, 0), false, []),
  (78, .istore_n 3, 0, [], 0, 0, (0, 0), false, []),
  (79, .aload_n 0, 0, [], 0, 0, (0, 0), false, []),
  (80, .invokevirtual 272, 6, [0, 7, 1, 0, 0, 6], 0, 0, (0, 0), false, []),
  (83, .aload_n 0, 0, [], 0, 0, (0, 0), false, []),
  (84, .invokevirtual 173, 6, [0, 8, 1, 1, 0, 6], 0, 0, (0, 0), false, []),
  (87, .ifCond .ne 4, 1, [50], 0, 0, (0, 0), false, []),
  (90, .return_, 5, [], 0, 0, (0, 0), false, []),
  (91, .bipush 16, 0, [], 16, 0, (0, 0), false, []),
  (93, .iconst 3, 0, [], 3, 0, (0, 0), false, []),
  (94, .aload_n 0, 0, [], 0, 0, (0, 0), false, []),
  (95, .invokevirtual 69, 6, [0, 0, 1, 1, 0, 6], 0, 0, (0, 0), false, []),
  (98, .imul, 0, [], 0, 0, (0, 0), false, []),
  (99, .iadd, 0, [], 0, 0, (0, 0), false, []),
  (100, .istore 4, 0, [], 0, 0, (0, 0), false, []),
  (102, .aload_n 0, 0, [], 0, 0, (0, 0), false, []),
  (103, .getfield 24, 2, [6, 3, 27, 2], 0, 0, (0, 0), false, []),
  (106, .iconst 0, 0, [], 0, 0, (0, 0), false, []),
  (107, .dup2, 0, [], 0, 0, (0, 0), false, []),
  (108, .iaload, 3, [0], 0, 0, (0, 0), false, []),
  (109, .iconst 1, 0, [], 1, 0, (0, 0), false, []),
  (110, .iadd, 0, [], 0, 0, (0, 0), false, []),
  (111, .iastore, 3, [0], 0, 0, (0, 0), false, []),
  (112, .aload_n 0, 0, [], 0, 0, (0, 0), false, []),
  (113, .getfield 24, 2, [6, 3, 27, 2], 0, 0, (0, 0), false, []),
  (116, .iload 4, 0, [], 0, 0, (0, 0), false, []),
  (118, .iconst 0, 0, [], 0, 0, (0, 0), false, []),
  (119, .iadd, 0, [], 0, 0, (0, 0), false, []),
  (120, .iload_n 2, 0, [], 0, 0, (0, 0), false, []),
  (121, .iastore, 3, [0], 0, 0, (0, 0), false, []),
  (122, .aload_n 0, 0, [], 0, 0, (0, 0), false, []),
  (123, .getfield 24, 2, [6, 3, 27, 2], 0, 0, (0, 0), false, []),
  (126, .iload 4, 0, [], 0, 0, (0, 0), false, []),
  (128, .iconst 1, 0, [], 1, 0, (0, 0), false, []),
  (129, .iadd, 0, [], 0, 0, (0, 0), false, []),
  (130, .iload_n 3, 0, [], 0, 0, (0, 0), false, []),
  (131, .iastore, 3, [0], 0, 0, (0, 0), false, []),
  (132, .aload_n 0, 0, [], 0, 0, (0, 0), false, []),
  (133, .getfield 24, 2, [6, 3, 27, 2], 0, 0, (0, 0), false, []),
  (136, .iload 4, 0, [], 0, 0, (0, 0), false, []),
  (138, .iconst 2, 0, [], 2, 0, (0, 0), false, []),
  (139, .iadd, 0, [], 0, 0, (0, 0), false, []),
  (140, .iload_n 1, 0, [], 0, 0, (0, 0), false, []),
  (141, .iastore, 3, [0], 0, 0, (0, 0), false, []),
  (142, .return_, 5, [], 0, 0, (0, 0), false, [])]
def eX6_parseRoom : List zm_M := [mX6_rooms, mX6_errsIf, mX6_goOn, mX6_nameHere, mX6_roomNamed, mX6_parseKeys, mX6_isWord, mX6_semicolon, mX6_fine, mX6_number]
noncomputable def vX6_parseRoom : List (zm_M × zm_S) := [(mX6_rooms, sX6_rooms), (mX6_errsIf, sX6_errsIf), (mX6_goOn, sX6_goOn), (mX6_nameHere, sX6_nameHere), (mX6_roomNamed, sX6_roomNamed), (mX6_parseKeys, sX6_parseKeys), (mX6_isWord, sX6_isWord), (mX6_semicolon, sX6_semicolon), (mX6_fine, sX6_fine), (mX6_number, sX6_number)]
noncomputable def sX6_parseRoom : zm_S := zsem vX6_parseRoom rX6_parseRoom 5
set_option maxRecDepth 100000 in
theorem aX6_parseRoom : zall RX6 mX6_parseRoom eX6_parseRoom rX6_parseRoom = true := by decide +kernel
set_option maxRecDepth 100000 in
theorem wX6_parseRoom : ∀ w ∈ zwds RX6 mX6_parseRoom eX6_parseRoom rX6_parseRoom, w ∈ gT := zwd_of [1421, 1423, 46, 119, 1424, 1348, 1350, 40, 119, 1351, 1425, 1427, 47, 119, 1428, 1429, 1431, 48, 119, 1432, 1447, 1449, 50, 119, 1450, 1348, 1350, 40, 119, 1351, 1425, 1427, 47, 119, 1428, 1455, 1457, 52, 119, 1458, 1365, 1367, 44, 119, 1368, 1425, 1427, 47, 119, 1428, 1470, 1472, 55, 119, 1473, 1474, 1476, 56, 119, 1477, 1352, 1354, 41, 119, 1355, 1421, 1423, 46, 119, 1424, 1229, 1229, 1229, 1229] (by decide +kernel) (by decide +kernel) (z7_no (by decide +kernel))
set_option maxRecDepth 100000 in
theorem xX6_parseRoom : ∀ w ∈ zwxs RX6 mX6_parseRoom eX6_parseRoom rX6_parseRoom, zspc w = true ∧ w ∈ lw_tbl := by decide +kernel
theorem tX6_parseRoom {l : Launch} (hlt : l.stackTraces = false) : MetA l mX6_parseRoom sX6_parseRoom := zmet (M := mX6_parseRoom) (own := RX6) (envM := eX6_parseRoom) hlt rfl (by decide +kernel) (by decide +kernel) rfl (fun j q hq => by
  match j, hq with
  | 0, hq => cases hq; exact tX6_rooms hlt
  | 1, hq => cases hq; exact tX6_errsIf hlt
  | 2, hq => cases hq; exact tX6_goOn hlt
  | 3, hq => cases hq; exact tX6_nameHere hlt
  | 4, hq => cases hq; exact tX6_roomNamed hlt
  | 5, hq => cases hq; exact tX6_parseKeys hlt
  | 6, hq => cases hq; exact tX6_isWord hlt
  | 7, hq => cases hq; exact tX6_semicolon hlt
  | 8, hq => cases hq; exact tX6_fine hlt
  | 9, hq => cases hq; exact tX6_number hlt
  | n + 10, hq => cases hq) aX6_parseRoom wX6_parseRoom xX6_parseRoom rfl
def mX6_addOne : zm_M := (yX6_addOne, cX6_addOne, 7, none, (1, 0, 0, 20), 5, [], (0, 0))
def rX6_addOne : List zm_R := [(0, .bipush 49, 0, [], 49, 0, (0, 0), false, []),
  (2, .iconst 5, 0, [], 5, 0, (0, 0), false, []),
  (3, .aload_n 0, 0, [], 0, 0, (0, 0), false, []),
  (4, .invokevirtual 77, 6, [0, 0, 1, 1, 0, 6], 0, 0, (0, 0), false, []),
  (7, .imul, 0, [], 0, 0, (0, 0), false, []),
  (8, .iadd, 0, [], 0, 0, (0, 0), false, []),
  (9, .istore 6, 0, [], 0, 0, (0, 0), false, []),
  (11, .aload_n 0, 0, [], 0, 0, (0, 0), false, []),
  (12, .getfield 24, 2, [6, 3, 27, 2], 0, 0, (0, 0), false, []),
  (15, .iconst 1, 0, [], 1, 0, (0, 0), false, []),
  (16, .dup2, 0, [], 0, 0, (0, 0), false, []),
  (17, .iaload, 3, [0], 0, 0, (0, 0), false, []),
  (18, .iconst 1, 0, [], 1, 0, (0, 0), false, []),
  (19, .iadd, 0, [], 0, 0, (0, 0), false, []),
  (20, .iastore, 3, [0], 0, 0, (0, 0), false, []),
  (21, .aload_n 0, 0, [], 0, 0, (0, 0), false, []),
  (22, .getfield 24, 2, [6, 3, 27, 2], 0, 0, (0, 0), false, []),
  (25, .iload 6, 0, [], 0, 0, (0, 0), false, []),
  (27, .iconst 0, 0, [], 0, 0, (0, 0), false, []),
  (28, .iadd, 0, [], 0, 0, (0, 0), false, []),
  (29, .iload_n 1, 0, [], 0, 0, (0, 0), false, []),
  (30, .iastore, 3, [0], 0, 0, (0, 0), false, []),
  (31, .aload_n 0, 0, [], 0, 0, (0, 0), false, []),
  (32, .getfield 24, 2, [6, 3, 27, 2], 0, 0, (0, 0), false, []),
  (35, .iload 6, 0, [], 0, 0, (0, 0), false, []),
  (37, .iconst 1, 0, [], 1, 0, (0, 0), false, []),
  (38, .iadd, 0, [], 0, 0, (0, 0), false, []),
  (39, .iload_n 2, 0, [], 0, 0, (0, 0), false, []),
  (40, .iastore, 3, [0], 0, 0, (0, 0), false, []),
  (41, .aload_n 0, 0, [], 0, 0, (0, 0), false, []),
  (42, .getfield 24, 2, [6, 3, 27, 2], 0, 0, (0, 0), false, []),
  (45, .iload 6, 0, [], 0, 0, (0, 0), false, []),
  (47, .iconst 2, 0, [], 2, 0, (0, 0), false, []),
  (48, .iadd, 0, [], 0, 0, (0, 0), false, []),
  (49, .iload_n 3, 0, [], 0, 0, (0, 0), false, []),
  (50, .iastore, 3, [0], 0, 0, (0, 0), false, []),
  (51, .aload_n 0, 0, [], 0, 0, (0, 0), false, []),
  (52, .getfield 24, 2, [6, 3, 27, 2], 0, 0, (0, 0), false, []),
  (55, .iload 6, 0, [], 0, 0, (0, 0), false, []),
  (57, .iconst 3, 0, [], 3, 0, (0, 0), false, []),
  (58, .iadd, 0, [], 0, 0, (0, 0), false, []),
  (59, .iload 4, 0, [], 0, 0, (0, 0), false, []),
  (61, .iastore, 3, [0], 0, 0, (0, 0), false, []),
  (62, .aload_n 0, 0, [], 0, 0, (0, 0), false, []),
  (63, .getfield 24, 2, [6, 3, 27, 2], 0, 0, (0, 0), false, []),
  (66, .iload 6, 0, [], 0, 0, (0, 0), false, []),
  (68, .iconst 4, 0, [], 4, 0, (0, 0), false, []),
  (69, .iadd, 0, [], 0, 0, (0, 0), false, []),
  (70, .iload 5, 0, [], 0, 0, (0, 0), false, []),
  (72, .ifCond .eq 7, 1, [52], 0, 0, (0, 0), false, []),
  (75, .iconst 1, 0, [], 1, 0, (0, 0), false, []),
  (76, .goto 4, 1, [53], 0, 0, (0, 0), false, []),
  (79, .iconst 0, 0, [], 0, 0, (0, 0), false, []),
  (80, .iastore, 3, [0], 0, 0, (0, 0), false, []),
  (81, .return_, 5, [], 0, 0, (0, 0), false, [])]
def eX6_addOne : List zm_M := [mX6_doors]
noncomputable def vX6_addOne : List (zm_M × zm_S) := [(mX6_doors, sX6_doors)]
noncomputable def sX6_addOne : zm_S := zsem vX6_addOne rX6_addOne 7
set_option maxRecDepth 100000 in
theorem aX6_addOne : zall RX6 mX6_addOne eX6_addOne rX6_addOne = true := by decide +kernel
set_option maxRecDepth 100000 in
theorem wX6_addOne : ∀ w ∈ zwds RX6 mX6_addOne eX6_addOne rX6_addOne, w ∈ gT := zwd_of [1482, 1484, 58, 119, 1485, 1229, 1229, 1229, 1229, 1229, 1229] (by decide +kernel) (by decide +kernel) (z7_no (by decide +kernel))
set_option maxRecDepth 100000 in
theorem xX6_addOne : ∀ w ∈ zwxs RX6 mX6_addOne eX6_addOne rX6_addOne, zspc w = true ∧ w ∈ lw_tbl := by decide +kernel
theorem tX6_addOne {l : Launch} (hlt : l.stackTraces = false) : MetA l mX6_addOne sX6_addOne := zmet (M := mX6_addOne) (own := RX6) (envM := eX6_addOne) hlt rfl (by decide +kernel) (by decide +kernel) rfl (fun j q hq => by
  match j, hq with
  | 0, hq => cases hq; exact tX6_doors hlt
  | n + 1, hq => cases hq) aX6_addOne wX6_addOne xX6_addOne rfl
def mX6_parseDoor : zm_M := (yX6_parseDoor, cX6_parseDoor, 6, none, (9, 0, 0, 256), 0, [], (0, 0))
def rX6_parseDoor : List zm_R := [(0, .aload_n 0, 0, [], 0, 0, (0, 0), false, []),
  (1, .aload_n 0, 0, [], 0, 0, (0, 0), false, []),
  (2, .invokevirtual 77, 6, [0, 0, 1, 1, 0, 6], 0, 0, (0, 0), false, []),
  (5, .bipush 20, 0, [], 20, 0, (0, 0), false, []),
  (7, .if_icmp .ne 7, 1, [7], 0, 0, (0, 0), false, []),
  (10, .iconst 1, 0, [], 1, 0, (0, 0), false, []),
  (11, .goto 4, 1, [8], 0, 0, (0, 0), false, []),
  (14, .iconst 0, 0, [], 0, 0, (0, 0), false, []),
  (15, .iconst 5, 0, [], 5, 0, (0, 0), true, [1, 2, 3, 4, 5]),
  (16, .invokevirtual 249, 6, [0, 1, 3, 0, 0, 6], 0, 0, (0, 0), false, []),
  (19, .aload_n 0, 0, [], 0, 0, (0, 0), false, []),
  (20, .invokevirtual 224, 6, [0, 2, 1, 0, 0, 6], 0, 0, (0, 0), false, []),
  (23, .aload_n 0, 0, [], 0, 0, (0, 0), false, []),
  (24, .invokevirtual 275, 6, [0, 3, 1, 1, 0, 6], 0, 0, (0, 0), false, []),
  (27, .istore_n 1, 0, [], 0, 0, (0, 0), false, []),
  (28, .aload_n 0, 0, [], 0, 0, (0, 0), false, []),
  (29, .invokevirtual 224, 6, [0, 2, 1, 0, 0, 6], 0, 0, (0, 0), false, []),
  (32, .aload_n 0, 0, [], 0, 0, (0, 0), false, []),
  (33, .invokevirtual 275, 6, [0, 3, 1, 1, 0, 6], 0, 0, (0, 0), false, []),
  (36, .istore_n 2, 0, [], 0, 0, (0, 0), false, []),
  (37, .aload_n 0, 0, [], 0, 0, (0, 0), false, []),
  (38, .iload_n 1, 0, [], 0, 0, (0, 0), false, []),
  (39, .iload_n 2, 0, [], 0, 0, (0, 0), false, []),
  (40, .if_icmp .ne 7, 1, [26], 0, 0, (0, 0), false, []),
  (43, .iconst 1, 0, [], 1, 0, (0, 0), false, []),
  (44, .goto 4, 1, [27], 0, 0, (0, 0), false, []),
  (47, .iconst 0, 0, [], 0, 0, (0, 0), false, []),
  (48, .iconst 3, 0, [], 3, 0, (0, 0), true, [3, 4, 5]),
  (49, .invokevirtual 249, 6, [0, 1, 3, 0, 0, 6], 0, 0, (0, 0), false, []),
  (52, .aload_n 0, 0, [], 0, 0, (0, 0), false, []),
  (53, .invokevirtual 224, 6, [0, 2, 1, 0, 0, 6], 0, 0, (0, 0), false, []),
  (56, .aload_n 0, 0, [], 0, 0, (0, 0), false, []),
  (57, .ldc 233, 9, [7, 1], 0, 0, (0, 0), false, []),
  (59, .invokevirtual 227, 6, [0, 4, 2, 1, 0, 6], 0, 0, (0, 0), false, []),
  (62, .ifCond .eq 7, 1, [37], 0, 0, (0, 0), false, []),
  (65, .iconst 1, 0, [], 1, 0, (0, 0), false, []),
  (66, .goto 17, 1, [44], 0, 0, (0, 0), false, []),
  (69, .aload_n 0, 0, [], 0, 0, (0, 0), false, []),
  (70, .ldc 239, 9, [7, 4], 0, 0, (0, 0), false, []),
  (72, .invokevirtual 227, 6, [0, 4, 2, 1, 0, 6], 0, 0, (0, 0), false, []),
  (75, .ifCond .eq 7, 1, [43], 0, 0, (0, 0), false, []),
  (78, .iconst 2, 0, [], 2, 0, (0, 0), false, []),
  (79, .goto 4, 1, [44], 0, 0, (0, 0), false, []),
  (82, .iconst 0, 0, [], 0, 0, (0, 0), false, []),
  (83, .istore_n 3, 0, [], 0, 0, (0, 0), true, [3, 4, 5]),
  (84, .iconst 0, 0, [], 0, 0, (0, 0), false, []),
  (85, .istore 4, 0, [], 0, 0, (0, 0), false, []),
  (87, .iload_n 3, 0, [], 0, 0, (0, 0), false, []),
  (88, .ifCond .eq 27, 1, [61], 0, 0, (0, 0), false, []),
  (91, .aload_n 0, 0, [], 0, 0, (0, 0), false, []),
  (92, .invokevirtual 224, 6, [0, 2, 1, 0, 0, 6], 0, 0, (0, 0), false, []),
  (95, .aload_n 0, 0, [], 0, 0, (0, 0), false, []),
  (96, .iconst 0, 0, [], 0, 0, (0, 0), false, []),
  (97, .iload_n 3, 0, [], 0, 0, (0, 0), false, []),
  (98, .iconst 1, 0, [], 1, 0, (0, 0), false, []),
  (99, .if_icmp .ne 8, 1, [58], 0, 0, (0, 0), false, []),
  (102, .bipush 7, 0, [], 7, 0, (0, 0), false, []),
  (104, .goto 6, 1, [59], 0, 0, (0, 0), false, []),
  (107, .sipush 999, 0, [], 999, 0, (0, 0), false, []),
  (110, .invokevirtual 269, 6, [0, 8, 3, 1, 0, 6], 0, 0, (0, 0), false, []),
  (113, .istore 4, 0, [], 0, 0, (0, 0), false, []),
  (115, .aload_n 0, 0, [], 0, 0, (0, 0), false, []),
  (116, .ldc 241, 9, [7, 5], 0, 0, (0, 0), false, []),
  (118, .invokevirtual 227, 6, [0, 4, 2, 1, 0, 6], 0, 0, (0, 0), false, []),
  (121, .istore 5, 0, [], 0, 0, (0, 0), false, []),
  (123, .iload 5, 0, [], 0, 0, (0, 0), false, []),
  (125, .ifCond .eq 7, 1, [69], 0, 0, (0, 0), false, []),
  (128, .aload_n 0, 0, [], 0, 0, (0, 0), false, []),
  (129, .invokevirtual 224, 6, [0, 2, 1, 0, 0, 6], 0, 0, (0, 0), false, []),
  (132, .aload_n 0, 0, [], 0, 0, (0, 0), false, []),
  (133, .invokevirtual 272, 6, [0, 5, 1, 0, 0, 6], 0, 0, (0, 0), false, []),
  (136, .aload_n 0, 0, [], 0, 0, (0, 0), false, []),
  (137, .invokevirtual 173, 6, [0, 6, 1, 1, 0, 6], 0, 0, (0, 0), false, []),
  (140, .ifCond .eq 14, 1, [81], 0, 0, (0, 0), false, []),
  (143, .aload_n 0, 0, [], 0, 0, (0, 0), false, []),
  (144, .iload_n 1, 0, [], 0, 0, (0, 0), false, []),
  (145, .iload_n 2, 0, [], 0, 0, (0, 0), false, []),
  (146, .iload_n 3, 0, [], 0, 0, (0, 0), false, []),
  (147, .iload 4, 0, [], 0, 0, (0, 0), false, []),
  (149, .iload 5, 0, [], 0, 0, (0, 0), false, []),
  (151, .invokevirtual 278, 6, [0, 7, 6, 0, 0, 6], 0, 0, (0, 0), false, []),
  (154, .return_, 5, [], 0, 0, (0, 0), false, [])]
def eX6_parseDoor : List zm_M := [mX6_doors, mX6_errsIf, mX6_goOn, mX6_roomHere, mX6_isWord, mX6_semicolon, mX6_fine, mX6_addOne, mX6_number]
noncomputable def vX6_parseDoor : List (zm_M × zm_S) := [(mX6_doors, sX6_doors), (mX6_errsIf, sX6_errsIf), (mX6_goOn, sX6_goOn), (mX6_roomHere, sX6_roomHere), (mX6_isWord, sX6_isWord), (mX6_semicolon, sX6_semicolon), (mX6_fine, sX6_fine), (mX6_addOne, sX6_addOne), (mX6_number, sX6_number)]
noncomputable def sX6_parseDoor : zm_S := zsem vX6_parseDoor rX6_parseDoor 6
set_option maxRecDepth 100000 in
theorem aX6_parseDoor : zall RX6 mX6_parseDoor eX6_parseDoor rX6_parseDoor = true := by decide +kernel
set_option maxRecDepth 100000 in
theorem wX6_parseDoor : ∀ w ∈ zwds RX6 mX6_parseDoor eX6_parseDoor rX6_parseDoor, w ∈ gT := zwd_of [1482, 1484, 58, 119, 1485, 1348, 1350, 40, 119, 1351, 1425, 1427, 47, 119, 1428, 1486, 1488, 59, 119, 1489, 1425, 1427, 47, 119, 1428, 1486, 1488, 59, 119, 1489, 1348, 1350, 40, 119, 1351, 1425, 1427, 47, 119, 1428, 1365, 1367, 44, 119, 1368, 1365, 1367, 44, 119, 1368, 1425, 1427, 47, 119, 1428, 1470, 1472, 55, 119, 1473, 1365, 1367, 44, 119, 1368, 1425, 1427, 47, 119, 1428, 1474, 1476, 56, 119, 1477, 1352, 1354, 41, 119, 1355, 1491, 1493, 60, 119, 1494] (by decide +kernel) (by decide +kernel) (z7_no (by decide +kernel))
set_option maxRecDepth 100000 in
theorem xX6_parseDoor : ∀ w ∈ zwxs RX6 mX6_parseDoor eX6_parseDoor rX6_parseDoor, zspc w = true ∧ w ∈ lw_tbl := by decide +kernel
theorem tX6_parseDoor {l : Launch} (hlt : l.stackTraces = false) : MetA l mX6_parseDoor sX6_parseDoor := zmet (M := mX6_parseDoor) (own := RX6) (envM := eX6_parseDoor) hlt rfl (by decide +kernel) (by decide +kernel) rfl (fun j q hq => by
  match j, hq with
  | 0, hq => cases hq; exact tX6_doors hlt
  | 1, hq => cases hq; exact tX6_errsIf hlt
  | 2, hq => cases hq; exact tX6_goOn hlt
  | 3, hq => cases hq; exact tX6_roomHere hlt
  | 4, hq => cases hq; exact tX6_isWord hlt
  | 5, hq => cases hq; exact tX6_semicolon hlt
  | 6, hq => cases hq; exact tX6_fine hlt
  | 7, hq => cases hq; exact tX6_addOne hlt
  | 8, hq => cases hq; exact tX6_number hlt
  | n + 9, hq => cases hq) aX6_parseDoor wX6_parseDoor xX6_parseDoor rfl
def mX6_parseStart : zm_M := (yX6_parseStart, cX6_parseStart, 1, none, (9, 0, 0, 256), 0, [], (0, 0))
def rX6_parseStart : List zm_R := [(0, .aload_n 0, 0, [], 0, 0, (0, 0), false, []),
  (1, .aload_n 0, 0, [], 0, 0, (0, 0), false, []),
  (2, .getfield 282, 2, [6, 19, 27, 3], 0, 0, (0, 0), false, []),
  (5, .iconst 5, 0, [], 5, 0, (0, 0), false, []),
  (6, .invokevirtual 249, 6, [0, 0, 3, 0, 0, 6], 0, 0, (0, 0), false, []),
  (9, .aload_n 0, 0, [], 0, 0, (0, 0), false, []),
  (10, .iconst 1, 0, [], 1, 0, (0, 0), false, []),
  (11, .putfield 282, 2, [6, 19, 27, 3], 0, 0, (0, 0), false, []),
  (14, .aload_n 0, 0, [], 0, 0, (0, 0), false, []),
  (15, .invokevirtual 224, 6, [0, 1, 1, 0, 0, 6], 0, 0, (0, 0), false, []),
  (18, .aload_n 0, 0, [], 0, 0, (0, 0), false, []),
  (19, .getfield 24, 2, [6, 3, 27, 2], 0, 0, (0, 0), false, []),
  (22, .iconst 2, 0, [], 2, 0, (0, 0), false, []),
  (23, .aload_n 0, 0, [], 0, 0, (0, 0), false, []),
  (24, .invokevirtual 275, 6, [0, 2, 1, 1, 0, 6], 0, 0, (0, 0), false, []),
  (27, .iastore, 3, [0], 0, 0, (0, 0), false, []),
  (28, .aload_n 0, 0, [], 0, 0, (0, 0), false, []),
  (29, .invokevirtual 224, 6, [0, 1, 1, 0, 0, 6], 0, 0, (0, 0), false, []),
  (32, .aload_n 0, 0, [], 0, 0, (0, 0), false, []),
  (33, .invokevirtual 272, 6, [0, 3, 1, 0, 0, 6], 0, 0, (0, 0), false, []),
  (36, .return_, 5, [], 0, 0, (0, 0), false, [])]
def eX6_parseStart : List zm_M := [mX6_errsIf, mX6_goOn, mX6_roomHere, mX6_semicolon]
noncomputable def vX6_parseStart : List (zm_M × zm_S) := [(mX6_errsIf, sX6_errsIf), (mX6_goOn, sX6_goOn), (mX6_roomHere, sX6_roomHere), (mX6_semicolon, sX6_semicolon)]
noncomputable def sX6_parseStart : zm_S := zsem vX6_parseStart rX6_parseStart 1
set_option maxRecDepth 100000 in
theorem aX6_parseStart : zall RX6 mX6_parseStart eX6_parseStart rX6_parseStart = true := by decide +kernel
set_option maxRecDepth 100000 in
theorem wX6_parseStart : ∀ w ∈ zwds RX6 mX6_parseStart eX6_parseStart rX6_parseStart, w ∈ gT := zwd_of [1245, 1348, 1350, 40, 119, 1351, 1245, 1425, 1427, 47, 119, 1428, 1229, 1486, 1488, 59, 119, 1489, 1425, 1427, 47, 119, 1428, 1474, 1476, 56, 119, 1477] (by decide +kernel) (by decide +kernel) (z7_no (by decide +kernel))
set_option maxRecDepth 100000 in
theorem xX6_parseStart : ∀ w ∈ zwxs RX6 mX6_parseStart eX6_parseStart rX6_parseStart, zspc w = true ∧ w ∈ lw_tbl := by decide +kernel
theorem tX6_parseStart {l : Launch} (hlt : l.stackTraces = false) : MetA l mX6_parseStart sX6_parseStart := zmet (M := mX6_parseStart) (own := RX6) (envM := eX6_parseStart) hlt rfl (by decide +kernel) (by decide +kernel) rfl (fun j q hq => by
  match j, hq with
  | 0, hq => cases hq; exact tX6_errsIf hlt
  | 1, hq => cases hq; exact tX6_goOn hlt
  | 2, hq => cases hq; exact tX6_roomHere hlt
  | 3, hq => cases hq; exact tX6_semicolon hlt
  | n + 4, hq => cases hq) aX6_parseStart wX6_parseStart xX6_parseStart rfl
def mX6_parseEnd : zm_M := (yX6_parseEnd, cX6_parseEnd, 1, none, (9, 0, 0, 256), 0, [], (0, 0))
def rX6_parseEnd : List zm_R := [(0, .aload_n 0, 0, [], 0, 0, (0, 0), false, []),
  (1, .aload_n 0, 0, [], 0, 0, (0, 0), false, []),
  (2, .getfield 286, 2, [6, 20, 27, 3], 0, 0, (0, 0), false, []),
  (5, .iconst 5, 0, [], 5, 0, (0, 0), false, []),
  (6, .invokevirtual 249, 6, [0, 0, 3, 0, 0, 6], 0, 0, (0, 0), false, []),
  (9, .aload_n 0, 0, [], 0, 0, (0, 0), false, []),
  (10, .iconst 1, 0, [], 1, 0, (0, 0), false, []),
  (11, .putfield 286, 2, [6, 20, 27, 3], 0, 0, (0, 0), false, []),
  (14, .aload_n 0, 0, [], 0, 0, (0, 0), false, []),
  (15, .invokevirtual 224, 6, [0, 1, 1, 0, 0, 6], 0, 0, (0, 0), false, []),
  (18, .aload_n 0, 0, [], 0, 0, (0, 0), false, []),
  (19, .getfield 24, 2, [6, 3, 27, 2], 0, 0, (0, 0), false, []),
  (22, .iconst 3, 0, [], 3, 0, (0, 0), false, []),
  (23, .aload_n 0, 0, [], 0, 0, (0, 0), false, []),
  (24, .invokevirtual 275, 6, [0, 2, 1, 1, 0, 6], 0, 0, (0, 0), false, []),
  (27, .iastore, 3, [0], 0, 0, (0, 0), false, []),
  (28, .aload_n 0, 0, [], 0, 0, (0, 0), false, []),
  (29, .invokevirtual 224, 6, [0, 1, 1, 0, 0, 6], 0, 0, (0, 0), false, []),
  (32, .aload_n 0, 0, [], 0, 0, (0, 0), false, []),
  (33, .invokevirtual 272, 6, [0, 3, 1, 0, 0, 6], 0, 0, (0, 0), false, []),
  (36, .return_, 5, [], 0, 0, (0, 0), false, [])]
def eX6_parseEnd : List zm_M := [mX6_errsIf, mX6_goOn, mX6_roomHere, mX6_semicolon]
noncomputable def vX6_parseEnd : List (zm_M × zm_S) := [(mX6_errsIf, sX6_errsIf), (mX6_goOn, sX6_goOn), (mX6_roomHere, sX6_roomHere), (mX6_semicolon, sX6_semicolon)]
noncomputable def sX6_parseEnd : zm_S := zsem vX6_parseEnd rX6_parseEnd 1
set_option maxRecDepth 100000 in
theorem aX6_parseEnd : zall RX6 mX6_parseEnd eX6_parseEnd rX6_parseEnd = true := by decide +kernel
set_option maxRecDepth 100000 in
theorem wX6_parseEnd : ∀ w ∈ zwds RX6 mX6_parseEnd eX6_parseEnd rX6_parseEnd, w ∈ gT := zwd_of [1246, 1348, 1350, 40, 119, 1351, 1246, 1425, 1427, 47, 119, 1428, 1229, 1486, 1488, 59, 119, 1489, 1425, 1427, 47, 119, 1428, 1474, 1476, 56, 119, 1477] (by decide +kernel) (by decide +kernel) (z7_no (by decide +kernel))
set_option maxRecDepth 100000 in
theorem xX6_parseEnd : ∀ w ∈ zwxs RX6 mX6_parseEnd eX6_parseEnd rX6_parseEnd, zspc w = true ∧ w ∈ lw_tbl := by decide +kernel
theorem tX6_parseEnd {l : Launch} (hlt : l.stackTraces = false) : MetA l mX6_parseEnd sX6_parseEnd := zmet (M := mX6_parseEnd) (own := RX6) (envM := eX6_parseEnd) hlt rfl (by decide +kernel) (by decide +kernel) rfl (fun j q hq => by
  match j, hq with
  | 0, hq => cases hq; exact tX6_errsIf hlt
  | 1, hq => cases hq; exact tX6_goOn hlt
  | 2, hq => cases hq; exact tX6_roomHere hlt
  | 3, hq => cases hq; exact tX6_semicolon hlt
  | n + 4, hq => cases hq) aX6_parseEnd wX6_parseEnd xX6_parseEnd rfl
def mX6_parseStatement : zm_M := (yX6_parseStatement, cX6_parseStatement, 1, none, (10, 0, 0, 281), 0, [], (0, 0))
def rX6_parseStatement : List zm_R := [(0, .aload_n 0, 0, [], 0, 0, (0, 0), false, []),
  (1, .ldc 231, 9, [7, 0], 0, 0, (0, 0), false, []),
  (3, .invokevirtual 227, 6, [0, 0, 2, 1, 0, 6], 0, 0, (0, 0), false, []),
  (6, .ifCond .eq 10, 1, [7], 0, 0, (0, 0), false, []),
  (9, .aload_n 0, 0, [], 0, 0, (0, 0), false, []),
  (10, .invokevirtual 289, 6, [0, 5, 1, 0, 0, 6], 0, 0, (0, 0), false, []),
  (13, .goto 56, 1, [31], 0, 0, (0, 0), false, []),
  (16, .aload_n 0, 0, [], 0, 0, (0, 0), false, []),
  (17, .ldc 237, 9, [7, 3], 0, 0, (0, 0), false, []),
  (19, .invokevirtual 227, 6, [0, 0, 2, 1, 0, 6], 0, 0, (0, 0), false, []),
  (22, .ifCond .eq 10, 1, [14], 0, 0, (0, 0), false, []),
  (25, .aload_n 0, 0, [], 0, 0, (0, 0), false, []),
  (26, .invokevirtual 292, 6, [0, 4, 1, 0, 0, 6], 0, 0, (0, 0), false, []),
  (29, .goto 40, 1, [31], 0, 0, (0, 0), false, []),
  (32, .aload_n 0, 0, [], 0, 0, (0, 0), false, []),
  (33, .ldc 243, 9, [7, 6], 0, 0, (0, 0), false, []),
  (35, .invokevirtual 227, 6, [0, 0, 2, 1, 0, 6], 0, 0, (0, 0), false, []),
  (38, .ifCond .eq 10, 1, [21], 0, 0, (0, 0), false, []),
  (41, .aload_n 0, 0, [], 0, 0, (0, 0), false, []),
  (42, .invokevirtual 295, 6, [0, 3, 1, 0, 0, 6], 0, 0, (0, 0), false, []),
  (45, .goto 24, 1, [31], 0, 0, (0, 0), false, []),
  (48, .aload_n 0, 0, [], 0, 0, (0, 0), false, []),
  (49, .ldc 244, 9, [7, 7], 0, 0, (0, 0), false, []),
  (51, .invokevirtual 227, 6, [0, 0, 2, 1, 0, 6], 0, 0, (0, 0), false, []),
  (54, .ifCond .eq 10, 1, [28], 0, 0, (0, 0), false, []),
  (57, .aload_n 0, 0, [], 0, 0, (0, 0), false, []),
  (58, .invokevirtual 298, 6, [0, 2, 1, 0, 0, 6], 0, 0, (0, 0), false, []),
  (61, .goto 8, 1, [31], 0, 0, (0, 0), false, []),
  (64, .aload_n 0, 0, [], 0, 0, (0, 0), false, []),
  (65, .iconst 1, 0, [], 1, 0, (0, 0), false, []),
  (66, .invokevirtual 218, 6, [0, 1, 2, 0, 0, 6], 0, 0, (0, 0), false, []),
  (69, .return_, 5, [], 0, 0, (0, 0), false, [])]
def eX6_parseStatement : List zm_M := [mX6_isWord, mX6_errs, mX6_parseEnd, mX6_parseStart, mX6_parseDoor, mX6_parseRoom]
noncomputable def vX6_parseStatement : List (zm_M × zm_S) := [(mX6_isWord, sX6_isWord), (mX6_errs, sX6_errs), (mX6_parseEnd, sX6_parseEnd), (mX6_parseStart, sX6_parseStart), (mX6_parseDoor, sX6_parseDoor), (mX6_parseRoom, sX6_parseRoom)]
noncomputable def sX6_parseStatement : zm_S := zsem vX6_parseStatement rX6_parseStatement 1
set_option maxRecDepth 100000 in
theorem aX6_parseStatement : zall RX6 mX6_parseStatement eX6_parseStatement rX6_parseStatement = true := by decide +kernel
set_option maxRecDepth 100000 in
theorem wX6_parseStatement : ∀ w ∈ zwds RX6 mX6_parseStatement eX6_parseStatement rX6_parseStatement, w ∈ gT := zwd_of [1365, 1367, 44, 119, 1368, 1417, 1419, 45, 119, 1420, 1365, 1367, 44, 119, 1368, 1478, 1480, 57, 119, 1481, 1365, 1367, 44, 119, 1368, 1495, 1497, 61, 119, 1498, 1365, 1367, 44, 119, 1368, 1499, 1501, 62, 119, 1502, 1356, 1358, 42, 119, 1359] (by decide +kernel) (by decide +kernel) (z7_no (by decide +kernel))
set_option maxRecDepth 100000 in
theorem xX6_parseStatement : ∀ w ∈ zwxs RX6 mX6_parseStatement eX6_parseStatement rX6_parseStatement, zspc w = true ∧ w ∈ lw_tbl := by decide +kernel
theorem tX6_parseStatement {l : Launch} (hlt : l.stackTraces = false) : MetA l mX6_parseStatement sX6_parseStatement := zmet (M := mX6_parseStatement) (own := RX6) (envM := eX6_parseStatement) hlt rfl (by decide +kernel) (by decide +kernel) rfl (fun j q hq => by
  match j, hq with
  | 0, hq => cases hq; exact tX6_isWord hlt
  | 1, hq => cases hq; exact tX6_errs hlt
  | 2, hq => cases hq; exact tX6_parseEnd hlt
  | 3, hq => cases hq; exact tX6_parseStart hlt
  | 4, hq => cases hq; exact tX6_parseDoor hlt
  | 5, hq => cases hq; exact tX6_parseRoom hlt
  | n + 6, hq => cases hq) aX6_parseStatement wX6_parseStatement xX6_parseStatement rfl
def mX6_remember : zm_M := (yX6_remember, cX6_remember, 2, none, (0, 0, 0, 0), 0, [], (0, 0))
def rX6_remember : List zm_R := [(0, .aload_n 0, 0, [], 0, 0, (0, 0), false, []),
  (1, .getfield 421, 2, [6, 24, 27, 0], 0, 0, (0, 0), false, []),
  (4, .bipush 6, 0, [], 6, 0, (0, 0), false, []),
  (6, .if_icmp .ne 46, 1, [27], 0, 0, (0, 0), false, []),
  (9, .sipush 149, 0, [], 149, 0, (0, 0), false, []),
  (12, .istore_n 1, 0, [], 0, 0, (0, 0), false, []),
  (13, .iload_n 1, 0, [], 0, 0, (0, 0), true, []),
  (14, .sipush 894, 0, [], 894, 0, (0, 0), false, []),
  (17, .if_icmp .ge 25, 1, [21], 0, 0, (0, 0), false, []),
  (20, .aload_n 0, 0, [], 0, 0, (0, 0), false, []),
  (21, .getfield 60, 2, [6, 23, 27, 2], 0, 0, (0, 0), false, []),
  (24, .iload_n 1, 0, [], 0, 0, (0, 0), false, []),
  (25, .sipush 149, 0, [], 149, 0, (0, 0), false, []),
  (28, .isub, 0, [], 0, 0, (0, 0), false, []),
  (29, .aload_n 0, 0, [], 0, 0, (0, 0), false, []),
  (30, .getfield 60, 2, [6, 23, 27, 2], 0, 0, (0, 0), false, []),
  (33, .iload_n 1, 0, [], 0, 0, (0, 0), false, []),
  (34, .iaload, 3, [0], 0, 0, (0, 0), false, []),
  (35, .iastore, 3, [0], 0, 0, (0, 0), false, []),
  (36, .iinc 1 1, 0, [], 1, 0, (0, 0), false, []),
  (39, .goto (-26), 1, [6], 0, 0, (0, 0), false, []),
  (42, .aload_n 0, 0, [], 0, 0, (0, 0), false, []),
  (43, .dup, 0, [], 0, 0, (0, 0), false, []),
  (44, .getfield 421, 2, [6, 24, 27, 0], 0, 0, (0, 0), false, []),
  (47, .iconst 1, 0, [], 1, 0, (0, 0), false, []),
  (48, .isub, 0, [], 0, 0, (0, 0), false, []),
  (49, .putfield 421, 2, [6, 24, 27, 0], 0, 0, (0, 0), false, []),
  (52, .iconst 0, 0, [], 0, 0, (0, 0), false, []),
  (53, .istore_n 1, 0, [], 0, 0, (0, 0), false, []),
  (54, .iload_n 1, 0, [], 0, 0, (0, 0), true, []),
  (55, .sipush 149, 0, [], 149, 0, (0, 0), false, []),
  (58, .if_icmp .ge 30, 1, [47], 0, 0, (0, 0), false, []),
  (61, .aload_n 0, 0, [], 0, 0, (0, 0), false, []),
  (62, .getfield 60, 2, [6, 23, 27, 2], 0, 0, (0, 0), false, []),
  (65, .sipush 149, 0, [], 149, 0, (0, 0), false, []),
  (68, .aload_n 0, 0, [], 0, 0, (0, 0), false, []),
  (69, .getfield 421, 2, [6, 24, 27, 0], 0, 0, (0, 0), false, []),
  (72, .imul, 0, [], 0, 0, (0, 0), false, []),
  (73, .iload_n 1, 0, [], 0, 0, (0, 0), false, []),
  (74, .iadd, 0, [], 0, 0, (0, 0), false, []),
  (75, .aload_n 0, 0, [], 0, 0, (0, 0), false, []),
  (76, .getfield 17, 2, [6, 1, 27, 2], 0, 0, (0, 0), false, []),
  (79, .iload_n 1, 0, [], 0, 0, (0, 0), false, []),
  (80, .iaload, 3, [0], 0, 0, (0, 0), false, []),
  (81, .iastore, 3, [0], 0, 0, (0, 0), false, []),
  (82, .iinc 1 1, 0, [], 1, 0, (0, 0), false, []),
  (85, .goto (-31), 1, [29], 0, 0, (0, 0), false, []),
  (88, .aload_n 0, 0, [], 0, 0, (0, 0), false, []),
  (89, .dup, 0, [], 0, 0, (0, 0), false, []),
  (90, .getfield 421, 2, [6, 24, 27, 0], 0, 0, (0, 0), false, []),
  (93, .iconst 1, 0, [], 1, 0, (0, 0), false, []),
  (94, .iadd, 0, [], 0, 0, (0, 0), false, []),
  (95, .putfield 421, 2, [6, 24, 27, 0], 0, 0, (0, 0), false, []),
  (98, .return_, 5, [], 0, 0, (0, 0), false, [])]
def eX6_remember : List zm_M := []
noncomputable def vX6_remember : List (zm_M × zm_S) := []
noncomputable def sX6_remember : zm_S := zsem vX6_remember rX6_remember 2
set_option maxRecDepth 100000 in
theorem aX6_remember : zall RX6 mX6_remember eX6_remember rX6_remember = true := by decide +kernel
set_option maxRecDepth 100000 in
theorem wX6_remember : ∀ w ∈ zwds RX6 mX6_remember eX6_remember rX6_remember, w ∈ gT := zwd_of [1250, 1249, 1249, 1250, 1250, 1249, 1250, 1227, 1250, 1250] (by decide +kernel) (by decide +kernel) (z7_no (by decide +kernel))
set_option maxRecDepth 100000 in
theorem xX6_remember : ∀ w ∈ zwxs RX6 mX6_remember eX6_remember rX6_remember, zspc w = true ∧ w ∈ lw_tbl := by decide +kernel
theorem tX6_remember {l : Launch} (hlt : l.stackTraces = false) : MetA l mX6_remember sX6_remember := zmet (M := mX6_remember) (own := RX6) (envM := eX6_remember) hlt rfl (by decide +kernel) (by decide +kernel) rfl (fun j q hq => by cases hq) aX6_remember wX6_remember xX6_remember rfl
def mX6_load : zm_M := (yX6_load, cX6_load, 2, (some .int), (11, 0, 0, 301), 0, [], (0, 0))
def rX6_load : List zm_R := [(0, .aload_n 0, 0, [], 0, 0, (0, 0), false, []),
  (1, .iconst 0, 0, [], 0, 0, (0, 0), false, []),
  (2, .putfield 3, 2, [6, 0, 27, 0], 0, 0, (0, 0), false, []),
  (5, .aload_n 0, 0, [], 0, 0, (0, 0), false, []),
  (6, .aload_n 0, 0, [], 0, 0, (0, 0), false, []),
  (7, .getfield 160, 2, [6, 11, 27, 0], 0, 0, (0, 0), false, []),
  (10, .putfield 180, 2, [6, 12, 27, 0], 0, 0, (0, 0), false, []),
  (13, .aload_n 0, 0, [], 0, 0, (0, 0), false, []),
  (14, .iconst 0, 0, [], 0, 0, (0, 0), false, []),
  (15, .putfield 160, 2, [6, 11, 27, 0], 0, 0, (0, 0), false, []),
  (18, .aload_n 0, 0, [], 0, 0, (0, 0), false, []),
  (19, .iconst 0, 0, [], 0, 0, (0, 0), false, []),
  (20, .putfield 183, 2, [6, 13, 27, 0], 0, 0, (0, 0), false, []),
  (23, .aload_n 0, 0, [], 0, 0, (0, 0), false, []),
  (24, .iconst 0, 0, [], 0, 0, (0, 0), false, []),
  (25, .putfield 170, 2, [6, 17, 27, 0], 0, 0, (0, 0), false, []),
  (28, .aload_n 0, 0, [], 0, 0, (0, 0), false, []),
  (29, .iconst (-1), 0, [], (-1), 0, (0, 0), false, []),
  (30, .putfield 51, 2, [6, 18, 27, 0], 0, 0, (0, 0), false, []),
  (33, .aload_n 0, 0, [], 0, 0, (0, 0), false, []),
  (34, .iconst 0, 0, [], 0, 0, (0, 0), false, []),
  (35, .putfield 282, 2, [6, 19, 27, 3], 0, 0, (0, 0), false, []),
  (38, .aload_n 0, 0, [], 0, 0, (0, 0), false, []),
  (39, .iconst 0, 0, [], 0, 0, (0, 0), false, []),
  (40, .putfield 286, 2, [6, 20, 27, 3], 0, 0, (0, 0), false, []),
  (43, .aload_n 0, 0, [], 0, 0, (0, 0), false, []),
  (44, .aload_n 0, 0, [], 0, 0, (0, 0), false, []),
  (45, .getfield 21, 2, [6, 2, 27, 2], 0, 0, (0, 0), false, []),
  (48, .putfield 24, 2, [6, 3, 27, 2], 0, 0, (0, 0), false, []),
  (51, .aload_n 0, 0, [], 0, 0, (0, 0), false, []),
  (52, .invokevirtual 66, 6, [0, 0, 1, 0, 0, 6], 0, 0, (0, 0), false, []),
  (55, .aload_n 0, 0, [], 0, 0, (0, 0), false, []),
  (56, .invokevirtual 206, 6, [0, 1, 1, 0, 0, 6], 0, 0, (0, 0), false, []),
  (59, .aload_n 0, 0, [], 0, 0, (0, 0), false, []),
  (60, .aload_n 0, 0, [], 0, 0, (0, 0), false, []),
  (61, .getfield 189, 2, [6, 15, 27, 0], 0, 0, (0, 0), false, []),
  (64, .ifCond .ne 7, 1, [39], 0, 0, (0, 0), false, []),
  (67, .iconst 1, 0, [], 1, 0, (0, 0), false, []),
  (68, .goto 4, 1, [40], 0, 0, (0, 0), false, []),
  (71, .iconst 0, 0, [], 0, 0, (0, 0), false, []),
  (72, .iconst 1, 0, [], 1, 0, (0, 0), false, []),
  (73, .invokevirtual 249, 6, [0, 2, 3, 0, 0, 6], 0, 0, (0, 0), false, []),
  (76, .aload_n 0, 0, [], 0, 0, (0, 0), true, [1]),
  (77, .invokevirtual 173, 6, [0, 3, 1, 1, 0, 6], 0, 0, (0, 0), false, []),
  (80, .ifCond .eq 17, 1, [51], 0, 0, (0, 0), false, []),
  (83, .aload_n 0, 0, [], 0, 0, (0, 0), false, []),
  (84, .getfield 189, 2, [6, 15, 27, 0], 0, 0, (0, 0), false, []),
  (87, .ifCond .eq 10, 1, [51], 0, 0, (0, 0), false, []),
  (90, .aload_n 0, 0, [], 0, 0, (0, 0), false, []),
  (91, .invokevirtual 301, 6, [0, 6, 1, 0, 0, 6], 0, 0, (0, 0), false, []),
  (94, .goto (-18), 1, [42], 0, 0, (0, 0), false, []),
  (97, .aload_n 0, 0, [], 0, 0, (0, 0), false, []),
  (98, .getfield 24, 2, [6, 3, 27, 2], 0, 0, (0, 0), false, []),
  (101, .iconst 5, 0, [], 5, 0, (0, 0), false, []),
  (102, .aload_n 0, 0, [], 0, 0, (0, 0), false, []),
  (103, .getfield 24, 2, [6, 3, 27, 2], 0, 0, (0, 0), false, []),
  (106, .iconst 2, 0, [], 2, 0, (0, 0), false, []),
  (107, .iaload, 3, [0], 0, 0, (0, 0), false, []),
  (108, .iastore, 3, [0], 0, 0, (0, 0), false, []),
  (109, .aload_n 0, 0, [], 0, 0, (0, 0), false, []),
  (110, .aload_n 0, 0, [], 0, 0, (0, 0), false, []),
  (111, .getfield 17, 2, [6, 1, 27, 2], 0, 0, (0, 0), false, []),
  (114, .putfield 24, 2, [6, 3, 27, 2], 0, 0, (0, 0), false, []),
  (117, .aload_n 0, 0, [], 0, 0, (0, 0), false, []),
  (118, .invokevirtual 173, 6, [0, 3, 1, 1, 0, 6], 0, 0, (0, 0), false, []),
  (121, .ifCond .ne 6, 1, [68], 0, 0, (0, 0), false, []),
  (124, .bipush (-4), 0, [], (-4), 0, (0, 0), false, []),
  (126, .ireturn, 5, [0], 0, 0, (0, 0), false, []),
  (127, .aload_n 0, 0, [], 0, 0, (0, 0), false, []),
  (128, .invokevirtual 304, 6, [0, 4, 1, 0, 0, 6], 0, 0, (0, 0), false, []),
  (131, .iconst 0, 0, [], 0, 0, (0, 0), false, []),
  (132, .istore_n 1, 0, [], 0, 0, (0, 0), false, []),
  (133, .iload_n 1, 0, [], 0, 0, (0, 0), true, []),
  (134, .sipush 149, 0, [], 149, 0, (0, 0), false, []),
  (137, .if_icmp .ge 21, 1, [85], 0, 0, (0, 0), false, []),
  (140, .aload_n 0, 0, [], 0, 0, (0, 0), false, []),
  (141, .getfield 17, 2, [6, 1, 27, 2], 0, 0, (0, 0), false, []),
  (144, .iload_n 1, 0, [], 0, 0, (0, 0), false, []),
  (145, .aload_n 0, 0, [], 0, 0, (0, 0), false, []),
  (146, .getfield 21, 2, [6, 2, 27, 2], 0, 0, (0, 0), false, []),
  (149, .iload_n 1, 0, [], 0, 0, (0, 0), false, []),
  (150, .iaload, 3, [0], 0, 0, (0, 0), false, []),
  (151, .iastore, 3, [0], 0, 0, (0, 0), false, []),
  (152, .iinc 1 1, 0, [], 1, 0, (0, 0), false, []),
  (155, .goto (-22), 1, [72], 0, 0, (0, 0), false, []),
  (158, .aload_n 0, 0, [], 0, 0, (0, 0), false, []),
  (159, .invokevirtual 69, 6, [0, 5, 1, 1, 0, 6], 0, 0, (0, 0), false, []),
  (162, .ireturn, 5, [0], 0, 0, (0, 0), false, [])]
def eX6_load : List zm_M := [mX6_layPlain, mX6_scan, mX6_errsIf, mX6_fine, mX6_remember, mX6_rooms, mX6_parseStatement]
noncomputable def vX6_load : List (zm_M × zm_S) := [(mX6_layPlain, sX6_layPlain), (mX6_scan, sX6_scan), (mX6_errsIf, sX6_errsIf), (mX6_fine, sX6_fine), (mX6_remember, sX6_remember), (mX6_rooms, sX6_rooms), (mX6_parseStatement, sX6_parseStatement)]
noncomputable def sX6_load : zm_S := zsem vX6_load rX6_load 2
set_option maxRecDepth 100000 in
theorem aX6_load : zall RX6 mX6_load eX6_load rX6_load = true := by decide +kernel
set_option maxRecDepth 100000 in
theorem wX6_load : ∀ w ∈ zwds RX6 mX6_load eX6_load rX6_load, w ∈ gT := zwd_of [1226, 1237, 1238, 1237, 1239, 1243, 1244, 1245, 1246, 1228, 1229, 1222, 1224, 34, 119, 1225, 1335, 1337, 38, 119, 1338, 1241, 1348, 1350, 40, 119, 1351, 1352, 1354, 41, 119, 1355, 1241, 1360, 1362, 43, 119, 1363, 1229, 1229, 1227, 1229, 1352, 1354, 41, 119, 1355, 1503, 1505, 63, 119, 1506, 1227, 1228, 1421, 1423, 46, 119, 1424] (by decide +kernel) (by decide +kernel) (z7_no (by decide +kernel))
set_option maxRecDepth 100000 in
theorem xX6_load : ∀ w ∈ zwxs RX6 mX6_load eX6_load rX6_load, zspc w = true ∧ w ∈ lw_tbl := by decide +kernel
theorem tX6_load {l : Launch} (hlt : l.stackTraces = false) : MetA l mX6_load sX6_load := zmet (M := mX6_load) (own := RX6) (envM := eX6_load) hlt rfl (by decide +kernel) (by decide +kernel) rfl (fun j q hq => by
  match j, hq with
  | 0, hq => cases hq; exact tX6_layPlain hlt
  | 1, hq => cases hq; exact tX6_scan hlt
  | 2, hq => cases hq; exact tX6_errsIf hlt
  | 3, hq => cases hq; exact tX6_fine hlt
  | 4, hq => cases hq; exact tX6_remember hlt
  | 5, hq => cases hq; exact tX6_rooms hlt
  | 6, hq => cases hq; exact tX6_parseStatement hlt
  | n + 7, hq => cases hq) aX6_load wX6_load xX6_load rfl
def mX6_errorCode : zm_M := (yX6_errorCode, cX6_errorCode, 1, (some .int), (0, 0, 0, 0), 0, [], (0, 0))
def rX6_errorCode : List zm_R := [(0, .aload_n 0, 0, [], 0, 0, (0, 0), false, []),
  (1, .iconst 0, 0, [], 0, 0, (0, 0), false, []),
  (2, .putfield 3, 2, [6, 0, 27, 0], 0, 0, (0, 0), false, []),
  (5, .aload_n 0, 0, [], 0, 0, (0, 0), false, []),
  (6, .getfield 170, 2, [6, 17, 27, 0], 0, 0, (0, 0), false, []),
  (9, .ireturn, 5, [0], 0, 0, (0, 0), false, [])]
def eX6_errorCode : List zm_M := []
noncomputable def vX6_errorCode : List (zm_M × zm_S) := []
noncomputable def sX6_errorCode : zm_S := zsem vX6_errorCode rX6_errorCode 1
set_option maxRecDepth 100000 in
theorem aX6_errorCode : zall RX6 mX6_errorCode eX6_errorCode rX6_errorCode = true := by decide +kernel
set_option maxRecDepth 100000 in
theorem wX6_errorCode : ∀ w ∈ zwds RX6 mX6_errorCode eX6_errorCode rX6_errorCode, w ∈ gT := zwd_of [1226, 1243] (by decide +kernel) (by decide +kernel) (z7_no (by decide +kernel))
set_option maxRecDepth 100000 in
theorem xX6_errorCode : ∀ w ∈ zwxs RX6 mX6_errorCode eX6_errorCode rX6_errorCode, zspc w = true ∧ w ∈ lw_tbl := by decide +kernel
theorem tX6_errorCode {l : Launch} (hlt : l.stackTraces = false) : MetA l mX6_errorCode sX6_errorCode := zmet (M := mX6_errorCode) (own := RX6) (envM := eX6_errorCode) hlt rfl (by decide +kernel) (by decide +kernel) rfl (fun j q hq => by cases hq) aX6_errorCode wX6_errorCode xX6_errorCode rfl
def mX6_errorPosition : zm_M := (yX6_errorPosition, cX6_errorPosition, 1, (some .int), (0, 0, 0, 0), 0, [], (0, 0))
def rX6_errorPosition : List zm_R := [(0, .aload_n 0, 0, [], 0, 0, (0, 0), false, []),
  (1, .iconst 0, 0, [], 0, 0, (0, 0), false, []),
  (2, .putfield 3, 2, [6, 0, 27, 0], 0, 0, (0, 0), false, []),
  (5, .aload_n 0, 0, [], 0, 0, (0, 0), false, []),
  (6, .getfield 51, 2, [6, 18, 27, 0], 0, 0, (0, 0), false, []),
  (9, .ireturn, 5, [0], 0, 0, (0, 0), false, [])]
def eX6_errorPosition : List zm_M := []
noncomputable def vX6_errorPosition : List (zm_M × zm_S) := []
noncomputable def sX6_errorPosition : zm_S := zsem vX6_errorPosition rX6_errorPosition 1
set_option maxRecDepth 100000 in
theorem aX6_errorPosition : zall RX6 mX6_errorPosition eX6_errorPosition rX6_errorPosition = true := by decide +kernel
set_option maxRecDepth 100000 in
theorem wX6_errorPosition : ∀ w ∈ zwds RX6 mX6_errorPosition eX6_errorPosition rX6_errorPosition, w ∈ gT := zwd_of [1226, 1244] (by decide +kernel) (by decide +kernel) (z7_no (by decide +kernel))
set_option maxRecDepth 100000 in
theorem xX6_errorPosition : ∀ w ∈ zwxs RX6 mX6_errorPosition eX6_errorPosition rX6_errorPosition, zspc w = true ∧ w ∈ lw_tbl := by decide +kernel
theorem tX6_errorPosition {l : Launch} (hlt : l.stackTraces = false) : MetA l mX6_errorPosition sX6_errorPosition := zmet (M := mX6_errorPosition) (own := RX6) (envM := eX6_errorPosition) hlt rfl (by decide +kernel) (by decide +kernel) rfl (fun j q hq => by cases hq) aX6_errorPosition wX6_errorPosition xX6_errorPosition rfl
def mX6_find : zm_M := (yX6_find, cX6_find, 3, (some .int), (2, 0, 0, 44), 0, [], (0, 0))
def rX6_find : List zm_R := [(0, .aload_n 0, 0, [], 0, 0, (0, 0), false, []),
  (1, .iconst 0, 0, [], 0, 0, (0, 0), false, []),
  (2, .putfield 3, 2, [6, 0, 27, 0], 0, 0, (0, 0), false, []),
  (5, .aload_n 0, 0, [], 0, 0, (0, 0), false, []),
  (6, .getfield 160, 2, [6, 11, 27, 0], 0, 0, (0, 0), false, []),
  (9, .i2l, 0, [], 0, 0, (0, 0), false, []),
  (10, .lconst 1, 0, [], 0, 1, (0, 0), false, []),
  (11, .ldc2_w 307, 9, [1], 0, 6, (0, 0), false, []),
  (14, .invokestatic 73, 6, [1, 0, 3, 1, 0, 6], 0, 0, (0, 0), false, []),
  (17, .istore_n 1, 0, [], 0, 0, (0, 0), false, []),
  (18, .iconst 0, 0, [], 0, 0, (0, 0), false, []),
  (19, .istore_n 2, 0, [], 0, 0, (0, 0), false, []),
  (20, .iload_n 2, 0, [], 0, 0, (0, 0), true, []),
  (21, .aload_n 0, 0, [], 0, 0, (0, 0), false, []),
  (22, .getfield 160, 2, [6, 11, 27, 0], 0, 0, (0, 0), false, []),
  (25, .if_icmp .ge 30, 1, [29], 0, 0, (0, 0), false, []),
  (28, .iload_n 1, 0, [], 0, 0, (0, 0), false, []),
  (29, .ifCond .eq 26, 1, [29], 0, 0, (0, 0), false, []),
  (32, .aload_n 0, 0, [], 0, 0, (0, 0), false, []),
  (33, .getfield 47, 2, [6, 10, 27, 2], 0, 0, (0, 0), false, []),
  (36, .iload_n 2, 0, [], 0, 0, (0, 0), false, []),
  (37, .baload, 3, [2], 0, 0, (0, 0), false, []),
  (38, .i2l, 0, [], 0, 0, (0, 0), false, []),
  (39, .ldc2_w 192, 9, [1], 0, 97, (0, 0), false, []),
  (42, .ldc2_w 194, 9, [1], 0, 122, (0, 0), false, []),
  (45, .invokestatic 73, 6, [1, 0, 3, 1, 0, 6], 0, 0, (0, 0), false, []),
  (48, .istore_n 1, 0, [], 0, 0, (0, 0), false, []),
  (49, .iinc 2 1, 0, [], 1, 0, (0, 0), false, []),
  (52, .goto (-32), 1, [12], 0, 0, (0, 0), false, []),
  (55, .iload_n 1, 0, [], 0, 0, (0, 0), false, []),
  (56, .ifCond .eq 18, 1, [38], 0, 0, (0, 0), false, []),
  (59, .aload_n 0, 0, [], 0, 0, (0, 0), false, []),
  (60, .getfield 47, 2, [6, 10, 27, 2], 0, 0, (0, 0), false, []),
  (63, .iconst 0, 0, [], 0, 0, (0, 0), false, []),
  (64, .aload_n 0, 0, [], 0, 0, (0, 0), false, []),
  (65, .getfield 160, 2, [6, 11, 27, 0], 0, 0, (0, 0), false, []),
  (68, .invokestatic 253, 6, [1, 2, 3, 1, 0, 6], 0, 0, (0, 0), false, []),
  (71, .goto 4, 1, [39], 0, 0, (0, 0), false, []),
  (74, .iconst 0, 0, [], 0, 0, (0, 0), false, []),
  (75, .istore_n 2, 0, [], 0, 0, (0, 0), false, []),
  (76, .aload_n 0, 0, [], 0, 0, (0, 0), false, []),
  (77, .iconst 0, 0, [], 0, 0, (0, 0), false, []),
  (78, .putfield 160, 2, [6, 11, 27, 0], 0, 0, (0, 0), false, []),
  (81, .aload_n 0, 0, [], 0, 0, (0, 0), false, []),
  (82, .iload_n 2, 0, [], 0, 0, (0, 0), false, []),
  (83, .invokevirtual 260, 6, [0, 1, 2, 1, 0, 6], 0, 0, (0, 0), false, []),
  (86, .ireturn, 5, [0], 0, 0, (0, 0), false, [])]
def eX6_find : List zm_M := [mX6_in, mX6_roomNamed, mX6_nameOf]
noncomputable def vX6_find : List (zm_M × zm_S) := [(mX6_in, sX6_in), (mX6_roomNamed, sX6_roomNamed), (mX6_nameOf, sX6_nameOf)]
noncomputable def sX6_find : zm_S := zsem vX6_find rX6_find 3
set_option maxRecDepth 100000 in
theorem aX6_find : zall RX6 mX6_find eX6_find rX6_find = true := by decide +kernel
set_option maxRecDepth 100000 in
theorem wX6_find : ∀ w ∈ zwds RX6 mX6_find eX6_find rX6_find, w ∈ gT := zwd_of [1226, 1237, 1519, 1328, 1329, 119, 1330, 1237, 1236, 1343, 1344, 1328, 1329, 119, 1330, 1236, 1237, 1444, 1445, 119, 1446, 1237, 1447, 1449, 50, 119, 1450] (by decide +kernel) (by decide +kernel) (z7_no (by decide +kernel))
set_option maxRecDepth 100000 in
theorem xX6_find : ∀ w ∈ zwxs RX6 mX6_find eX6_find rX6_find, zspc w = true ∧ w ∈ lw_tbl := by decide +kernel
theorem tX6_find {l : Launch} (hlt : l.stackTraces = false) : MetA l mX6_find sX6_find := zmet (M := mX6_find) (own := RX6) (envM := eX6_find) hlt rfl (by decide +kernel) (by decide +kernel) rfl (fun j q hq => by
  match j, hq with
  | 0, hq => cases hq; exact tX6_in hlt
  | 1, hq => cases hq; exact tX6_roomNamed hlt
  | 2, hq => cases hq; exact tX6_nameOf hlt
  | n + 3, hq => cases hq) aX6_find wX6_find xX6_find rfl
def mX6_property : zm_M := (yX6_property, cX6_property, 2, (some .int), (2, 0, 0, 45), 1, [], (0, 0))
def rX6_property : List zm_R := [(0, .aload_n 0, 0, [], 0, 0, (0, 0), false, []),
  (1, .iload_n 1, 0, [], 0, 0, (0, 0), false, []),
  (2, .i2l, 0, [], 0, 0, (0, 0), false, []),
  (3, .lconst 0, 0, [], 0, 0, (0, 0), false, []),
  (4, .ldc2_w 309, 9, [1], 0, 8, (0, 0), false, []),
  (7, .invokestatic 73, 6, [1, 0, 3, 1, 0, 6], 0, 0, (0, 0), false, []),
  (10, .invokevirtual 163, 6, [0, 1, 2, 1, 0, 6], 0, 0, (0, 0), false, []),
  (13, .ifCond .ne 5, 1, [10], 0, 0, (0, 0), false, []),
  (16, .iconst 0, 0, [], 0, 0, (0, 0), false, []),
  (17, .ireturn, 5, [0], 0, 0, (0, 0), false, []),
  (18, .iload_n 1, 0, [], 0, 0, (0, 0), false, []),
  (19, .tableswitch 57 5 8 #[29, 34, 39, 48], 1, [28, 12, 15, 18, 23], 0, 0, (0, 0), true, []),
  (48, .aload_n 0, 0, [], 0, 0, (0, 0), true, [1]),
  (49, .invokevirtual 311, 6, [0, 5, 1, 1, 0, 6], 0, 0, (0, 0), false, []),
  (52, .ireturn, 5, [0], 0, 0, (0, 0), false, []),
  (53, .aload_n 0, 0, [], 0, 0, (0, 0), true, [1]),
  (54, .invokevirtual 314, 6, [0, 2, 1, 1, 0, 6], 0, 0, (0, 0), false, []),
  (57, .ireturn, 5, [0], 0, 0, (0, 0), false, []),
  (58, .aload_n 0, 0, [], 0, 0, (0, 0), true, [1]),
  (59, .aload_n 0, 0, [], 0, 0, (0, 0), false, []),
  (60, .invokevirtual 314, 6, [0, 2, 1, 1, 0, 6], 0, 0, (0, 0), false, []),
  (63, .invokevirtual 97, 6, [0, 4, 2, 1, 0, 6], 0, 0, (0, 0), false, []),
  (66, .ireturn, 5, [0], 0, 0, (0, 0), false, []),
  (67, .aload_n 0, 0, [], 0, 0, (0, 0), true, [1]),
  (68, .aload_n 0, 0, [], 0, 0, (0, 0), false, []),
  (69, .invokevirtual 314, 6, [0, 2, 1, 1, 0, 6], 0, 0, (0, 0), false, []),
  (72, .invokevirtual 100, 6, [0, 3, 2, 1, 0, 6], 0, 0, (0, 0), false, []),
  (75, .ireturn, 5, [0], 0, 0, (0, 0), false, []),
  (76, .aload_n 0, 0, [], 0, 0, (0, 0), true, []),
  (77, .getfield 17, 2, [6, 1, 27, 2], 0, 0, (0, 0), false, []),
  (80, .iload_n 1, 0, [], 0, 0, (0, 0), false, []),
  (81, .iaload, 3, [0], 0, 0, (0, 0), false, []),
  (82, .ireturn, 5, [0], 0, 0, (0, 0), false, [])]
def eX6_property : List zm_M := [mX6_in, mX6_passes, mX6_walkSet, mX6_coinsIn, mX6_keysIn, mX6_lastRoom]
noncomputable def vX6_property : List (zm_M × zm_S) := [(mX6_in, sX6_in), (mX6_passes, sX6_passes), (mX6_walkSet, sX6_walkSet), (mX6_coinsIn, sX6_coinsIn), (mX6_keysIn, sX6_keysIn), (mX6_lastRoom, sX6_lastRoom)]
noncomputable def sX6_property : zm_S := zsem vX6_property rX6_property 2
set_option maxRecDepth 100000 in
theorem aX6_property : zall RX6 mX6_property eX6_property rX6_property = true := by decide +kernel
set_option maxRecDepth 100000 in
theorem wX6_property : ∀ w ∈ zwds RX6 mX6_property eX6_property rX6_property, w ∈ gT := zwd_of [1524, 1328, 1329, 119, 1330, 1312, 1314, 35, 119, 1315, 1525, 1527, 64, 119, 1528, 1533, 1535, 66, 119, 1536, 1533, 1535, 66, 119, 1536, 1537, 1539, 67, 119, 1540, 1533, 1535, 66, 119, 1536, 1541, 1543, 68, 119, 1544, 1227] (by decide +kernel) (by decide +kernel) (z7_no (by decide +kernel))
set_option maxRecDepth 100000 in
theorem xX6_property : ∀ w ∈ zwxs RX6 mX6_property eX6_property rX6_property, zspc w = true ∧ w ∈ lw_tbl := by decide +kernel
theorem tX6_property {l : Launch} (hlt : l.stackTraces = false) : MetA l mX6_property sX6_property := zmet (M := mX6_property) (own := RX6) (envM := eX6_property) hlt rfl (by decide +kernel) (by decide +kernel) rfl (fun j q hq => by
  match j, hq with
  | 0, hq => cases hq; exact tX6_in hlt
  | 1, hq => cases hq; exact tX6_passes hlt
  | 2, hq => cases hq; exact tX6_walkSet hlt
  | 3, hq => cases hq; exact tX6_coinsIn hlt
  | 4, hq => cases hq; exact tX6_keysIn hlt
  | 5, hq => cases hq; exact tX6_lastRoom hlt
  | n + 6, hq => cases hq) aX6_property wX6_property xX6_property rfl
def mX6_placeOf : zm_M := (yX6_placeOf, cX6_placeOf, 3, (some .int), (1, 0, 0, 21), 1, [], (0, 0))
def rX6_placeOf : List zm_R := [(0, .iconst 0, 0, [], 0, 0, (0, 0), false, []),
  (1, .istore_n 2, 0, [], 0, 0, (0, 0), false, []),
  (2, .iload_n 2, 0, [], 0, 0, (0, 0), true, []),
  (3, .aload_n 0, 0, [], 0, 0, (0, 0), false, []),
  (4, .getfield 17, 2, [6, 1, 27, 2], 0, 0, (0, 0), false, []),
  (7, .iconst 4, 0, [], 4, 0, (0, 0), false, []),
  (8, .iaload, 3, [0], 0, 0, (0, 0), false, []),
  (9, .if_icmp .ge 20, 1, [17], 0, 0, (0, 0), false, []),
  (12, .aload_n 0, 0, [], 0, 0, (0, 0), false, []),
  (13, .iload_n 2, 0, [], 0, 0, (0, 0), false, []),
  (14, .invokevirtual 82, 6, [0, 0, 2, 1, 0, 6], 0, 0, (0, 0), false, []),
  (17, .iload_n 1, 0, [], 0, 0, (0, 0), false, []),
  (18, .if_icmp .ne 5, 1, [15], 0, 0, (0, 0), false, []),
  (21, .iload_n 2, 0, [], 0, 0, (0, 0), false, []),
  (22, .ireturn, 5, [0], 0, 0, (0, 0), false, []),
  (23, .iinc 2 1, 0, [], 1, 0, (0, 0), false, []),
  (26, .goto (-24), 1, [2], 0, 0, (0, 0), false, []),
  (29, .iconst (-1), 0, [], (-1), 0, (0, 0), false, []),
  (30, .ireturn, 5, [0], 0, 0, (0, 0), false, [])]
def eX6_placeOf : List zm_M := [mX6_walkedAt]
noncomputable def vX6_placeOf : List (zm_M × zm_S) := [(mX6_walkedAt, sX6_walkedAt)]
noncomputable def sX6_placeOf : zm_S := zsem vX6_placeOf rX6_placeOf 3
set_option maxRecDepth 100000 in
theorem aX6_placeOf : zall RX6 mX6_placeOf eX6_placeOf rX6_placeOf = true := by decide +kernel
set_option maxRecDepth 100000 in
theorem wX6_placeOf : ∀ w ∈ zwds RX6 mX6_placeOf eX6_placeOf rX6_placeOf, w ∈ gT := zwd_of [1227, 1529, 1531, 65, 119, 1532] (by decide +kernel) (by decide +kernel) (z7_no (by decide +kernel))
set_option maxRecDepth 100000 in
theorem xX6_placeOf : ∀ w ∈ zwxs RX6 mX6_placeOf eX6_placeOf rX6_placeOf, zspc w = true ∧ w ∈ lw_tbl := by decide +kernel
theorem tX6_placeOf {l : Launch} (hlt : l.stackTraces = false) : MetA l mX6_placeOf sX6_placeOf := zmet (M := mX6_placeOf) (own := RX6) (envM := eX6_placeOf) hlt rfl (by decide +kernel) (by decide +kernel) rfl (fun j q hq => by
  match j, hq with
  | 0, hq => cases hq; exact tX6_walkedAt hlt
  | n + 1, hq => cases hq) aX6_placeOf wX6_placeOf xX6_placeOf rfl
def mX6_doorsOf : zm_M := (yX6_doorsOf, cX6_doorsOf, 7, (some .int), (1, 0, 0, 22), 2, [], (0, 0))
def rX6_doorsOf : List zm_R := [(0, .iconst 0, 0, [], 0, 0, (0, 0), false, []),
  (1, .istore_n 3, 0, [], 0, 0, (0, 0), false, []),
  (2, .iconst 0, 0, [], 0, 0, (0, 0), false, []),
  (3, .istore 4, 0, [], 0, 0, (0, 0), false, []),
  (5, .iload 4, 0, [], 0, 0, (0, 0), true, [5, 6]),
  (7, .aload_n 0, 0, [], 0, 0, (0, 0), false, []),
  (8, .invokevirtual 77, 6, [0, 0, 1, 1, 0, 6], 0, 0, (0, 0), false, []),
  (11, .if_icmp .ge 92, 1, [55], 0, 0, (0, 0), false, []),
  (14, .aload_n 0, 0, [], 0, 0, (0, 0), false, []),
  (15, .iload 4, 0, [], 0, 0, (0, 0), false, []),
  (17, .iload_n 2, 0, [], 0, 0, (0, 0), false, []),
  (18, .ifCond .eq 7, 1, [14], 0, 0, (0, 0), false, []),
  (21, .iconst 1, 0, [], 1, 0, (0, 0), false, []),
  (22, .goto 4, 1, [15], 0, 0, (0, 0), false, []),
  (25, .iconst 0, 0, [], 0, 0, (0, 0), false, []),
  (26, .invokevirtual 94, 6, [0, 1, 3, 1, 0, 6], 0, 0, (0, 0), true, [5, 6]),
  (29, .iload_n 1, 0, [], 0, 0, (0, 0), false, []),
  (30, .if_icmp .ne 7, 1, [20], 0, 0, (0, 0), false, []),
  (33, .iconst 1, 0, [], 1, 0, (0, 0), false, []),
  (34, .goto 4, 1, [21], 0, 0, (0, 0), false, []),
  (37, .iconst 0, 0, [], 0, 0, (0, 0), false, []),
  (38, .istore 5, 0, [], 0, 0, (0, 0), true, [5, 6]),
  (40, .aload_n 0, 0, [], 0, 0, (0, 0), false, []),
  (41, .iload 4, 0, [], 0, 0, (0, 0), false, []),
  (43, .iload_n 2, 0, [], 0, 0, (0, 0), false, []),
  (44, .ifCond .eq 7, 1, [28], 0, 0, (0, 0), false, []),
  (47, .iconst 0, 0, [], 0, 0, (0, 0), false, []),
  (48, .goto 4, 1, [29], 0, 0, (0, 0), false, []),
  (51, .iconst 1, 0, [], 1, 0, (0, 0), false, []),
  (52, .invokevirtual 94, 6, [0, 1, 3, 1, 0, 6], 0, 0, (0, 0), false, []),
  (55, .iload_n 1, 0, [], 0, 0, (0, 0), false, []),
  (56, .if_icmp .ne 17, 1, [39], 0, 0, (0, 0), false, []),
  (59, .aload_n 0, 0, [], 0, 0, (0, 0), false, []),
  (60, .iload 4, 0, [], 0, 0, (0, 0), false, []),
  (62, .iconst 4, 0, [], 4, 0, (0, 0), false, []),
  (63, .invokevirtual 94, 6, [0, 1, 3, 1, 0, 6], 0, 0, (0, 0), false, []),
  (66, .ifCond .ne 7, 1, [39], 0, 0, (0, 0), false, []),
  (69, .iconst 1, 0, [], 1, 0, (0, 0), false, []),
  (70, .goto 4, 1, [40], 0, 0, (0, 0), false, []),
  (73, .iconst 0, 0, [], 0, 0, (0, 0), false, []),
  (74, .istore 6, 0, [], 0, 0, (0, 0), false, []),
  (76, .iload_n 3, 0, [], 0, 0, (0, 0), false, []),
  (77, .iload 5, 0, [], 0, 0, (0, 0), false, []),
  (79, .ifCond .ne 8, 1, [46], 0, 0, (0, 0), false, []),
  (82, .iload 6, 0, [], 0, 0, (0, 0), false, []),
  (84, .ifCond .eq 10, 1, [50], 0, 0, (0, 0), false, []),
  (87, .iconst 1, 0, [], 1, 0, (0, 0), false, []),
  (88, .iload 4, 0, [], 0, 0, (0, 0), false, []),
  (90, .ishl, 0, [], 0, 0, (0, 0), false, []),
  (91, .goto 4, 1, [51], 0, 0, (0, 0), false, []),
  (94, .iconst 0, 0, [], 0, 0, (0, 0), false, []),
  (95, .ior, 0, [], 0, 0, (0, 0), false, []),
  (96, .istore_n 3, 0, [], 0, 0, (0, 0), false, []),
  (97, .iinc 4 1, 0, [], 1, 0, (0, 0), false, []),
  (100, .goto (-95), 1, [4], 0, 0, (0, 0), false, []),
  (103, .iload_n 3, 0, [], 0, 0, (0, 0), false, []),
  (104, .ireturn, 5, [0], 0, 0, (0, 0), false, [])]
def eX6_doorsOf : List zm_M := [mX6_doors, mX6_ofDoor]
noncomputable def vX6_doorsOf : List (zm_M × zm_S) := [(mX6_doors, sX6_doors), (mX6_ofDoor, sX6_ofDoor)]
noncomputable def sX6_doorsOf : zm_S := zsem vX6_doorsOf rX6_doorsOf 7
set_option maxRecDepth 100000 in
theorem aX6_doorsOf : zall RX6 mX6_doorsOf eX6_doorsOf rX6_doorsOf = true := by decide +kernel
set_option maxRecDepth 100000 in
theorem wX6_doorsOf : ∀ w ∈ zwds RX6 mX6_doorsOf eX6_doorsOf rX6_doorsOf, w ∈ gT := zwd_of [1482, 1484, 58, 119, 1485, 1562, 1564, 72, 119, 1565, 1562, 1564, 72, 119, 1565, 1562, 1564, 72, 119, 1565] (by decide +kernel) (by decide +kernel) (z7_no (by decide +kernel))
set_option maxRecDepth 100000 in
theorem xX6_doorsOf : ∀ w ∈ zwxs RX6 mX6_doorsOf eX6_doorsOf rX6_doorsOf, zspc w = true ∧ w ∈ lw_tbl := by decide +kernel
theorem tX6_doorsOf {l : Launch} (hlt : l.stackTraces = false) : MetA l mX6_doorsOf sX6_doorsOf := zmet (M := mX6_doorsOf) (own := RX6) (envM := eX6_doorsOf) hlt rfl (by decide +kernel) (by decide +kernel) rfl (fun j q hq => by
  match j, hq with
  | 0, hq => cases hq; exact tX6_doors hlt
  | 1, hq => cases hq; exact tX6_ofDoor hlt
  | n + 2, hq => cases hq) aX6_doorsOf wX6_doorsOf xX6_doorsOf rfl
def mX6_room : zm_M := (yX6_room, cX6_room, 3, (some .int), (2, 0, 0, 48), 2, [], (0, 0))
def rX6_room : List zm_R := [(0, .aload_n 0, 0, [], 0, 0, (0, 0), false, []),
  (1, .aload_n 0, 0, [], 0, 0, (0, 0), false, []),
  (2, .iload_n 1, 0, [], 0, 0, (0, 0), false, []),
  (3, .invokevirtual 317, 6, [0, 0, 2, 1, 0, 6], 0, 0, (0, 0), false, []),
  (6, .iload_n 2, 0, [], 0, 0, (0, 0), false, []),
  (7, .i2l, 0, [], 0, 0, (0, 0), false, []),
  (8, .lconst 0, 0, [], 0, 0, (0, 0), false, []),
  (9, .ldc2_w 321, 9, [1], 0, 4, (0, 0), false, []),
  (12, .invokestatic 73, 6, [1, 1, 3, 1, 0, 6], 0, 0, (0, 0), false, []),
  (15, .invokevirtual 323, 6, [0, 2, 3, 1, 0, 6], 0, 0, (0, 0), false, []),
  (18, .ifCond .ne 5, 1, [13], 0, 0, (0, 0), false, []),
  (21, .iconst 0, 0, [], 0, 0, (0, 0), false, []),
  (22, .ireturn, 5, [0], 0, 0, (0, 0), false, []),
  (23, .iload_n 2, 0, [], 0, 0, (0, 0), false, []),
  (24, .tableswitch 48 2 4 #[28, 35, 42], 1, [29, 15, 20, 25], 0, 0, (0, 0), true, []),
  (52, .aload_n 0, 0, [], 0, 0, (0, 0), true, [2]),
  (53, .iload_n 1, 0, [], 0, 0, (0, 0), false, []),
  (54, .iconst 0, 0, [], 0, 0, (0, 0), false, []),
  (55, .invokevirtual 327, 6, [0, 5, 3, 1, 0, 6], 0, 0, (0, 0), false, []),
  (58, .ireturn, 5, [0], 0, 0, (0, 0), false, []),
  (59, .aload_n 0, 0, [], 0, 0, (0, 0), true, [2]),
  (60, .iload_n 1, 0, [], 0, 0, (0, 0), false, []),
  (61, .iconst 1, 0, [], 1, 0, (0, 0), false, []),
  (62, .invokevirtual 327, 6, [0, 5, 3, 1, 0, 6], 0, 0, (0, 0), false, []),
  (65, .ireturn, 5, [0], 0, 0, (0, 0), false, []),
  (66, .aload_n 0, 0, [], 0, 0, (0, 0), true, [2]),
  (67, .iload_n 1, 0, [], 0, 0, (0, 0), false, []),
  (68, .invokevirtual 331, 6, [0, 4, 2, 1, 0, 6], 0, 0, (0, 0), false, []),
  (71, .ireturn, 5, [0], 0, 0, (0, 0), false, []),
  (72, .aload_n 0, 0, [], 0, 0, (0, 0), true, []),
  (73, .iload_n 1, 0, [], 0, 0, (0, 0), false, []),
  (74, .iload_n 2, 0, [], 0, 0, (0, 0), false, []),
  (75, .invokevirtual 90, 6, [0, 3, 3, 1, 0, 6], 0, 0, (0, 0), false, []),
  (78, .ireturn, 5, [0], 0, 0, (0, 0), false, [])]
def eX6_room : List zm_M := [mX6_isRoom, mX6_in, mX6_passes2, mX6_ofRoom, mX6_placeOf, mX6_doorsOf]
noncomputable def vX6_room : List (zm_M × zm_S) := [(mX6_isRoom, sX6_isRoom), (mX6_in, sX6_in), (mX6_passes2, sX6_passes2), (mX6_ofRoom, sX6_ofRoom), (mX6_placeOf, sX6_placeOf), (mX6_doorsOf, sX6_doorsOf)]
noncomputable def sX6_room : zm_S := zsem vX6_room rX6_room 3
set_option maxRecDepth 100000 in
theorem aX6_room : zall RX6 mX6_room eX6_room rX6_room = true := by decide +kernel
set_option maxRecDepth 100000 in
theorem wX6_room : ∀ w ∈ zwds RX6 mX6_room eX6_room rX6_room, w ∈ gT := zwd_of [1549, 1551, 69, 119, 1552, 1553, 1328, 1329, 119, 1330, 1554, 1556, 70, 119, 1557, 1558, 1560, 71, 119, 1561, 1558, 1560, 71, 119, 1561, 1566, 1568, 73, 119, 1569, 1451, 1453, 51, 119, 1454] (by decide +kernel) (by decide +kernel) (z7_no (by decide +kernel))
set_option maxRecDepth 100000 in
theorem xX6_room : ∀ w ∈ zwxs RX6 mX6_room eX6_room rX6_room, zspc w = true ∧ w ∈ lw_tbl := by decide +kernel
theorem tX6_room {l : Launch} (hlt : l.stackTraces = false) : MetA l mX6_room sX6_room := zmet (M := mX6_room) (own := RX6) (envM := eX6_room) hlt rfl (by decide +kernel) (by decide +kernel) rfl (fun j q hq => by
  match j, hq with
  | 0, hq => cases hq; exact tX6_isRoom hlt
  | 1, hq => cases hq; exact tX6_in hlt
  | 2, hq => cases hq; exact tX6_passes2 hlt
  | 3, hq => cases hq; exact tX6_ofRoom hlt
  | 4, hq => cases hq; exact tX6_placeOf hlt
  | 5, hq => cases hq; exact tX6_doorsOf hlt
  | n + 6, hq => cases hq) aX6_room wX6_room xX6_room rfl
def mX6_isOpenNow : zm_M := (yX6_isOpenNow, cX6_isOpenNow, 2, (some .boolean), (2, 0, 0, 46), 1, [], (0, 0))
def rX6_isOpenNow : List zm_R := [(0, .aload_n 0, 0, [], 0, 0, (0, 0), false, []),
  (1, .iload_n 1, 0, [], 0, 0, (0, 0), false, []),
  (2, .aload_n 0, 0, [], 0, 0, (0, 0), false, []),
  (3, .aload_n 0, 0, [], 0, 0, (0, 0), false, []),
  (4, .invokevirtual 314, 6, [0, 0, 1, 1, 0, 6], 0, 0, (0, 0), false, []),
  (7, .invokevirtual 97, 6, [0, 1, 2, 1, 0, 6], 0, 0, (0, 0), false, []),
  (10, .aload_n 0, 0, [], 0, 0, (0, 0), false, []),
  (11, .aload_n 0, 0, [], 0, 0, (0, 0), false, []),
  (12, .invokevirtual 314, 6, [0, 0, 1, 1, 0, 6], 0, 0, (0, 0), false, []),
  (15, .invokevirtual 100, 6, [0, 2, 2, 1, 0, 6], 0, 0, (0, 0), false, []),
  (18, .invokevirtual 106, 6, [0, 3, 4, 1, 0, 6], 0, 0, (0, 0), false, []),
  (21, .ireturn, 5, [1], 0, 0, (0, 0), false, [])]
def eX6_isOpenNow : List zm_M := [mX6_walkSet, mX6_keysIn, mX6_coinsIn, mX6_isOpen]
noncomputable def vX6_isOpenNow : List (zm_M × zm_S) := [(mX6_walkSet, sX6_walkSet), (mX6_keysIn, sX6_keysIn), (mX6_coinsIn, sX6_coinsIn), (mX6_isOpen, sX6_isOpen)]
noncomputable def sX6_isOpenNow : zm_S := zsem vX6_isOpenNow rX6_isOpenNow 2
set_option maxRecDepth 100000 in
theorem aX6_isOpenNow : zall RX6 mX6_isOpenNow eX6_isOpenNow rX6_isOpenNow = true := by decide +kernel
set_option maxRecDepth 100000 in
theorem wX6_isOpenNow : ∀ w ∈ zwds RX6 mX6_isOpenNow eX6_isOpenNow rX6_isOpenNow, w ∈ gT := zwd_of [1533, 1535, 66, 119, 1536, 1537, 1539, 67, 119, 1540, 1533, 1535, 66, 119, 1536, 1541, 1543, 68, 119, 1544, 1583, 1585, 76, 119, 1586] (by decide +kernel) (by decide +kernel) (z7_no (by decide +kernel))
set_option maxRecDepth 100000 in
theorem xX6_isOpenNow : ∀ w ∈ zwxs RX6 mX6_isOpenNow eX6_isOpenNow rX6_isOpenNow, zspc w = true ∧ w ∈ lw_tbl := by decide +kernel
theorem tX6_isOpenNow {l : Launch} (hlt : l.stackTraces = false) : MetA l mX6_isOpenNow sX6_isOpenNow := zmet (M := mX6_isOpenNow) (own := RX6) (envM := eX6_isOpenNow) hlt rfl (by decide +kernel) (by decide +kernel) rfl (fun j q hq => by
  match j, hq with
  | 0, hq => cases hq; exact tX6_walkSet hlt
  | 1, hq => cases hq; exact tX6_keysIn hlt
  | 2, hq => cases hq; exact tX6_coinsIn hlt
  | 3, hq => cases hq; exact tX6_isOpen hlt
  | n + 4, hq => cases hq) aX6_isOpenNow wX6_isOpenNow xX6_isOpenNow rfl
def mX6_door : zm_M := (yX6_door, cX6_door, 3, (some .int), (3, 0, 0, 67), 2, [], (0, 0))
def rX6_door : List zm_R := [(0, .aload_n 0, 0, [], 0, 0, (0, 0), false, []),
  (1, .aload_n 0, 0, [], 0, 0, (0, 0), false, []),
  (2, .iload_n 1, 0, [], 0, 0, (0, 0), false, []),
  (3, .invokevirtual 334, 6, [0, 0, 2, 1, 0, 6], 0, 0, (0, 0), false, []),
  (6, .iload_n 2, 0, [], 0, 0, (0, 0), false, []),
  (7, .i2l, 0, [], 0, 0, (0, 0), false, []),
  (8, .lconst 0, 0, [], 0, 0, (0, 0), false, []),
  (9, .ldc2_w 337, 9, [1], 0, 5, (0, 0), false, []),
  (12, .invokestatic 73, 6, [1, 1, 3, 1, 0, 6], 0, 0, (0, 0), false, []),
  (15, .invokevirtual 323, 6, [0, 2, 3, 1, 0, 6], 0, 0, (0, 0), false, []),
  (18, .ifCond .ne 5, 1, [13], 0, 0, (0, 0), false, []),
  (21, .iconst 0, 0, [], 0, 0, (0, 0), false, []),
  (22, .ireturn, 5, [0], 0, 0, (0, 0), false, []),
  (23, .iload_n 2, 0, [], 0, 0, (0, 0), false, []),
  (24, .iconst 5, 0, [], 5, 0, (0, 0), false, []),
  (25, .if_icmp .ne 19, 1, [24], 0, 0, (0, 0), false, []),
  (28, .aload_n 0, 0, [], 0, 0, (0, 0), false, []),
  (29, .iload_n 1, 0, [], 0, 0, (0, 0), false, []),
  (30, .invokevirtual 339, 6, [0, 4, 2, 1, 0, 6], 0, 0, (0, 0), false, []),
  (33, .ifCond .eq 7, 1, [22], 0, 0, (0, 0), false, []),
  (36, .iconst 1, 0, [], 1, 0, (0, 0), false, []),
  (37, .goto 13, 1, [28], 0, 0, (0, 0), false, []),
  (40, .iconst 0, 0, [], 0, 0, (0, 0), false, []),
  (41, .goto 9, 1, [28], 0, 0, (0, 0), false, []),
  (44, .aload_n 0, 0, [], 0, 0, (0, 0), false, []),
  (45, .iload_n 1, 0, [], 0, 0, (0, 0), false, []),
  (46, .iload_n 2, 0, [], 0, 0, (0, 0), false, []),
  (47, .invokevirtual 94, 6, [0, 3, 3, 1, 0, 6], 0, 0, (0, 0), false, []),
  (50, .ireturn, 5, [0], 0, 0, (0, 0), false, [])]
def eX6_door : List zm_M := [mX6_isDoor, mX6_in, mX6_passes2, mX6_ofDoor, mX6_isOpenNow]
noncomputable def vX6_door : List (zm_M × zm_S) := [(mX6_isDoor, sX6_isDoor), (mX6_in, sX6_in), (mX6_passes2, sX6_passes2), (mX6_ofDoor, sX6_ofDoor), (mX6_isOpenNow, sX6_isOpenNow)]
noncomputable def sX6_door : zm_S := zsem vX6_door rX6_door 3
set_option maxRecDepth 100000 in
theorem aX6_door : zall RX6 mX6_door eX6_door rX6_door = true := by decide +kernel
set_option maxRecDepth 100000 in
theorem wX6_door : ∀ w ∈ zwds RX6 mX6_door eX6_door rX6_door, w ∈ gT := zwd_of [1574, 1576, 74, 119, 1577, 1578, 1328, 1329, 119, 1330, 1554, 1556, 70, 119, 1557, 1579, 1581, 75, 119, 1582, 1562, 1564, 72, 119, 1565] (by decide +kernel) (by decide +kernel) (z7_no (by decide +kernel))
set_option maxRecDepth 100000 in
theorem xX6_door : ∀ w ∈ zwxs RX6 mX6_door eX6_door rX6_door, zspc w = true ∧ w ∈ lw_tbl := by decide +kernel
theorem tX6_door {l : Launch} (hlt : l.stackTraces = false) : MetA l mX6_door sX6_door := zmet (M := mX6_door) (own := RX6) (envM := eX6_door) hlt rfl (by decide +kernel) (by decide +kernel) rfl (fun j q hq => by
  match j, hq with
  | 0, hq => cases hq; exact tX6_isDoor hlt
  | 1, hq => cases hq; exact tX6_in hlt
  | 2, hq => cases hq; exact tX6_passes2 hlt
  | 3, hq => cases hq; exact tX6_ofDoor hlt
  | 4, hq => cases hq; exact tX6_isOpenNow hlt
  | n + 5, hq => cases hq) aX6_door wX6_door xX6_door rfl
def mX6_walked : zm_M := (yX6_walked, cX6_walked, 2, (some .int), (2, 0, 0, 44), 1, [], (0, 0))
def rX6_walked : List zm_R := [(0, .aload_n 0, 0, [], 0, 0, (0, 0), false, []),
  (1, .iload_n 1, 0, [], 0, 0, (0, 0), false, []),
  (2, .i2l, 0, [], 0, 0, (0, 0), false, []),
  (3, .lconst 0, 0, [], 0, 0, (0, 0), false, []),
  (4, .aload_n 0, 0, [], 0, 0, (0, 0), false, []),
  (5, .getfield 17, 2, [6, 1, 27, 2], 0, 0, (0, 0), false, []),
  (8, .iconst 4, 0, [], 4, 0, (0, 0), false, []),
  (9, .iaload, 3, [0], 0, 0, (0, 0), false, []),
  (10, .iconst 1, 0, [], 1, 0, (0, 0), false, []),
  (11, .isub, 0, [], 0, 0, (0, 0), false, []),
  (12, .i2l, 0, [], 0, 0, (0, 0), false, []),
  (13, .invokestatic 73, 6, [1, 0, 3, 1, 0, 6], 0, 0, (0, 0), false, []),
  (16, .invokevirtual 163, 6, [0, 1, 2, 1, 0, 6], 0, 0, (0, 0), false, []),
  (19, .ifCond .eq 11, 1, [18], 0, 0, (0, 0), false, []),
  (22, .aload_n 0, 0, [], 0, 0, (0, 0), false, []),
  (23, .iload_n 1, 0, [], 0, 0, (0, 0), false, []),
  (24, .invokevirtual 82, 6, [0, 2, 2, 1, 0, 6], 0, 0, (0, 0), false, []),
  (27, .goto 4, 1, [19], 0, 0, (0, 0), false, []),
  (30, .iconst 0, 0, [], 0, 0, (0, 0), false, []),
  (31, .ireturn, 5, [0], 0, 0, (0, 0), false, [])]
def eX6_walked : List zm_M := [mX6_in, mX6_passes, mX6_walkedAt]
noncomputable def vX6_walked : List (zm_M × zm_S) := [(mX6_in, sX6_in), (mX6_passes, sX6_passes), (mX6_walkedAt, sX6_walkedAt)]
noncomputable def sX6_walked : zm_S := zsem vX6_walked rX6_walked 2
set_option maxRecDepth 100000 in
theorem aX6_walked : zall RX6 mX6_walked eX6_walked rX6_walked = true := by decide +kernel
set_option maxRecDepth 100000 in
theorem wX6_walked : ∀ w ∈ zwds RX6 mX6_walked eX6_walked rX6_walked, w ∈ gT := zwd_of [1227, 1328, 1329, 119, 1330, 1312, 1314, 35, 119, 1315, 1529, 1531, 65, 119, 1532] (by decide +kernel) (by decide +kernel) (z7_no (by decide +kernel))
set_option maxRecDepth 100000 in
theorem xX6_walked : ∀ w ∈ zwxs RX6 mX6_walked eX6_walked rX6_walked, zspc w = true ∧ w ∈ lw_tbl := by decide +kernel
theorem tX6_walked {l : Launch} (hlt : l.stackTraces = false) : MetA l mX6_walked sX6_walked := zmet (M := mX6_walked) (own := RX6) (envM := eX6_walked) hlt rfl (by decide +kernel) (by decide +kernel) rfl (fun j q hq => by
  match j, hq with
  | 0, hq => cases hq; exact tX6_in hlt
  | 1, hq => cases hq; exact tX6_passes hlt
  | 2, hq => cases hq; exact tX6_walkedAt hlt
  | n + 3, hq => cases hq) aX6_walked wX6_walked xX6_walked rfl
def mX6_foundAt : zm_M := (yX6_foundAt, cX6_foundAt, 3, (some .int), (2, 0, 0, 45), 1, [], (0, 0))
def rX6_foundAt : List zm_R := [(0, .aload_n 0, 0, [], 0, 0, (0, 0), false, []),
  (1, .iload_n 1, 0, [], 0, 0, (0, 0), false, []),
  (2, .invokestatic 342, 6, [1, 0, 1, 1, 0, 6], 0, 0, (0, 0), false, []),
  (5, .invokevirtual 163, 6, [0, 1, 2, 1, 0, 6], 0, 0, (0, 0), false, []),
  (8, .ifCond .ne 5, 1, [7], 0, 0, (0, 0), false, []),
  (11, .iconst 0, 0, [], 0, 0, (0, 0), false, []),
  (12, .ireturn, 5, [0], 0, 0, (0, 0), false, []),
  (13, .iconst 0, 0, [], 0, 0, (0, 0), false, []),
  (14, .istore_n 2, 0, [], 0, 0, (0, 0), false, []),
  (15, .iload_n 2, 0, [], 0, 0, (0, 0), true, []),
  (16, .aload_n 0, 0, [], 0, 0, (0, 0), false, []),
  (17, .getfield 17, 2, [6, 1, 27, 2], 0, 0, (0, 0), false, []),
  (20, .iconst 4, 0, [], 4, 0, (0, 0), false, []),
  (21, .iaload, 3, [0], 0, 0, (0, 0), false, []),
  (22, .if_icmp .ge 28, 1, [28], 0, 0, (0, 0), false, []),
  (25, .aload_n 0, 0, [], 0, 0, (0, 0), false, []),
  (26, .aload_n 0, 0, [], 0, 0, (0, 0), false, []),
  (27, .iload_n 2, 0, [], 0, 0, (0, 0), false, []),
  (28, .invokevirtual 82, 6, [0, 2, 2, 1, 0, 6], 0, 0, (0, 0), false, []),
  (31, .iconst 0, 0, [], 0, 0, (0, 0), false, []),
  (32, .invokevirtual 90, 6, [0, 3, 3, 1, 0, 6], 0, 0, (0, 0), false, []),
  (35, .iload_n 1, 0, [], 0, 0, (0, 0), false, []),
  (36, .invokestatic 86, 6, [1, 4, 2, 1, 0, 6], 0, 0, (0, 0), false, []),
  (39, .ifCond .eq 5, 1, [26], 0, 0, (0, 0), false, []),
  (42, .iload_n 2, 0, [], 0, 0, (0, 0), false, []),
  (43, .ireturn, 5, [0], 0, 0, (0, 0), false, []),
  (44, .iinc 2 1, 0, [], 1, 0, (0, 0), false, []),
  (47, .goto (-32), 1, [9], 0, 0, (0, 0), false, []),
  (50, .iconst (-1), 0, [], (-1), 0, (0, 0), false, []),
  (51, .ireturn, 5, [0], 0, 0, (0, 0), false, [])]
def eX6_foundAt : List zm_M := [mX6_isKey, mX6_passes, mX6_walkedAt, mX6_ofRoom, mX6_has]
noncomputable def vX6_foundAt : List (zm_M × zm_S) := [(mX6_isKey, sX6_isKey), (mX6_passes, sX6_passes), (mX6_walkedAt, sX6_walkedAt), (mX6_ofRoom, sX6_ofRoom), (mX6_has, sX6_has)]
noncomputable def sX6_foundAt : zm_S := zsem vX6_foundAt rX6_foundAt 3
set_option maxRecDepth 100000 in
theorem aX6_foundAt : zall RX6 mX6_foundAt eX6_foundAt rX6_foundAt = true := by decide +kernel
set_option maxRecDepth 100000 in
theorem wX6_foundAt : ∀ w ∈ zwds RX6 mX6_foundAt eX6_foundAt rX6_foundAt, w ∈ gT := zwd_of [1595, 1596, 119, 1597, 1312, 1314, 35, 119, 1315, 1227, 1529, 1531, 65, 119, 1532, 1451, 1453, 51, 119, 1454, 1463, 1464, 119, 1465] (by decide +kernel) (by decide +kernel) (z7_no (by decide +kernel))
set_option maxRecDepth 100000 in
theorem xX6_foundAt : ∀ w ∈ zwxs RX6 mX6_foundAt eX6_foundAt rX6_foundAt, zspc w = true ∧ w ∈ lw_tbl := by decide +kernel
theorem tX6_foundAt {l : Launch} (hlt : l.stackTraces = false) : MetA l mX6_foundAt sX6_foundAt := zmet (M := mX6_foundAt) (own := RX6) (envM := eX6_foundAt) hlt rfl (by decide +kernel) (by decide +kernel) rfl (fun j q hq => by
  match j, hq with
  | 0, hq => cases hq; exact tX6_isKey hlt
  | 1, hq => cases hq; exact tX6_passes hlt
  | 2, hq => cases hq; exact tX6_walkedAt hlt
  | 3, hq => cases hq; exact tX6_ofRoom hlt
  | 4, hq => cases hq; exact tX6_has hlt
  | n + 5, hq => cases hq) aX6_foundAt wX6_foundAt xX6_foundAt rfl
def mX6_whyNot : zm_M := (yX6_whyNot, cX6_whyNot, 4, (some .int), (3, 0, 0, 67), 1, [], (0, 0))
def rX6_whyNot : List zm_R := [(0, .aload_n 0, 0, [], 0, 0, (0, 0), false, []),
  (1, .invokevirtual 314, 6, [0, 0, 1, 1, 0, 6], 0, 0, (0, 0), false, []),
  (4, .iload_n 1, 0, [], 0, 0, (0, 0), false, []),
  (5, .invokestatic 86, 6, [1, 1, 2, 1, 0, 6], 0, 0, (0, 0), false, []),
  (8, .ifCond .eq 5, 1, [7], 0, 0, (0, 0), false, []),
  (11, .iconst 1, 0, [], 1, 0, (0, 0), false, []),
  (12, .ireturn, 5, [0], 0, 0, (0, 0), false, []),
  (13, .iconst 2, 0, [], 2, 0, (0, 0), false, []),
  (14, .istore_n 2, 0, [], 0, 0, (0, 0), false, []),
  (15, .iconst 0, 0, [], 0, 0, (0, 0), false, []),
  (16, .istore_n 3, 0, [], 0, 0, (0, 0), false, []),
  (17, .iload_n 3, 0, [], 0, 0, (0, 0), true, []),
  (18, .aload_n 0, 0, [], 0, 0, (0, 0), false, []),
  (19, .invokevirtual 77, 6, [0, 2, 1, 1, 0, 6], 0, 0, (0, 0), false, []),
  (22, .if_icmp .ge 56, 1, [44], 0, 0, (0, 0), false, []),
  (25, .aload_n 0, 0, [], 0, 0, (0, 0), false, []),
  (26, .iload_n 3, 0, [], 0, 0, (0, 0), false, []),
  (27, .aload_n 0, 0, [], 0, 0, (0, 0), false, []),
  (28, .invokevirtual 311, 6, [0, 3, 1, 1, 0, 6], 0, 0, (0, 0), false, []),
  (31, .invokevirtual 103, 6, [0, 4, 3, 1, 0, 6], 0, 0, (0, 0), false, []),
  (34, .iload_n 1, 0, [], 0, 0, (0, 0), false, []),
  (35, .if_icmp .eq 6, 1, [23], 0, 0, (0, 0), false, []),
  (38, .goto 34, 1, [42], 0, 0, (0, 0), false, []),
  (41, .aload_n 0, 0, [], 0, 0, (0, 0), false, []),
  (42, .iload_n 3, 0, [], 0, 0, (0, 0), false, []),
  (43, .invokevirtual 339, 6, [0, 5, 2, 1, 0, 6], 0, 0, (0, 0), false, []),
  (46, .ifCond .eq 5, 1, [29], 0, 0, (0, 0), false, []),
  (49, .iconst 0, 0, [], 0, 0, (0, 0), false, []),
  (50, .ireturn, 5, [0], 0, 0, (0, 0), false, []),
  (51, .aload_n 0, 0, [], 0, 0, (0, 0), false, []),
  (52, .iload_n 3, 0, [], 0, 0, (0, 0), false, []),
  (53, .iconst 2, 0, [], 2, 0, (0, 0), false, []),
  (54, .invokevirtual 94, 6, [0, 6, 3, 1, 0, 6], 0, 0, (0, 0), false, []),
  (57, .iconst 2, 0, [], 2, 0, (0, 0), false, []),
  (58, .if_icmp .eq 8, 1, [38], 0, 0, (0, 0), false, []),
  (61, .iload_n 2, 0, [], 0, 0, (0, 0), false, []),
  (62, .iconst 4, 0, [], 4, 0, (0, 0), false, []),
  (63, .if_icmp .ne 7, 1, [40], 0, 0, (0, 0), false, []),
  (66, .iconst 4, 0, [], 4, 0, (0, 0), false, []),
  (67, .goto 4, 1, [41], 0, 0, (0, 0), false, []),
  (70, .iconst 3, 0, [], 3, 0, (0, 0), false, []),
  (71, .istore_n 2, 0, [], 0, 0, (0, 0), false, []),
  (72, .iinc 3 1, 0, [], 1, 0, (0, 0), false, []),
  (75, .goto (-58), 1, [11], 0, 0, (0, 0), false, []),
  (78, .iload_n 2, 0, [], 0, 0, (0, 0), false, []),
  (79, .ireturn, 5, [0], 0, 0, (0, 0), false, [])]
def eX6_whyNot : List zm_M := [mX6_walkSet, mX6_has, mX6_doors, mX6_lastRoom, mX6_through, mX6_isOpenNow, mX6_ofDoor]
noncomputable def vX6_whyNot : List (zm_M × zm_S) := [(mX6_walkSet, sX6_walkSet), (mX6_has, sX6_has), (mX6_doors, sX6_doors), (mX6_lastRoom, sX6_lastRoom), (mX6_through, sX6_through), (mX6_isOpenNow, sX6_isOpenNow), (mX6_ofDoor, sX6_ofDoor)]
noncomputable def sX6_whyNot : zm_S := zsem vX6_whyNot rX6_whyNot 4
set_option maxRecDepth 100000 in
theorem aX6_whyNot : zall RX6 mX6_whyNot eX6_whyNot rX6_whyNot = true := by decide +kernel
set_option maxRecDepth 100000 in
theorem wX6_whyNot : ∀ w ∈ zwds RX6 mX6_whyNot eX6_whyNot rX6_whyNot, w ∈ gT := zwd_of [1533, 1535, 66, 119, 1536, 1463, 1464, 119, 1465, 1482, 1484, 58, 119, 1485, 1525, 1527, 64, 119, 1528, 1607, 1609, 78, 119, 1610, 1579, 1581, 75, 119, 1582, 1562, 1564, 72, 119, 1565] (by decide +kernel) (by decide +kernel) (z7_no (by decide +kernel))
set_option maxRecDepth 100000 in
theorem xX6_whyNot : ∀ w ∈ zwxs RX6 mX6_whyNot eX6_whyNot rX6_whyNot, zspc w = true ∧ w ∈ lw_tbl := by decide +kernel
theorem tX6_whyNot {l : Launch} (hlt : l.stackTraces = false) : MetA l mX6_whyNot sX6_whyNot := zmet (M := mX6_whyNot) (own := RX6) (envM := eX6_whyNot) hlt rfl (by decide +kernel) (by decide +kernel) rfl (fun j q hq => by
  match j, hq with
  | 0, hq => cases hq; exact tX6_walkSet hlt
  | 1, hq => cases hq; exact tX6_has hlt
  | 2, hq => cases hq; exact tX6_doors hlt
  | 3, hq => cases hq; exact tX6_lastRoom hlt
  | 4, hq => cases hq; exact tX6_through hlt
  | 5, hq => cases hq; exact tX6_isOpenNow hlt
  | 6, hq => cases hq; exact tX6_ofDoor hlt
  | n + 7, hq => cases hq) aX6_whyNot wX6_whyNot xX6_whyNot rfl
def mX6_why : zm_M := (yX6_why, cX6_why, 2, (some .int), (4, 0, 0, 90), 1, [], (0, 0))
def rX6_why : List zm_R := [(0, .aload_n 0, 0, [], 0, 0, (0, 0), false, []),
  (1, .aload_n 0, 0, [], 0, 0, (0, 0), false, []),
  (2, .iload_n 1, 0, [], 0, 0, (0, 0), false, []),
  (3, .invokevirtual 317, 6, [0, 0, 2, 1, 0, 6], 0, 0, (0, 0), false, []),
  (6, .invokevirtual 163, 6, [0, 1, 2, 1, 0, 6], 0, 0, (0, 0), false, []),
  (9, .ifCond .eq 11, 1, [10], 0, 0, (0, 0), false, []),
  (12, .aload_n 0, 0, [], 0, 0, (0, 0), false, []),
  (13, .iload_n 1, 0, [], 0, 0, (0, 0), false, []),
  (14, .invokevirtual 345, 6, [0, 2, 2, 1, 0, 6], 0, 0, (0, 0), false, []),
  (17, .goto 4, 1, [11], 0, 0, (0, 0), false, []),
  (20, .iconst 0, 0, [], 0, 0, (0, 0), false, []),
  (21, .ireturn, 5, [0], 0, 0, (0, 0), false, [])]
def eX6_why : List zm_M := [mX6_isRoom, mX6_passes, mX6_whyNot]
noncomputable def vX6_why : List (zm_M × zm_S) := [(mX6_isRoom, sX6_isRoom), (mX6_passes, sX6_passes), (mX6_whyNot, sX6_whyNot)]
noncomputable def sX6_why : zm_S := zsem vX6_why rX6_why 2
set_option maxRecDepth 100000 in
theorem aX6_why : zall RX6 mX6_why eX6_why rX6_why = true := by decide +kernel
set_option maxRecDepth 100000 in
theorem wX6_why : ∀ w ∈ zwds RX6 mX6_why eX6_why rX6_why, w ∈ gT := zwd_of [1549, 1551, 69, 119, 1552, 1312, 1314, 35, 119, 1315, 1603, 1605, 77, 119, 1606] (by decide +kernel) (by decide +kernel) (z7_no (by decide +kernel))
set_option maxRecDepth 100000 in
theorem xX6_why : ∀ w ∈ zwxs RX6 mX6_why eX6_why rX6_why, zspc w = true ∧ w ∈ lw_tbl := by decide +kernel
theorem tX6_why {l : Launch} (hlt : l.stackTraces = false) : MetA l mX6_why sX6_why := zmet (M := mX6_why) (own := RX6) (envM := eX6_why) hlt rfl (by decide +kernel) (by decide +kernel) rfl (fun j q hq => by
  match j, hq with
  | 0, hq => cases hq; exact tX6_isRoom hlt
  | 1, hq => cases hq; exact tX6_passes hlt
  | 2, hq => cases hq; exact tX6_whyNot hlt
  | n + 3, hq => cases hq) aX6_why wX6_why xX6_why rfl
def mX6_exitSet : zm_M := (yX6_exitSet, cX6_exitSet, 3, (some .int), (4, 0, 0, 90), 0, [], (0, 0))
def rX6_exitSet : List zm_R := [(0, .iconst 0, 0, [], 0, 0, (0, 0), false, []),
  (1, .istore_n 1, 0, [], 0, 0, (0, 0), false, []),
  (2, .iconst 0, 0, [], 0, 0, (0, 0), false, []),
  (3, .istore_n 2, 0, [], 0, 0, (0, 0), false, []),
  (4, .iload_n 2, 0, [], 0, 0, (0, 0), true, []),
  (5, .aload_n 0, 0, [], 0, 0, (0, 0), false, []),
  (6, .invokevirtual 69, 6, [0, 0, 1, 1, 0, 6], 0, 0, (0, 0), false, []),
  (9, .if_icmp .ge 27, 1, [22], 0, 0, (0, 0), false, []),
  (12, .iload_n 1, 0, [], 0, 0, (0, 0), false, []),
  (13, .aload_n 0, 0, [], 0, 0, (0, 0), false, []),
  (14, .iload_n 2, 0, [], 0, 0, (0, 0), false, []),
  (15, .invokevirtual 345, 6, [0, 1, 2, 1, 0, 6], 0, 0, (0, 0), false, []),
  (18, .ifCond .ne 9, 1, [17], 0, 0, (0, 0), false, []),
  (21, .iconst 1, 0, [], 1, 0, (0, 0), false, []),
  (22, .iload_n 2, 0, [], 0, 0, (0, 0), false, []),
  (23, .ishl, 0, [], 0, 0, (0, 0), false, []),
  (24, .goto 4, 1, [18], 0, 0, (0, 0), false, []),
  (27, .iconst 0, 0, [], 0, 0, (0, 0), false, []),
  (28, .ior, 0, [], 0, 0, (0, 0), false, []),
  (29, .istore_n 1, 0, [], 0, 0, (0, 0), false, []),
  (30, .iinc 2 1, 0, [], 1, 0, (0, 0), false, []),
  (33, .goto (-29), 1, [4], 0, 0, (0, 0), false, []),
  (36, .iload_n 1, 0, [], 0, 0, (0, 0), false, []),
  (37, .ireturn, 5, [0], 0, 0, (0, 0), false, [])]
def eX6_exitSet : List zm_M := [mX6_rooms, mX6_whyNot]
noncomputable def vX6_exitSet : List (zm_M × zm_S) := [(mX6_rooms, sX6_rooms), (mX6_whyNot, sX6_whyNot)]
noncomputable def sX6_exitSet : zm_S := zsem vX6_exitSet rX6_exitSet 3
set_option maxRecDepth 100000 in
theorem aX6_exitSet : zall RX6 mX6_exitSet eX6_exitSet rX6_exitSet = true := by decide +kernel
set_option maxRecDepth 100000 in
theorem wX6_exitSet : ∀ w ∈ zwds RX6 mX6_exitSet eX6_exitSet rX6_exitSet, w ∈ gT := zwd_of [1421, 1423, 46, 119, 1424, 1603, 1605, 77, 119, 1606] (by decide +kernel) (by decide +kernel) (z7_no (by decide +kernel))
set_option maxRecDepth 100000 in
theorem xX6_exitSet : ∀ w ∈ zwxs RX6 mX6_exitSet eX6_exitSet rX6_exitSet, zspc w = true ∧ w ∈ lw_tbl := by decide +kernel
theorem tX6_exitSet {l : Launch} (hlt : l.stackTraces = false) : MetA l mX6_exitSet sX6_exitSet := zmet (M := mX6_exitSet) (own := RX6) (envM := eX6_exitSet) hlt rfl (by decide +kernel) (by decide +kernel) rfl (fun j q hq => by
  match j, hq with
  | 0, hq => cases hq; exact tX6_rooms hlt
  | 1, hq => cases hq; exact tX6_whyNot hlt
  | n + 2, hq => cases hq) aX6_exitSet wX6_exitSet xX6_exitSet rfl
def mX6_exits : zm_M := (yX6_exits, cX6_exits, 1, (some .int), (5, 0, 0, 112), 0, [], (0, 0))
def rX6_exits : List zm_R := [(0, .aload_n 0, 0, [], 0, 0, (0, 0), false, []),
  (1, .iconst 0, 0, [], 0, 0, (0, 0), false, []),
  (2, .putfield 3, 2, [6, 0, 27, 0], 0, 0, (0, 0), false, []),
  (5, .aload_n 0, 0, [], 0, 0, (0, 0), false, []),
  (6, .invokevirtual 348, 6, [0, 0, 1, 1, 0, 6], 0, 0, (0, 0), false, []),
  (9, .ireturn, 5, [0], 0, 0, (0, 0), false, [])]
def eX6_exits : List zm_M := [mX6_exitSet]
noncomputable def vX6_exits : List (zm_M × zm_S) := [(mX6_exitSet, sX6_exitSet)]
noncomputable def sX6_exits : zm_S := zsem vX6_exits rX6_exits 1
set_option maxRecDepth 100000 in
theorem aX6_exits : zall RX6 mX6_exits eX6_exits rX6_exits = true := by decide +kernel
set_option maxRecDepth 100000 in
theorem wX6_exits : ∀ w ∈ zwds RX6 mX6_exits eX6_exits rX6_exits, w ∈ gT := zwd_of [1226, 1615, 1617, 79, 119, 1618] (by decide +kernel) (by decide +kernel) (z7_no (by decide +kernel))
set_option maxRecDepth 100000 in
theorem xX6_exits : ∀ w ∈ zwxs RX6 mX6_exits eX6_exits rX6_exits, zspc w = true ∧ w ∈ lw_tbl := by decide +kernel
theorem tX6_exits {l : Launch} (hlt : l.stackTraces = false) : MetA l mX6_exits sX6_exits := zmet (M := mX6_exits) (own := RX6) (envM := eX6_exits) hlt rfl (by decide +kernel) (by decide +kernel) rfl (fun j q hq => by
  match j, hq with
  | 0, hq => cases hq; exact tX6_exitSet hlt
  | n + 1, hq => cases hq) aX6_exits wX6_exits xX6_exits rfl
def mX6_tours : zm_M := (yX6_tours, cX6_tours, 1, (some .long), (5, 0, 0, 120), 0, [], (0, 0))
def rX6_tours : List zm_R := [(0, .aload_n 0, 0, [], 0, 0, (0, 0), false, []),
  (1, .iconst 0, 0, [], 0, 0, (0, 0), false, []),
  (2, .putfield 3, 2, [6, 0, 27, 0], 0, 0, (0, 0), false, []),
  (5, .aload_n 0, 0, [], 0, 0, (0, 0), false, []),
  (6, .invokevirtual 148, 6, [0, 0, 1, 2, 0, 6], 0, 0, (0, 0), false, []),
  (9, .lreturn, 5, [], 0, 0, (0, 0), false, [])]
def eX6_tours : List zm_M := [mX6_toursNow]
noncomputable def vX6_tours : List (zm_M × zm_S) := [(mX6_toursNow, sX6_toursNow)]
noncomputable def sX6_tours : zm_S := zsem vX6_tours rX6_tours 1
set_option maxRecDepth 100000 in
theorem aX6_tours : zall RX6 mX6_tours eX6_tours rX6_tours = true := by decide +kernel
set_option maxRecDepth 100000 in
theorem wX6_tours : ∀ w ∈ zwds RX6 mX6_tours eX6_tours rX6_tours, w ∈ gT := zwd_of [1226, 1623, 1625, 80, 119, 1626] (by decide +kernel) (by decide +kernel) (z7_no (by decide +kernel))
set_option maxRecDepth 100000 in
theorem xX6_tours : ∀ w ∈ zwxs RX6 mX6_tours eX6_tours rX6_tours, zspc w = true ∧ w ∈ lw_tbl := by decide +kernel
theorem tX6_tours {l : Launch} (hlt : l.stackTraces = false) : MetA l mX6_tours sX6_tours := zmet (M := mX6_tours) (own := RX6) (envM := eX6_tours) hlt rfl (by decide +kernel) (by decide +kernel) rfl (fun j q hq => by
  match j, hq with
  | 0, hq => cases hq; exact tX6_toursNow hlt
  | n + 1, hq => cases hq) aX6_tours wX6_tours xX6_tours rfl
def mX6_completionsNow : zm_M := (yX6_completionsNow, cX6_completionsNow, 3, (some .long), (5, 0, 0, 120), 0, [], (0, 0))
def rX6_completionsNow : List zm_R := [(0, .aload_n 0, 0, [], 0, 0, (0, 0), false, []),
  (1, .invokevirtual 148, 6, [0, 0, 1, 2, 0, 6], 0, 0, (0, 0), false, []),
  (4, .lstore_n 1, 0, [], 0, 0, (0, 0), false, []),
  (5, .aload_n 0, 0, [], 0, 0, (0, 0), false, []),
  (6, .aload_n 0, 0, [], 0, 0, (0, 0), false, []),
  (7, .invokevirtual 314, 6, [0, 1, 1, 1, 0, 6], 0, 0, (0, 0), false, []),
  (10, .aload_n 0, 0, [], 0, 0, (0, 0), false, []),
  (11, .invokevirtual 311, 6, [0, 2, 1, 1, 0, 6], 0, 0, (0, 0), false, []),
  (14, .invokevirtual 123, 6, [0, 3, 3, 2, 0, 6], 0, 0, (0, 0), false, []),
  (17, .lreturn, 5, [], 0, 0, (0, 0), false, [])]
def eX6_completionsNow : List zm_M := [mX6_toursNow, mX6_walkSet, mX6_lastRoom, mX6_waysOf]
noncomputable def vX6_completionsNow : List (zm_M × zm_S) := [(mX6_toursNow, sX6_toursNow), (mX6_walkSet, sX6_walkSet), (mX6_lastRoom, sX6_lastRoom), (mX6_waysOf, sX6_waysOf)]
noncomputable def sX6_completionsNow : zm_S := zsem vX6_completionsNow rX6_completionsNow 3
set_option maxRecDepth 100000 in
theorem aX6_completionsNow : zall RX6 mX6_completionsNow eX6_completionsNow rX6_completionsNow = true := by decide +kernel
set_option maxRecDepth 100000 in
theorem wX6_completionsNow : ∀ w ∈ zwds RX6 mX6_completionsNow eX6_completionsNow rX6_completionsNow, w ∈ gT := zwd_of [1623, 1625, 80, 119, 1626, 1533, 1535, 66, 119, 1536, 1525, 1527, 64, 119, 1528, 1651, 1653, 87, 119, 1654] (by decide +kernel) (by decide +kernel) (z7_no (by decide +kernel))
set_option maxRecDepth 100000 in
theorem xX6_completionsNow : ∀ w ∈ zwxs RX6 mX6_completionsNow eX6_completionsNow rX6_completionsNow, zspc w = true ∧ w ∈ lw_tbl := by decide +kernel
theorem tX6_completionsNow {l : Launch} (hlt : l.stackTraces = false) : MetA l mX6_completionsNow sX6_completionsNow := zmet (M := mX6_completionsNow) (own := RX6) (envM := eX6_completionsNow) hlt rfl (by decide +kernel) (by decide +kernel) rfl (fun j q hq => by
  match j, hq with
  | 0, hq => cases hq; exact tX6_toursNow hlt
  | 1, hq => cases hq; exact tX6_walkSet hlt
  | 2, hq => cases hq; exact tX6_lastRoom hlt
  | 3, hq => cases hq; exact tX6_waysOf hlt
  | n + 4, hq => cases hq) aX6_completionsNow wX6_completionsNow xX6_completionsNow rfl
def mX6_completions : zm_M := (yX6_completions, cX6_completions, 1, (some .long), (6, 0, 0, 142), 0, [], (0, 0))
def rX6_completions : List zm_R := [(0, .aload_n 0, 0, [], 0, 0, (0, 0), false, []),
  (1, .iconst 0, 0, [], 0, 0, (0, 0), false, []),
  (2, .putfield 3, 2, [6, 0, 27, 0], 0, 0, (0, 0), false, []),
  (5, .aload_n 0, 0, [], 0, 0, (0, 0), false, []),
  (6, .invokevirtual 351, 6, [0, 0, 1, 2, 0, 6], 0, 0, (0, 0), false, []),
  (9, .lreturn, 5, [], 0, 0, (0, 0), false, [])]
def eX6_completions : List zm_M := [mX6_completionsNow]
noncomputable def vX6_completions : List (zm_M × zm_S) := [(mX6_completionsNow, sX6_completionsNow)]
noncomputable def sX6_completions : zm_S := zsem vX6_completions rX6_completions 1
set_option maxRecDepth 100000 in
theorem aX6_completions : zall RX6 mX6_completions eX6_completions rX6_completions = true := by decide +kernel
set_option maxRecDepth 100000 in
theorem wX6_completions : ∀ w ∈ zwds RX6 mX6_completions eX6_completions rX6_completions, w ∈ gT := zwd_of [1226, 1659, 1661, 88, 119, 1662] (by decide +kernel) (by decide +kernel) (z7_no (by decide +kernel))
set_option maxRecDepth 100000 in
theorem xX6_completions : ∀ w ∈ zwxs RX6 mX6_completions eX6_completions rX6_completions, zspc w = true ∧ w ∈ lw_tbl := by decide +kernel
theorem tX6_completions {l : Launch} (hlt : l.stackTraces = false) : MetA l mX6_completions sX6_completions := zmet (M := mX6_completions) (own := RX6) (envM := eX6_completions) hlt rfl (by decide +kernel) (by decide +kernel) rfl (fun j q hq => by
  match j, hq with
  | 0, hq => cases hq; exact tX6_completionsNow hlt
  | n + 1, hq => cases hq) aX6_completions wX6_completions xX6_completions rfl
def mX6_completionsBy : zm_M := (yX6_completionsBy, cX6_completionsBy, 4, (some .long), (5, 0, 0, 120), 1, [], (0, 0))
def rX6_completionsBy : List zm_R := [(0, .aload_n 0, 0, [], 0, 0, (0, 0), false, []),
  (1, .aload_n 0, 0, [], 0, 0, (0, 0), false, []),
  (2, .iload_n 1, 0, [], 0, 0, (0, 0), false, []),
  (3, .invokevirtual 317, 6, [0, 0, 2, 1, 0, 6], 0, 0, (0, 0), false, []),
  (6, .invokevirtual 163, 6, [0, 1, 2, 1, 0, 6], 0, 0, (0, 0), false, []),
  (9, .ifCond .ne 5, 1, [8], 0, 0, (0, 0), false, []),
  (12, .lconst 0, 0, [], 0, 0, (0, 0), false, []),
  (13, .lreturn, 5, [], 0, 0, (0, 0), false, []),
  (14, .aload_n 0, 0, [], 0, 0, (0, 0), false, []),
  (15, .invokevirtual 148, 6, [0, 2, 1, 2, 0, 6], 0, 0, (0, 0), false, []),
  (18, .lstore_n 2, 0, [], 0, 0, (0, 0), false, []),
  (19, .aload_n 0, 0, [], 0, 0, (0, 0), false, []),
  (20, .iload_n 1, 0, [], 0, 0, (0, 0), false, []),
  (21, .invokevirtual 345, 6, [0, 3, 2, 1, 0, 6], 0, 0, (0, 0), false, []),
  (24, .ifCond .ne 19, 1, [25], 0, 0, (0, 0), false, []),
  (27, .aload_n 0, 0, [], 0, 0, (0, 0), false, []),
  (28, .aload_n 0, 0, [], 0, 0, (0, 0), false, []),
  (29, .invokevirtual 314, 6, [0, 4, 1, 1, 0, 6], 0, 0, (0, 0), false, []),
  (32, .iconst 1, 0, [], 1, 0, (0, 0), false, []),
  (33, .iload_n 1, 0, [], 0, 0, (0, 0), false, []),
  (34, .ishl, 0, [], 0, 0, (0, 0), false, []),
  (35, .ior, 0, [], 0, 0, (0, 0), false, []),
  (36, .iload_n 1, 0, [], 0, 0, (0, 0), false, []),
  (37, .invokevirtual 123, 6, [0, 5, 3, 2, 0, 6], 0, 0, (0, 0), false, []),
  (40, .goto 4, 1, [26], 0, 0, (0, 0), false, []),
  (43, .lconst 0, 0, [], 0, 0, (0, 0), false, []),
  (44, .lreturn, 5, [], 0, 0, (0, 0), false, [])]
def eX6_completionsBy : List zm_M := [mX6_isRoom, mX6_passes, mX6_toursNow, mX6_whyNot, mX6_walkSet, mX6_waysOf]
noncomputable def vX6_completionsBy : List (zm_M × zm_S) := [(mX6_isRoom, sX6_isRoom), (mX6_passes, sX6_passes), (mX6_toursNow, sX6_toursNow), (mX6_whyNot, sX6_whyNot), (mX6_walkSet, sX6_walkSet), (mX6_waysOf, sX6_waysOf)]
noncomputable def sX6_completionsBy : zm_S := zsem vX6_completionsBy rX6_completionsBy 4
set_option maxRecDepth 100000 in
theorem aX6_completionsBy : zall RX6 mX6_completionsBy eX6_completionsBy rX6_completionsBy = true := by decide +kernel
set_option maxRecDepth 100000 in
theorem wX6_completionsBy : ∀ w ∈ zwds RX6 mX6_completionsBy eX6_completionsBy rX6_completionsBy, w ∈ gT := zwd_of [1549, 1551, 69, 119, 1552, 1312, 1314, 35, 119, 1315, 1623, 1625, 80, 119, 1626, 1603, 1605, 77, 119, 1606, 1533, 1535, 66, 119, 1536, 1651, 1653, 87, 119, 1654] (by decide +kernel) (by decide +kernel) (z7_no (by decide +kernel))
set_option maxRecDepth 100000 in
theorem xX6_completionsBy : ∀ w ∈ zwxs RX6 mX6_completionsBy eX6_completionsBy rX6_completionsBy, zspc w = true ∧ w ∈ lw_tbl := by decide +kernel
theorem tX6_completionsBy {l : Launch} (hlt : l.stackTraces = false) : MetA l mX6_completionsBy sX6_completionsBy := zmet (M := mX6_completionsBy) (own := RX6) (envM := eX6_completionsBy) hlt rfl (by decide +kernel) (by decide +kernel) rfl (fun j q hq => by
  match j, hq with
  | 0, hq => cases hq; exact tX6_isRoom hlt
  | 1, hq => cases hq; exact tX6_passes hlt
  | 2, hq => cases hq; exact tX6_toursNow hlt
  | 3, hq => cases hq; exact tX6_whyNot hlt
  | 4, hq => cases hq; exact tX6_walkSet hlt
  | 5, hq => cases hq; exact tX6_waysOf hlt
  | n + 6, hq => cases hq) aX6_completionsBy wX6_completionsBy xX6_completionsBy rfl
def mX6_good : zm_M := (yX6_good, cX6_good, 6, (some .int), (5, 0, 0, 120), 0, [], (0, 0))
def rX6_good : List zm_R := [(0, .aload_n 0, 0, [], 0, 0, (0, 0), false, []),
  (1, .iconst 0, 0, [], 0, 0, (0, 0), false, []),
  (2, .putfield 3, 2, [6, 0, 27, 0], 0, 0, (0, 0), false, []),
  (5, .aload_n 0, 0, [], 0, 0, (0, 0), false, []),
  (6, .invokevirtual 148, 6, [0, 0, 1, 2, 0, 6], 0, 0, (0, 0), false, []),
  (9, .lstore_n 1, 0, [], 0, 0, (0, 0), false, []),
  (10, .aload_n 0, 0, [], 0, 0, (0, 0), false, []),
  (11, .invokevirtual 348, 6, [0, 1, 1, 1, 0, 6], 0, 0, (0, 0), false, []),
  (14, .istore_n 3, 0, [], 0, 0, (0, 0), false, []),
  (15, .iconst 0, 0, [], 0, 0, (0, 0), false, []),
  (16, .istore 4, 0, [], 0, 0, (0, 0), false, []),
  (18, .iconst 0, 0, [], 0, 0, (0, 0), false, []),
  (19, .istore 5, 0, [], 0, 0, (0, 0), false, []),
  (21, .iload 5, 0, [], 0, 0, (0, 0), true, [1, 2]),
  (23, .aload_n 0, 0, [], 0, 0, (0, 0), false, []),
  (24, .invokevirtual 69, 6, [0, 2, 1, 1, 0, 6], 0, 0, (0, 0), false, []),
  (27, .if_icmp .ge 51, 1, [43], 0, 0, (0, 0), false, []),
  (30, .iload 4, 0, [], 0, 0, (0, 0), false, []),
  (32, .iload_n 3, 0, [], 0, 0, (0, 0), false, []),
  (33, .iload 5, 0, [], 0, 0, (0, 0), false, []),
  (35, .invokestatic 86, 6, [1, 3, 2, 1, 0, 6], 0, 0, (0, 0), false, []),
  (38, .ifCond .eq 30, 1, [38], 0, 0, (0, 0), false, []),
  (41, .aload_n 0, 0, [], 0, 0, (0, 0), false, []),
  (42, .aload_n 0, 0, [], 0, 0, (0, 0), false, []),
  (43, .invokevirtual 314, 6, [0, 4, 1, 1, 0, 6], 0, 0, (0, 0), false, []),
  (46, .iconst 1, 0, [], 1, 0, (0, 0), false, []),
  (47, .iload 5, 0, [], 0, 0, (0, 0), false, []),
  (49, .ishl, 0, [], 0, 0, (0, 0), false, []),
  (50, .ior, 0, [], 0, 0, (0, 0), false, []),
  (51, .iload 5, 0, [], 0, 0, (0, 0), false, []),
  (53, .invokevirtual 123, 6, [0, 5, 3, 2, 0, 6], 0, 0, (0, 0), false, []),
  (56, .lconst 0, 0, [], 0, 0, (0, 0), false, []),
  (57, .lcmp, 0, [], 0, 0, (0, 0), false, []),
  (58, .ifCond .le 10, 1, [38], 0, 0, (0, 0), false, []),
  (61, .iconst 1, 0, [], 1, 0, (0, 0), false, []),
  (62, .iload 5, 0, [], 0, 0, (0, 0), false, []),
  (64, .ishl, 0, [], 0, 0, (0, 0), false, []),
  (65, .goto 4, 1, [39], 0, 0, (0, 0), false, []),
  (68, .iconst 0, 0, [], 0, 0, (0, 0), false, []),
  (69, .ior, 0, [], 0, 0, (0, 0), false, []),
  (70, .istore 4, 0, [], 0, 0, (0, 0), false, []),
  (72, .iinc 5 1, 0, [], 1, 0, (0, 0), false, []),
  (75, .goto (-54), 1, [13], 0, 0, (0, 0), false, []),
  (78, .iload 4, 0, [], 0, 0, (0, 0), false, []),
  (80, .ireturn, 5, [0], 0, 0, (0, 0), false, [])]
def eX6_good : List zm_M := [mX6_toursNow, mX6_exitSet, mX6_rooms, mX6_has, mX6_walkSet, mX6_waysOf]
noncomputable def vX6_good : List (zm_M × zm_S) := [(mX6_toursNow, sX6_toursNow), (mX6_exitSet, sX6_exitSet), (mX6_rooms, sX6_rooms), (mX6_has, sX6_has), (mX6_walkSet, sX6_walkSet), (mX6_waysOf, sX6_waysOf)]
noncomputable def sX6_good : zm_S := zsem vX6_good rX6_good 6
set_option maxRecDepth 100000 in
theorem aX6_good : zall RX6 mX6_good eX6_good rX6_good = true := by decide +kernel
set_option maxRecDepth 100000 in
theorem wX6_good : ∀ w ∈ zwds RX6 mX6_good eX6_good rX6_good, w ∈ gT := zwd_of [1226, 1623, 1625, 80, 119, 1626, 1615, 1617, 79, 119, 1618, 1421, 1423, 46, 119, 1424, 1463, 1464, 119, 1465, 1533, 1535, 66, 119, 1536, 1651, 1653, 87, 119, 1654] (by decide +kernel) (by decide +kernel) (z7_no (by decide +kernel))
set_option maxRecDepth 100000 in
theorem xX6_good : ∀ w ∈ zwxs RX6 mX6_good eX6_good rX6_good, zspc w = true ∧ w ∈ lw_tbl := by decide +kernel
theorem tX6_good {l : Launch} (hlt : l.stackTraces = false) : MetA l mX6_good sX6_good := zmet (M := mX6_good) (own := RX6) (envM := eX6_good) hlt rfl (by decide +kernel) (by decide +kernel) rfl (fun j q hq => by
  match j, hq with
  | 0, hq => cases hq; exact tX6_toursNow hlt
  | 1, hq => cases hq; exact tX6_exitSet hlt
  | 2, hq => cases hq; exact tX6_rooms hlt
  | 3, hq => cases hq; exact tX6_has hlt
  | 4, hq => cases hq; exact tX6_walkSet hlt
  | 5, hq => cases hq; exact tX6_waysOf hlt
  | n + 6, hq => cases hq) aX6_good wX6_good xX6_good rfl
def mX6_wrong : zm_M := (yX6_wrong, cX6_wrong, 4, (some .int), (5, 0, 0, 120), 0, [], (0, 0))
def rX6_wrong : List zm_R := [(0, .aload_n 0, 0, [], 0, 0, (0, 0), false, []),
  (1, .iconst 0, 0, [], 0, 0, (0, 0), false, []),
  (2, .putfield 3, 2, [6, 0, 27, 0], 0, 0, (0, 0), false, []),
  (5, .aload_n 0, 0, [], 0, 0, (0, 0), false, []),
  (6, .invokevirtual 148, 6, [0, 0, 1, 2, 0, 6], 0, 0, (0, 0), false, []),
  (9, .lconst 0, 0, [], 0, 0, (0, 0), false, []),
  (10, .lcmp, 0, [], 0, 0, (0, 0), false, []),
  (11, .ifCond .ne 5, 1, [10], 0, 0, (0, 0), false, []),
  (14, .iconst (-1), 0, [], (-1), 0, (0, 0), false, []),
  (15, .ireturn, 5, [0], 0, 0, (0, 0), false, []),
  (16, .iconst 0, 0, [], 0, 0, (0, 0), false, []),
  (17, .istore_n 1, 0, [], 0, 0, (0, 0), false, []),
  (18, .iconst 0, 0, [], 0, 0, (0, 0), false, []),
  (19, .istore_n 2, 0, [], 0, 0, (0, 0), false, []),
  (20, .iconst 0, 0, [], 0, 0, (0, 0), false, []),
  (21, .istore_n 3, 0, [], 0, 0, (0, 0), false, []),
  (22, .iload_n 3, 0, [], 0, 0, (0, 0), true, []),
  (23, .aload_n 0, 0, [], 0, 0, (0, 0), false, []),
  (24, .getfield 17, 2, [6, 1, 27, 2], 0, 0, (0, 0), false, []),
  (27, .iconst 4, 0, [], 4, 0, (0, 0), false, []),
  (28, .iaload, 3, [0], 0, 0, (0, 0), false, []),
  (29, .if_icmp .ge 42, 1, [47], 0, 0, (0, 0), false, []),
  (32, .iload_n 1, 0, [], 0, 0, (0, 0), false, []),
  (33, .iconst 1, 0, [], 1, 0, (0, 0), false, []),
  (34, .aload_n 0, 0, [], 0, 0, (0, 0), false, []),
  (35, .iload_n 3, 0, [], 0, 0, (0, 0), false, []),
  (36, .invokevirtual 82, 6, [0, 1, 2, 1, 0, 6], 0, 0, (0, 0), false, []),
  (39, .ishl, 0, [], 0, 0, (0, 0), false, []),
  (40, .ior, 0, [], 0, 0, (0, 0), false, []),
  (41, .istore_n 1, 0, [], 0, 0, (0, 0), false, []),
  (42, .aload_n 0, 0, [], 0, 0, (0, 0), false, []),
  (43, .iload_n 1, 0, [], 0, 0, (0, 0), false, []),
  (44, .aload_n 0, 0, [], 0, 0, (0, 0), false, []),
  (45, .iload_n 3, 0, [], 0, 0, (0, 0), false, []),
  (46, .invokevirtual 82, 6, [0, 1, 2, 1, 0, 6], 0, 0, (0, 0), false, []),
  (49, .invokevirtual 123, 6, [0, 2, 3, 2, 0, 6], 0, 0, (0, 0), false, []),
  (52, .lconst 0, 0, [], 0, 0, (0, 0), false, []),
  (53, .lcmp, 0, [], 0, 0, (0, 0), false, []),
  (54, .ifCond .le 9, 1, [43], 0, 0, (0, 0), false, []),
  (57, .iload_n 3, 0, [], 0, 0, (0, 0), false, []),
  (58, .iconst 1, 0, [], 1, 0, (0, 0), false, []),
  (59, .iadd, 0, [], 0, 0, (0, 0), false, []),
  (60, .goto 4, 1, [44], 0, 0, (0, 0), false, []),
  (63, .iload_n 2, 0, [], 0, 0, (0, 0), false, []),
  (64, .istore_n 2, 0, [], 0, 0, (0, 0), false, []),
  (65, .iinc 3 1, 0, [], 1, 0, (0, 0), false, []),
  (68, .goto (-46), 1, [16], 0, 0, (0, 0), false, []),
  (71, .aload_n 0, 0, [], 0, 0, (0, 0), false, []),
  (72, .getfield 17, 2, [6, 1, 27, 2], 0, 0, (0, 0), false, []),
  (75, .iconst 4, 0, [], 4, 0, (0, 0), false, []),
  (76, .iaload, 3, [0], 0, 0, (0, 0), false, []),
  (77, .iload_n 2, 0, [], 0, 0, (0, 0), false, []),
  (78, .isub, 0, [], 0, 0, (0, 0), false, []),
  (79, .ireturn, 5, [0], 0, 0, (0, 0), false, [])]
def eX6_wrong : List zm_M := [mX6_toursNow, mX6_walkedAt, mX6_waysOf]
noncomputable def vX6_wrong : List (zm_M × zm_S) := [(mX6_toursNow, sX6_toursNow), (mX6_walkedAt, sX6_walkedAt), (mX6_waysOf, sX6_waysOf)]
noncomputable def sX6_wrong : zm_S := zsem vX6_wrong rX6_wrong 4
set_option maxRecDepth 100000 in
theorem aX6_wrong : zall RX6 mX6_wrong eX6_wrong rX6_wrong = true := by decide +kernel
set_option maxRecDepth 100000 in
theorem wX6_wrong : ∀ w ∈ zwds RX6 mX6_wrong eX6_wrong rX6_wrong, w ∈ gT := zwd_of [1226, 1623, 1625, 80, 119, 1626, 1227, 1529, 1531, 65, 119, 1532, 1529, 1531, 65, 119, 1532, 1651, 1653, 87, 119, 1654, 1227] (by decide +kernel) (by decide +kernel) (z7_no (by decide +kernel))
set_option maxRecDepth 100000 in
theorem xX6_wrong : ∀ w ∈ zwxs RX6 mX6_wrong eX6_wrong rX6_wrong, zspc w = true ∧ w ∈ lw_tbl := by decide +kernel
theorem tX6_wrong {l : Launch} (hlt : l.stackTraces = false) : MetA l mX6_wrong sX6_wrong := zmet (M := mX6_wrong) (own := RX6) (envM := eX6_wrong) hlt rfl (by decide +kernel) (by decide +kernel) rfl (fun j q hq => by
  match j, hq with
  | 0, hq => cases hq; exact tX6_toursNow hlt
  | 1, hq => cases hq; exact tX6_walkedAt hlt
  | 2, hq => cases hq; exact tX6_waysOf hlt
  | n + 3, hq => cases hq) aX6_wrong wX6_wrong xX6_wrong rfl
def mX6_isRank : zm_M := (yX6_isRank, cX6_isRank, 3, (some .boolean), (5, 0, 0, 120), 1, [], (0, 0))
def rX6_isRank : List zm_R := [(0, .lload_n 1, 0, [], 0, 0, (0, 0), false, []),
  (1, .lconst 0, 0, [], 0, 0, (0, 0), false, []),
  (2, .lcmp, 0, [], 0, 0, (0, 0), false, []),
  (3, .ifCond .lt 16, 1, [11], 0, 0, (0, 0), false, []),
  (6, .lload_n 1, 0, [], 0, 0, (0, 0), false, []),
  (7, .aload_n 0, 0, [], 0, 0, (0, 0), false, []),
  (8, .invokevirtual 148, 6, [0, 0, 1, 2, 0, 6], 0, 0, (0, 0), false, []),
  (11, .lcmp, 0, [], 0, 0, (0, 0), false, []),
  (12, .ifCond .ge 7, 1, [11], 0, 0, (0, 0), false, []),
  (15, .iconst 1, 0, [], 1, 0, (0, 0), false, []),
  (16, .goto 4, 1, [12], 0, 0, (0, 0), false, []),
  (19, .iconst 0, 0, [], 0, 0, (0, 0), false, []),
  (20, .ireturn, 5, [1], 0, 0, (0, 0), false, [])]
def eX6_isRank : List zm_M := [mX6_toursNow]
noncomputable def vX6_isRank : List (zm_M × zm_S) := [(mX6_toursNow, sX6_toursNow)]
noncomputable def sX6_isRank : zm_S := zsem vX6_isRank rX6_isRank 3
set_option maxRecDepth 100000 in
theorem aX6_isRank : zall RX6 mX6_isRank eX6_isRank rX6_isRank = true := by decide +kernel
set_option maxRecDepth 100000 in
theorem wX6_isRank : ∀ w ∈ zwds RX6 mX6_isRank eX6_isRank rX6_isRank, w ∈ gT := zwd_of [1623, 1625, 80, 119, 1626] (by decide +kernel) (by decide +kernel) (z7_no (by decide +kernel))
set_option maxRecDepth 100000 in
theorem xX6_isRank : ∀ w ∈ zwxs RX6 mX6_isRank eX6_isRank rX6_isRank, zspc w = true ∧ w ∈ lw_tbl := by decide +kernel
theorem tX6_isRank {l : Launch} (hlt : l.stackTraces = false) : MetA l mX6_isRank sX6_isRank := zmet (M := mX6_isRank) (own := RX6) (envM := eX6_isRank) hlt rfl (by decide +kernel) (by decide +kernel) rfl (fun j q hq => by
  match j, hq with
  | 0, hq => cases hq; exact tX6_toursNow hlt
  | n + 1, hq => cases hq) aX6_isRank wX6_isRank xX6_isRank rfl
def mX6_tour : zm_M := (yX6_tour, cX6_tour, 4, (some .int), (6, 0, 0, 142), 2, [], (0, 0))
def rX6_tour : List zm_R := [(0, .aload_n 0, 0, [], 0, 0, (0, 0), false, []),
  (1, .aload_n 0, 0, [], 0, 0, (0, 0), false, []),
  (2, .lload_n 1, 0, [], 0, 0, (0, 0), false, []),
  (3, .invokevirtual 354, 6, [0, 0, 2, 1, 0, 6], 0, 0, (0, 0), false, []),
  (6, .ifCond .eq 15, 1, [11], 0, 0, (0, 0), false, []),
  (9, .aload_n 0, 0, [], 0, 0, (0, 0), false, []),
  (10, .iload_n 3, 0, [], 0, 0, (0, 0), false, []),
  (11, .invokevirtual 317, 6, [0, 4, 2, 1, 0, 6], 0, 0, (0, 0), false, []),
  (14, .ifCond .eq 7, 1, [11], 0, 0, (0, 0), false, []),
  (17, .iconst 1, 0, [], 1, 0, (0, 0), false, []),
  (18, .goto 4, 1, [12], 0, 0, (0, 0), false, []),
  (21, .iconst 0, 0, [], 0, 0, (0, 0), false, []),
  (22, .invokevirtual 163, 6, [0, 1, 2, 1, 0, 6], 0, 0, (0, 0), false, []),
  (25, .ifCond .ne 5, 1, [16], 0, 0, (0, 0), false, []),
  (28, .iconst 0, 0, [], 0, 0, (0, 0), false, []),
  (29, .ireturn, 5, [0], 0, 0, (0, 0), false, []),
  (30, .aload_n 0, 0, [], 0, 0, (0, 0), false, []),
  (31, .invokevirtual 358, 6, [0, 2, 1, 0, 0, 6], 0, 0, (0, 0), false, []),
  (34, .aload_n 0, 0, [], 0, 0, (0, 0), false, []),
  (35, .iconst 1, 0, [], 1, 0, (0, 0), false, []),
  (36, .lload_n 1, 0, [], 0, 0, (0, 0), false, []),
  (37, .invokevirtual 361, 6, [0, 3, 3, 0, 0, 6], 0, 0, (0, 0), false, []),
  (40, .aload_n 0, 0, [], 0, 0, (0, 0), false, []),
  (41, .getfield 41, 2, [6, 8, 27, 2], 0, 0, (0, 0), false, []),
  (44, .iload_n 3, 0, [], 0, 0, (0, 0), false, []),
  (45, .iaload, 3, [0], 0, 0, (0, 0), false, []),
  (46, .ireturn, 5, [0], 0, 0, (0, 0), false, [])]
def eX6_tour : List zm_M := [mX6_isRank, mX6_passes, mX6_layStart, mX6_layTour, mX6_isRoom]
noncomputable def vX6_tour : List (zm_M × zm_S) := [(mX6_isRank, sX6_isRank), (mX6_passes, sX6_passes), (mX6_layStart, sX6_layStart), (mX6_layTour, sX6_layTour), (mX6_isRoom, sX6_isRoom)]
noncomputable def sX6_tour : zm_S := zsem vX6_tour rX6_tour 4
set_option maxRecDepth 100000 in
theorem aX6_tour : zall RX6 mX6_tour eX6_tour rX6_tour = true := by decide +kernel
set_option maxRecDepth 100000 in
theorem wX6_tour : ∀ w ∈ zwds RX6 mX6_tour eX6_tour rX6_tour, w ∈ gT := zwd_of [1679, 1681, 89, 119, 1682, 1549, 1551, 69, 119, 1552, 1312, 1314, 35, 119, 1315, 1683, 1685, 90, 119, 1686, 1687, 1689, 91, 119, 1690, 1234] (by decide +kernel) (by decide +kernel) (z7_no (by decide +kernel))
set_option maxRecDepth 100000 in
theorem xX6_tour : ∀ w ∈ zwxs RX6 mX6_tour eX6_tour rX6_tour, zspc w = true ∧ w ∈ lw_tbl := by decide +kernel
theorem tX6_tour {l : Launch} (hlt : l.stackTraces = false) : MetA l mX6_tour sX6_tour := zmet (M := mX6_tour) (own := RX6) (envM := eX6_tour) hlt rfl (by decide +kernel) (by decide +kernel) rfl (fun j q hq => by
  match j, hq with
  | 0, hq => cases hq; exact tX6_isRank hlt
  | 1, hq => cases hq; exact tX6_passes hlt
  | 2, hq => cases hq; exact tX6_layStart hlt
  | 3, hq => cases hq; exact tX6_layTour hlt
  | 4, hq => cases hq; exact tX6_isRoom hlt
  | n + 5, hq => cases hq) aX6_tour wX6_tour xX6_tour rfl
def mX6_rank : zm_M := (yX6_rank, cX6_rank, 2, (some .long), (6, 0, 0, 142), 0, [], (0, 0))
def rX6_rank : List zm_R := [(0, .aload_n 0, 0, [], 0, 0, (0, 0), false, []),
  (1, .iconst 0, 0, [], 0, 0, (0, 0), false, []),
  (2, .putfield 3, 2, [6, 0, 27, 0], 0, 0, (0, 0), false, []),
  (5, .aload_n 0, 0, [], 0, 0, (0, 0), false, []),
  (6, .getfield 17, 2, [6, 1, 27, 2], 0, 0, (0, 0), false, []),
  (9, .iconst 4, 0, [], 4, 0, (0, 0), false, []),
  (10, .iaload, 3, [0], 0, 0, (0, 0), false, []),
  (11, .aload_n 0, 0, [], 0, 0, (0, 0), false, []),
  (12, .invokevirtual 69, 6, [0, 0, 1, 1, 0, 6], 0, 0, (0, 0), false, []),
  (15, .if_icmp .ne 16, 1, [17], 0, 0, (0, 0), false, []),
  (18, .aload_n 0, 0, [], 0, 0, (0, 0), false, []),
  (19, .invokevirtual 351, 6, [0, 2, 1, 2, 0, 6], 0, 0, (0, 0), false, []),
  (22, .lconst 1, 0, [], 0, 1, (0, 0), false, []),
  (23, .lcmp, 0, [], 0, 0, (0, 0), false, []),
  (24, .ifCond .ne 7, 1, [17], 0, 0, (0, 0), false, []),
  (27, .iconst 1, 0, [], 1, 0, (0, 0), false, []),
  (28, .goto 4, 1, [18], 0, 0, (0, 0), false, []),
  (31, .iconst 0, 0, [], 0, 0, (0, 0), false, []),
  (32, .istore_n 1, 0, [], 0, 0, (0, 0), false, []),
  (33, .iload_n 1, 0, [], 0, 0, (0, 0), false, []),
  (34, .ifCond .eq 10, 1, [24], 0, 0, (0, 0), false, []),
  (37, .aload_n 0, 0, [], 0, 0, (0, 0), false, []),
  (38, .invokevirtual 365, 6, [0, 1, 1, 2, 0, 6], 0, 0, (0, 0), false, []),
  (41, .goto 6, 1, [25], 0, 0, (0, 0), false, []),
  (44, .ldc2_w 368, 9, [1], 0, (-1), (0, 0), false, []),
  (47, .lreturn, 5, [], 0, 0, (0, 0), false, [])]
def eX6_rank : List zm_M := [mX6_rooms, mX6_toursAhead, mX6_completionsNow]
noncomputable def vX6_rank : List (zm_M × zm_S) := [(mX6_rooms, sX6_rooms), (mX6_toursAhead, sX6_toursAhead), (mX6_completionsNow, sX6_completionsNow)]
noncomputable def sX6_rank : zm_S := zsem vX6_rank rX6_rank 2
set_option maxRecDepth 100000 in
theorem aX6_rank : zall RX6 mX6_rank eX6_rank rX6_rank = true := by decide +kernel
set_option maxRecDepth 100000 in
theorem wX6_rank : ∀ w ∈ zwds RX6 mX6_rank eX6_rank rX6_rank, w ∈ gT := zwd_of [1226, 1227, 1421, 1423, 46, 119, 1424, 1659, 1661, 88, 119, 1662, 1695, 1697, 92, 119, 1698, 1699] (by decide +kernel) (by decide +kernel) (z7_no (by decide +kernel))
set_option maxRecDepth 100000 in
theorem xX6_rank : ∀ w ∈ zwxs RX6 mX6_rank eX6_rank rX6_rank, zspc w = true ∧ w ∈ lw_tbl := by decide +kernel
theorem tX6_rank {l : Launch} (hlt : l.stackTraces = false) : MetA l mX6_rank sX6_rank := zmet (M := mX6_rank) (own := RX6) (envM := eX6_rank) hlt rfl (by decide +kernel) (by decide +kernel) rfl (fun j q hq => by
  match j, hq with
  | 0, hq => cases hq; exact tX6_rooms hlt
  | 1, hq => cases hq; exact tX6_toursAhead hlt
  | 2, hq => cases hq; exact tX6_completionsNow hlt
  | n + 3, hq => cases hq) aX6_rank wX6_rank xX6_rank rfl
def mX6_longest : zm_M := (yX6_longest, cX6_longest, 1, (some .int), (4, 0, 0, 96), 0, [], (0, 0))
def rX6_longest : List zm_R := [(0, .aload_n 0, 0, [], 0, 0, (0, 0), false, []),
  (1, .iconst 0, 0, [], 0, 0, (0, 0), false, []),
  (2, .putfield 3, 2, [6, 0, 27, 0], 0, 0, (0, 0), false, []),
  (5, .aload_n 0, 0, [], 0, 0, (0, 0), false, []),
  (6, .iconst 1, 0, [], 1, 0, (0, 0), false, []),
  (7, .aload_n 0, 0, [], 0, 0, (0, 0), false, []),
  (8, .getfield 17, 2, [6, 1, 27, 2], 0, 0, (0, 0), false, []),
  (11, .iconst 2, 0, [], 2, 0, (0, 0), false, []),
  (12, .iaload, 3, [0], 0, 0, (0, 0), false, []),
  (13, .ishl, 0, [], 0, 0, (0, 0), false, []),
  (14, .aload_n 0, 0, [], 0, 0, (0, 0), false, []),
  (15, .getfield 17, 2, [6, 1, 27, 2], 0, 0, (0, 0), false, []),
  (18, .iconst 2, 0, [], 2, 0, (0, 0), false, []),
  (19, .iaload, 3, [0], 0, 0, (0, 0), false, []),
  (20, .invokevirtual 370, 6, [0, 0, 3, 1, 0, 6], 0, 0, (0, 0), false, []),
  (23, .ireturn, 5, [0], 0, 0, (0, 0), false, [])]
def eX6_longest : List zm_M := [mX6_longestFrom]
noncomputable def vX6_longest : List (zm_M × zm_S) := [(mX6_longestFrom, sX6_longestFrom)]
noncomputable def sX6_longest : zm_S := zsem vX6_longest rX6_longest 1
set_option maxRecDepth 100000 in
theorem aX6_longest : zall RX6 mX6_longest eX6_longest rX6_longest = true := by decide +kernel
set_option maxRecDepth 100000 in
theorem wX6_longest : ∀ w ∈ zwds RX6 mX6_longest eX6_longest rX6_longest, w ∈ gT := zwd_of [1226, 1227, 1227, 1704, 1706, 93, 119, 1707] (by decide +kernel) (by decide +kernel) (z7_no (by decide +kernel))
set_option maxRecDepth 100000 in
theorem xX6_longest : ∀ w ∈ zwxs RX6 mX6_longest eX6_longest rX6_longest, zspc w = true ∧ w ∈ lw_tbl := by decide +kernel
theorem tX6_longest {l : Launch} (hlt : l.stackTraces = false) : MetA l mX6_longest sX6_longest := zmet (M := mX6_longest) (own := RX6) (envM := eX6_longest) hlt rfl (by decide +kernel) (by decide +kernel) rfl (fun j q hq => by
  match j, hq with
  | 0, hq => cases hq; exact tX6_longestFrom hlt
  | n + 1, hq => cases hq) aX6_longest wX6_longest xX6_longest rfl
def mX6_longestOn : zm_M := (yX6_longestOn, cX6_longestOn, 1, (some .int), (4, 0, 0, 96), 0, [], (0, 0))
def rX6_longestOn : List zm_R := [(0, .aload_n 0, 0, [], 0, 0, (0, 0), false, []),
  (1, .iconst 0, 0, [], 0, 0, (0, 0), false, []),
  (2, .putfield 3, 2, [6, 0, 27, 0], 0, 0, (0, 0), false, []),
  (5, .aload_n 0, 0, [], 0, 0, (0, 0), false, []),
  (6, .aload_n 0, 0, [], 0, 0, (0, 0), false, []),
  (7, .invokevirtual 314, 6, [0, 0, 1, 1, 0, 6], 0, 0, (0, 0), false, []),
  (10, .aload_n 0, 0, [], 0, 0, (0, 0), false, []),
  (11, .invokevirtual 311, 6, [0, 1, 1, 1, 0, 6], 0, 0, (0, 0), false, []),
  (14, .invokevirtual 370, 6, [0, 2, 3, 1, 0, 6], 0, 0, (0, 0), false, []),
  (17, .ireturn, 5, [0], 0, 0, (0, 0), false, [])]
def eX6_longestOn : List zm_M := [mX6_walkSet, mX6_lastRoom, mX6_longestFrom]
noncomputable def vX6_longestOn : List (zm_M × zm_S) := [(mX6_walkSet, sX6_walkSet), (mX6_lastRoom, sX6_lastRoom), (mX6_longestFrom, sX6_longestFrom)]
noncomputable def sX6_longestOn : zm_S := zsem vX6_longestOn rX6_longestOn 1
set_option maxRecDepth 100000 in
theorem aX6_longestOn : zall RX6 mX6_longestOn eX6_longestOn rX6_longestOn = true := by decide +kernel
set_option maxRecDepth 100000 in
theorem wX6_longestOn : ∀ w ∈ zwds RX6 mX6_longestOn eX6_longestOn rX6_longestOn, w ∈ gT := zwd_of [1226, 1533, 1535, 66, 119, 1536, 1525, 1527, 64, 119, 1528, 1704, 1706, 93, 119, 1707] (by decide +kernel) (by decide +kernel) (z7_no (by decide +kernel))
set_option maxRecDepth 100000 in
theorem xX6_longestOn : ∀ w ∈ zwxs RX6 mX6_longestOn eX6_longestOn rX6_longestOn, zspc w = true ∧ w ∈ lw_tbl := by decide +kernel
theorem tX6_longestOn {l : Launch} (hlt : l.stackTraces = false) : MetA l mX6_longestOn sX6_longestOn := zmet (M := mX6_longestOn) (own := RX6) (envM := eX6_longestOn) hlt rfl (by decide +kernel) (by decide +kernel) rfl (fun j q hq => by
  match j, hq with
  | 0, hq => cases hq; exact tX6_walkSet hlt
  | 1, hq => cases hq; exact tX6_lastRoom hlt
  | 2, hq => cases hq; exact tX6_longestFrom hlt
  | n + 3, hq => cases hq) aX6_longestOn wX6_longestOn xX6_longestOn rfl
def mX6_endingSet : zm_M := (yX6_endingSet, cX6_endingSet, 3, (some .int), (4, 0, 0, 95), 0, [], (0, 0))
def rX6_endingSet : List zm_R := [(0, .aload_n 0, 0, [], 0, 0, (0, 0), false, []),
  (1, .invokevirtual 373, 6, [0, 0, 1, 0, 0, 6], 0, 0, (0, 0), false, []),
  (4, .iconst 0, 0, [], 0, 0, (0, 0), false, []),
  (5, .istore_n 1, 0, [], 0, 0, (0, 0), false, []),
  (6, .iconst 0, 0, [], 0, 0, (0, 0), false, []),
  (7, .istore_n 2, 0, [], 0, 0, (0, 0), false, []),
  (8, .iload_n 2, 0, [], 0, 0, (0, 0), true, []),
  (9, .aload_n 0, 0, [], 0, 0, (0, 0), false, []),
  (10, .invokevirtual 69, 6, [0, 1, 1, 1, 0, 6], 0, 0, (0, 0), false, []),
  (13, .if_icmp .ge 47, 1, [36], 0, 0, (0, 0), false, []),
  (16, .iload_n 1, 0, [], 0, 0, (0, 0), false, []),
  (17, .aload_n 0, 0, [], 0, 0, (0, 0), false, []),
  (18, .aload_n 0, 0, [], 0, 0, (0, 0), false, []),
  (19, .invokevirtual 110, 6, [0, 2, 1, 1, 0, 6], 0, 0, (0, 0), false, []),
  (22, .iload_n 2, 0, [], 0, 0, (0, 0), false, []),
  (23, .invokevirtual 376, 6, [0, 3, 3, 2, 0, 6], 0, 0, (0, 0), false, []),
  (26, .lconst 0, 0, [], 0, 0, (0, 0), false, []),
  (27, .lcmp, 0, [], 0, 0, (0, 0), false, []),
  (28, .ifCond .le 23, 1, [31], 0, 0, (0, 0), false, []),
  (31, .aload_n 0, 0, [], 0, 0, (0, 0), false, []),
  (32, .iload_n 2, 0, [], 0, 0, (0, 0), false, []),
  (33, .aload_n 0, 0, [], 0, 0, (0, 0), false, []),
  (34, .getfield 17, 2, [6, 1, 27, 2], 0, 0, (0, 0), false, []),
  (37, .iconst 3, 0, [], 3, 0, (0, 0), false, []),
  (38, .iaload, 3, [0], 0, 0, (0, 0), false, []),
  (39, .invokevirtual 120, 6, [0, 4, 3, 1, 0, 6], 0, 0, (0, 0), false, []),
  (42, .ifCond .eq 9, 1, [31], 0, 0, (0, 0), false, []),
  (45, .iconst 1, 0, [], 1, 0, (0, 0), false, []),
  (46, .iload_n 2, 0, [], 0, 0, (0, 0), false, []),
  (47, .ishl, 0, [], 0, 0, (0, 0), false, []),
  (48, .goto 4, 1, [32], 0, 0, (0, 0), false, []),
  (51, .iconst 0, 0, [], 0, 0, (0, 0), false, []),
  (52, .ior, 0, [], 0, 0, (0, 0), false, []),
  (53, .istore_n 1, 0, [], 0, 0, (0, 0), false, []),
  (54, .iinc 2 1, 0, [], 1, 0, (0, 0), false, []),
  (57, .goto (-49), 1, [6], 0, 0, (0, 0), false, []),
  (60, .iload_n 1, 0, [], 0, 0, (0, 0), false, []),
  (61, .ireturn, 5, [0], 0, 0, (0, 0), false, [])]
def eX6_endingSet : List zm_M := [mX6_layComes, mX6_rooms, mX6_whole, mX6_comesTo, mX6_mayEnd]
noncomputable def vX6_endingSet : List (zm_M × zm_S) := [(mX6_layComes, sX6_layComes), (mX6_rooms, sX6_rooms), (mX6_whole, sX6_whole), (mX6_comesTo, sX6_comesTo), (mX6_mayEnd, sX6_mayEnd)]
noncomputable def sX6_endingSet : zm_S := zsem vX6_endingSet rX6_endingSet 3
set_option maxRecDepth 100000 in
theorem aX6_endingSet : zall RX6 mX6_endingSet eX6_endingSet rX6_endingSet = true := by decide +kernel
set_option maxRecDepth 100000 in
theorem wX6_endingSet : ∀ w ∈ zwds RX6 mX6_endingSet eX6_endingSet rX6_endingSet, w ∈ gT := zwd_of [1723, 1725, 95, 119, 1726, 1421, 1423, 46, 119, 1424, 1635, 1637, 83, 119, 1638, 1727, 1729, 96, 119, 1730, 1227, 1643, 1645, 85, 119, 1646] (by decide +kernel) (by decide +kernel) (z7_no (by decide +kernel))
set_option maxRecDepth 100000 in
theorem xX6_endingSet : ∀ w ∈ zwxs RX6 mX6_endingSet eX6_endingSet rX6_endingSet, zspc w = true ∧ w ∈ lw_tbl := by decide +kernel
theorem tX6_endingSet {l : Launch} (hlt : l.stackTraces = false) : MetA l mX6_endingSet sX6_endingSet := zmet (M := mX6_endingSet) (own := RX6) (envM := eX6_endingSet) hlt rfl (by decide +kernel) (by decide +kernel) rfl (fun j q hq => by
  match j, hq with
  | 0, hq => cases hq; exact tX6_layComes hlt
  | 1, hq => cases hq; exact tX6_rooms hlt
  | 2, hq => cases hq; exact tX6_whole hlt
  | 3, hq => cases hq; exact tX6_comesTo hlt
  | 4, hq => cases hq; exact tX6_mayEnd hlt
  | n + 5, hq => cases hq) aX6_endingSet wX6_endingSet xX6_endingSet rfl
def mX6_endings : zm_M := (yX6_endings, cX6_endings, 1, (some .int), (5, 0, 0, 117), 0, [], (0, 0))
def rX6_endings : List zm_R := [(0, .aload_n 0, 0, [], 0, 0, (0, 0), false, []),
  (1, .iconst 0, 0, [], 0, 0, (0, 0), false, []),
  (2, .putfield 3, 2, [6, 0, 27, 0], 0, 0, (0, 0), false, []),
  (5, .aload_n 0, 0, [], 0, 0, (0, 0), false, []),
  (6, .invokevirtual 379, 6, [0, 0, 1, 1, 0, 6], 0, 0, (0, 0), false, []),
  (9, .ireturn, 5, [0], 0, 0, (0, 0), false, [])]
def eX6_endings : List zm_M := [mX6_endingSet]
noncomputable def vX6_endings : List (zm_M × zm_S) := [(mX6_endingSet, sX6_endingSet)]
noncomputable def sX6_endings : zm_S := zsem vX6_endings rX6_endings 1
set_option maxRecDepth 100000 in
theorem aX6_endings : zall RX6 mX6_endings eX6_endings rX6_endings = true := by decide +kernel
set_option maxRecDepth 100000 in
theorem wX6_endings : ∀ w ∈ zwds RX6 mX6_endings eX6_endings rX6_endings, w ∈ gT := zwd_of [1226, 1719, 1721, 94, 119, 1722] (by decide +kernel) (by decide +kernel) (z7_no (by decide +kernel))
set_option maxRecDepth 100000 in
theorem xX6_endings : ∀ w ∈ zwxs RX6 mX6_endings eX6_endings rX6_endings, zspc w = true ∧ w ∈ lw_tbl := by decide +kernel
theorem tX6_endings {l : Launch} (hlt : l.stackTraces = false) : MetA l mX6_endings sX6_endings := zmet (M := mX6_endings) (own := RX6) (envM := eX6_endings) hlt rfl (by decide +kernel) (by decide +kernel) rfl (fun j q hq => by
  match j, hq with
  | 0, hq => cases hq; exact tX6_endingSet hlt
  | n + 1, hq => cases hq) aX6_endings wX6_endings xX6_endings rfl
def mX6_starts : zm_M := (yX6_starts, cX6_starts, 5, (some .int), (5, 0, 0, 120), 0, [], (0, 0))
def rX6_starts : List zm_R := [(0, .aload_n 0, 0, [], 0, 0, (0, 0), false, []),
  (1, .iconst 0, 0, [], 0, 0, (0, 0), false, []),
  (2, .putfield 3, 2, [6, 0, 27, 0], 0, 0, (0, 0), false, []),
  (5, .aload_n 0, 0, [], 0, 0, (0, 0), false, []),
  (6, .invokevirtual 148, 6, [0, 0, 1, 2, 0, 6], 0, 0, (0, 0), false, []),
  (9, .lstore_n 1, 0, [], 0, 0, (0, 0), false, []),
  (10, .iconst 0, 0, [], 0, 0, (0, 0), false, []),
  (11, .istore_n 3, 0, [], 0, 0, (0, 0), false, []),
  (12, .iconst 0, 0, [], 0, 0, (0, 0), false, []),
  (13, .istore 4, 0, [], 0, 0, (0, 0), false, []),
  (15, .iload 4, 0, [], 0, 0, (0, 0), true, [1, 2]),
  (17, .aload_n 0, 0, [], 0, 0, (0, 0), false, []),
  (18, .invokevirtual 69, 6, [0, 1, 1, 1, 0, 6], 0, 0, (0, 0), false, []),
  (21, .if_icmp .ge 31, 1, [30], 0, 0, (0, 0), false, []),
  (24, .iload_n 3, 0, [], 0, 0, (0, 0), false, []),
  (25, .aload_n 0, 0, [], 0, 0, (0, 0), false, []),
  (26, .iload 4, 0, [], 0, 0, (0, 0), false, []),
  (28, .invokevirtual 130, 6, [0, 2, 2, 2, 0, 6], 0, 0, (0, 0), false, []),
  (31, .lconst 0, 0, [], 0, 0, (0, 0), false, []),
  (32, .lcmp, 0, [], 0, 0, (0, 0), false, []),
  (33, .ifCond .le 10, 1, [25], 0, 0, (0, 0), false, []),
  (36, .iconst 1, 0, [], 1, 0, (0, 0), false, []),
  (37, .iload 4, 0, [], 0, 0, (0, 0), false, []),
  (39, .ishl, 0, [], 0, 0, (0, 0), false, []),
  (40, .goto 4, 1, [26], 0, 0, (0, 0), false, []),
  (43, .iconst 0, 0, [], 0, 0, (0, 0), false, []),
  (44, .ior, 0, [], 0, 0, (0, 0), false, []),
  (45, .istore_n 3, 0, [], 0, 0, (0, 0), false, []),
  (46, .iinc 4 1, 0, [], 1, 0, (0, 0), false, []),
  (49, .goto (-34), 1, [10], 0, 0, (0, 0), false, []),
  (52, .iload_n 3, 0, [], 0, 0, (0, 0), false, []),
  (53, .ireturn, 5, [0], 0, 0, (0, 0), false, [])]
def eX6_starts : List zm_M := [mX6_toursNow, mX6_rooms, mX6_toursFromRoom]
noncomputable def vX6_starts : List (zm_M × zm_S) := [(mX6_toursNow, sX6_toursNow), (mX6_rooms, sX6_rooms), (mX6_toursFromRoom, sX6_toursFromRoom)]
noncomputable def sX6_starts : zm_S := zsem vX6_starts rX6_starts 5
set_option maxRecDepth 100000 in
theorem aX6_starts : zall RX6 mX6_starts eX6_starts rX6_starts = true := by decide +kernel
set_option maxRecDepth 100000 in
theorem wX6_starts : ∀ w ∈ zwds RX6 mX6_starts eX6_starts rX6_starts, w ∈ gT := zwd_of [1226, 1623, 1625, 80, 119, 1626, 1421, 1423, 46, 119, 1424, 1647, 1649, 86, 119, 1650] (by decide +kernel) (by decide +kernel) (z7_no (by decide +kernel))
set_option maxRecDepth 100000 in
theorem xX6_starts : ∀ w ∈ zwxs RX6 mX6_starts eX6_starts rX6_starts, zspc w = true ∧ w ∈ lw_tbl := by decide +kernel
theorem tX6_starts {l : Launch} (hlt : l.stackTraces = false) : MetA l mX6_starts sX6_starts := zmet (M := mX6_starts) (own := RX6) (envM := eX6_starts) hlt rfl (by decide +kernel) (by decide +kernel) rfl (fun j q hq => by
  match j, hq with
  | 0, hq => cases hq; exact tX6_toursNow hlt
  | 1, hq => cases hq; exact tX6_rooms hlt
  | 2, hq => cases hq; exact tX6_toursFromRoom hlt
  | n + 3, hq => cases hq) aX6_starts wX6_starts xX6_starts rfl
def mX6_toursFrom : zm_M := (yX6_toursFrom, cX6_toursFrom, 4, (some .long), (5, 0, 0, 120), 1, [], (0, 0))
def rX6_toursFrom : List zm_R := [(0, .aload_n 0, 0, [], 0, 0, (0, 0), false, []),
  (1, .aload_n 0, 0, [], 0, 0, (0, 0), false, []),
  (2, .iload_n 1, 0, [], 0, 0, (0, 0), false, []),
  (3, .invokevirtual 317, 6, [0, 0, 2, 1, 0, 6], 0, 0, (0, 0), false, []),
  (6, .invokevirtual 163, 6, [0, 1, 2, 1, 0, 6], 0, 0, (0, 0), false, []),
  (9, .ifCond .ne 5, 1, [8], 0, 0, (0, 0), false, []),
  (12, .lconst 0, 0, [], 0, 0, (0, 0), false, []),
  (13, .lreturn, 5, [], 0, 0, (0, 0), false, []),
  (14, .aload_n 0, 0, [], 0, 0, (0, 0), false, []),
  (15, .invokevirtual 148, 6, [0, 2, 1, 2, 0, 6], 0, 0, (0, 0), false, []),
  (18, .lstore_n 2, 0, [], 0, 0, (0, 0), false, []),
  (19, .aload_n 0, 0, [], 0, 0, (0, 0), false, []),
  (20, .iload_n 1, 0, [], 0, 0, (0, 0), false, []),
  (21, .invokevirtual 130, 6, [0, 3, 2, 2, 0, 6], 0, 0, (0, 0), false, []),
  (24, .lreturn, 5, [], 0, 0, (0, 0), false, [])]
def eX6_toursFrom : List zm_M := [mX6_isRoom, mX6_passes, mX6_toursNow, mX6_toursFromRoom]
noncomputable def vX6_toursFrom : List (zm_M × zm_S) := [(mX6_isRoom, sX6_isRoom), (mX6_passes, sX6_passes), (mX6_toursNow, sX6_toursNow), (mX6_toursFromRoom, sX6_toursFromRoom)]
noncomputable def sX6_toursFrom : zm_S := zsem vX6_toursFrom rX6_toursFrom 4
set_option maxRecDepth 100000 in
theorem aX6_toursFrom : zall RX6 mX6_toursFrom eX6_toursFrom rX6_toursFrom = true := by decide +kernel
set_option maxRecDepth 100000 in
theorem wX6_toursFrom : ∀ w ∈ zwds RX6 mX6_toursFrom eX6_toursFrom rX6_toursFrom, w ∈ gT := zwd_of [1549, 1551, 69, 119, 1552, 1312, 1314, 35, 119, 1315, 1623, 1625, 80, 119, 1626, 1647, 1649, 86, 119, 1650] (by decide +kernel) (by decide +kernel) (z7_no (by decide +kernel))
set_option maxRecDepth 100000 in
theorem xX6_toursFrom : ∀ w ∈ zwxs RX6 mX6_toursFrom eX6_toursFrom rX6_toursFrom, zspc w = true ∧ w ∈ lw_tbl := by decide +kernel
theorem tX6_toursFrom {l : Launch} (hlt : l.stackTraces = false) : MetA l mX6_toursFrom sX6_toursFrom := zmet (M := mX6_toursFrom) (own := RX6) (envM := eX6_toursFrom) hlt rfl (by decide +kernel) (by decide +kernel) rfl (fun j q hq => by
  match j, hq with
  | 0, hq => cases hq; exact tX6_isRoom hlt
  | 1, hq => cases hq; exact tX6_passes hlt
  | 2, hq => cases hq; exact tX6_toursNow hlt
  | 3, hq => cases hq; exact tX6_toursFromRoom hlt
  | n + 4, hq => cases hq) aX6_toursFrom wX6_toursFrom xX6_toursFrom rfl
def mX6_toursTo : zm_M := (yX6_toursTo, cX6_toursTo, 2, (some .long), (4, 0, 0, 95), 1, [], (0, 0))
def rX6_toursTo : List zm_R := [(0, .aload_n 0, 0, [], 0, 0, (0, 0), false, []),
  (1, .aload_n 0, 0, [], 0, 0, (0, 0), false, []),
  (2, .iload_n 1, 0, [], 0, 0, (0, 0), false, []),
  (3, .invokevirtual 317, 6, [0, 0, 2, 1, 0, 6], 0, 0, (0, 0), false, []),
  (6, .invokevirtual 163, 6, [0, 1, 2, 1, 0, 6], 0, 0, (0, 0), false, []),
  (9, .ifCond .ne 5, 1, [8], 0, 0, (0, 0), false, []),
  (12, .lconst 0, 0, [], 0, 0, (0, 0), false, []),
  (13, .lreturn, 5, [], 0, 0, (0, 0), false, []),
  (14, .aload_n 0, 0, [], 0, 0, (0, 0), false, []),
  (15, .invokevirtual 373, 6, [0, 2, 1, 0, 0, 6], 0, 0, (0, 0), false, []),
  (18, .aload_n 0, 0, [], 0, 0, (0, 0), false, []),
  (19, .aload_n 0, 0, [], 0, 0, (0, 0), false, []),
  (20, .invokevirtual 110, 6, [0, 3, 1, 1, 0, 6], 0, 0, (0, 0), false, []),
  (23, .iload_n 1, 0, [], 0, 0, (0, 0), false, []),
  (24, .invokevirtual 376, 6, [0, 4, 3, 2, 0, 6], 0, 0, (0, 0), false, []),
  (27, .lreturn, 5, [], 0, 0, (0, 0), false, [])]
def eX6_toursTo : List zm_M := [mX6_isRoom, mX6_passes, mX6_layComes, mX6_whole, mX6_comesTo]
noncomputable def vX6_toursTo : List (zm_M × zm_S) := [(mX6_isRoom, sX6_isRoom), (mX6_passes, sX6_passes), (mX6_layComes, sX6_layComes), (mX6_whole, sX6_whole), (mX6_comesTo, sX6_comesTo)]
noncomputable def sX6_toursTo : zm_S := zsem vX6_toursTo rX6_toursTo 2
set_option maxRecDepth 100000 in
theorem aX6_toursTo : zall RX6 mX6_toursTo eX6_toursTo rX6_toursTo = true := by decide +kernel
set_option maxRecDepth 100000 in
theorem wX6_toursTo : ∀ w ∈ zwds RX6 mX6_toursTo eX6_toursTo rX6_toursTo, w ∈ gT := zwd_of [1549, 1551, 69, 119, 1552, 1312, 1314, 35, 119, 1315, 1723, 1725, 95, 119, 1726, 1635, 1637, 83, 119, 1638, 1727, 1729, 96, 119, 1730] (by decide +kernel) (by decide +kernel) (z7_no (by decide +kernel))
set_option maxRecDepth 100000 in
theorem xX6_toursTo : ∀ w ∈ zwxs RX6 mX6_toursTo eX6_toursTo rX6_toursTo, zspc w = true ∧ w ∈ lw_tbl := by decide +kernel
theorem tX6_toursTo {l : Launch} (hlt : l.stackTraces = false) : MetA l mX6_toursTo sX6_toursTo := zmet (M := mX6_toursTo) (own := RX6) (envM := eX6_toursTo) hlt rfl (by decide +kernel) (by decide +kernel) rfl (fun j q hq => by
  match j, hq with
  | 0, hq => cases hq; exact tX6_isRoom hlt
  | 1, hq => cases hq; exact tX6_passes hlt
  | 2, hq => cases hq; exact tX6_layComes hlt
  | 3, hq => cases hq; exact tX6_whole hlt
  | 4, hq => cases hq; exact tX6_comesTo hlt
  | n + 5, hq => cases hq) aX6_toursTo wX6_toursTo xX6_toursTo rfl
def mX6_reachable : zm_M := (yX6_reachable, cX6_reachable, 4, (some .int), (3, 0, 0, 73), 0, [], (0, 0))
def rX6_reachable : List zm_R := [(0, .aload_n 0, 0, [], 0, 0, (0, 0), false, []),
  (1, .iconst 0, 0, [], 0, 0, (0, 0), false, []),
  (2, .putfield 3, 2, [6, 0, 27, 0], 0, 0, (0, 0), false, []),
  (5, .iconst 1, 0, [], 1, 0, (0, 0), false, []),
  (6, .aload_n 0, 0, [], 0, 0, (0, 0), false, []),
  (7, .getfield 17, 2, [6, 1, 27, 2], 0, 0, (0, 0), false, []),
  (10, .iconst 2, 0, [], 2, 0, (0, 0), false, []),
  (11, .iaload, 3, [0], 0, 0, (0, 0), false, []),
  (12, .ishl, 0, [], 0, 0, (0, 0), false, []),
  (13, .istore_n 1, 0, [], 0, 0, (0, 0), false, []),
  (14, .iconst 0, 0, [], 0, 0, (0, 0), false, []),
  (15, .istore_n 2, 0, [], 0, 0, (0, 0), false, []),
  (16, .iload_n 1, 0, [], 0, 0, (0, 0), true, [3]),
  (17, .iload_n 2, 0, [], 0, 0, (0, 0), false, []),
  (18, .if_icmp .eq 45, 1, [39], 0, 0, (0, 0), false, []),
  (21, .iload_n 1, 0, [], 0, 0, (0, 0), false, []),
  (22, .istore_n 2, 0, [], 0, 0, (0, 0), false, []),
  (23, .iconst 0, 0, [], 0, 0, (0, 0), false, []),
  (24, .istore_n 3, 0, [], 0, 0, (0, 0), false, []),
  (25, .iload_n 3, 0, [], 0, 0, (0, 0), true, []),
  (26, .aload_n 0, 0, [], 0, 0, (0, 0), false, []),
  (27, .invokevirtual 69, 6, [0, 0, 1, 1, 0, 6], 0, 0, (0, 0), false, []),
  (30, .if_icmp .ge 30, 1, [38], 0, 0, (0, 0), false, []),
  (33, .iload_n 1, 0, [], 0, 0, (0, 0), false, []),
  (34, .iload_n 2, 0, [], 0, 0, (0, 0), false, []),
  (35, .iload_n 3, 0, [], 0, 0, (0, 0), false, []),
  (36, .invokestatic 86, 6, [1, 1, 2, 1, 0, 6], 0, 0, (0, 0), false, []),
  (39, .ifCond .eq 12, 1, [33], 0, 0, (0, 0), false, []),
  (42, .aload_n 0, 0, [], 0, 0, (0, 0), false, []),
  (43, .iload_n 3, 0, [], 0, 0, (0, 0), false, []),
  (44, .iload_n 2, 0, [], 0, 0, (0, 0), false, []),
  (45, .invokevirtual 142, 6, [0, 2, 3, 1, 0, 6], 0, 0, (0, 0), false, []),
  (48, .goto 4, 1, [34], 0, 0, (0, 0), false, []),
  (51, .iconst 0, 0, [], 0, 0, (0, 0), false, []),
  (52, .ior, 0, [], 0, 0, (0, 0), false, []),
  (53, .istore_n 1, 0, [], 0, 0, (0, 0), false, []),
  (54, .iinc 3 1, 0, [], 1, 0, (0, 0), false, []),
  (57, .goto (-32), 1, [19], 0, 0, (0, 0), false, []),
  (60, .goto (-44), 1, [12], 0, 0, (0, 0), false, []),
  (63, .iload_n 1, 0, [], 0, 0, (0, 0), false, []),
  (64, .ireturn, 5, [0], 0, 0, (0, 0), false, [])]
def eX6_reachable : List zm_M := [mX6_rooms, mX6_has, mX6_leads]
noncomputable def vX6_reachable : List (zm_M × zm_S) := [(mX6_rooms, sX6_rooms), (mX6_has, sX6_has), (mX6_leads, sX6_leads)]
noncomputable def sX6_reachable : zm_S := zsem vX6_reachable rX6_reachable 4
set_option maxRecDepth 100000 in
theorem aX6_reachable : zall RX6 mX6_reachable eX6_reachable rX6_reachable = true := by decide +kernel
set_option maxRecDepth 100000 in
theorem wX6_reachable : ∀ w ∈ zwds RX6 mX6_reachable eX6_reachable rX6_reachable, w ∈ gT := zwd_of [1226, 1227, 1421, 1423, 46, 119, 1424, 1463, 1464, 119, 1465, 1747, 1749, 97, 119, 1750] (by decide +kernel) (by decide +kernel) (z7_no (by decide +kernel))
set_option maxRecDepth 100000 in
theorem xX6_reachable : ∀ w ∈ zwxs RX6 mX6_reachable eX6_reachable rX6_reachable, zspc w = true ∧ w ∈ lw_tbl := by decide +kernel
theorem tX6_reachable {l : Launch} (hlt : l.stackTraces = false) : MetA l mX6_reachable sX6_reachable := zmet (M := mX6_reachable) (own := RX6) (envM := eX6_reachable) hlt rfl (by decide +kernel) (by decide +kernel) rfl (fun j q hq => by
  match j, hq with
  | 0, hq => cases hq; exact tX6_rooms hlt
  | 1, hq => cases hq; exact tX6_has hlt
  | 2, hq => cases hq; exact tX6_leads hlt
  | n + 3, hq => cases hq) aX6_reachable wX6_reachable xX6_reachable rfl
def mX6_without : zm_M := (yX6_without, cX6_without, 2, (some .long), (6, 0, 0, 142), 1, [], (0, 0))
def rX6_without : List zm_R := [(0, .aload_n 0, 0, [], 0, 0, (0, 0), false, []),
  (1, .iload_n 1, 0, [], 0, 0, (0, 0), false, []),
  (2, .invokestatic 342, 6, [1, 0, 1, 1, 0, 6], 0, 0, (0, 0), false, []),
  (5, .invokevirtual 163, 6, [0, 1, 2, 1, 0, 6], 0, 0, (0, 0), false, []),
  (8, .ifCond .eq 11, 1, [9], 0, 0, (0, 0), false, []),
  (11, .aload_n 0, 0, [], 0, 0, (0, 0), false, []),
  (12, .iload_n 1, 0, [], 0, 0, (0, 0), false, []),
  (13, .invokevirtual 382, 6, [0, 2, 2, 2, 0, 6], 0, 0, (0, 0), false, []),
  (16, .goto 4, 1, [10], 0, 0, (0, 0), false, []),
  (19, .lconst 0, 0, [], 0, 0, (0, 0), false, []),
  (20, .lreturn, 5, [], 0, 0, (0, 0), false, [])]
def eX6_without : List zm_M := [mX6_isKey, mX6_passes, mX6_withoutKey]
noncomputable def vX6_without : List (zm_M × zm_S) := [(mX6_isKey, sX6_isKey), (mX6_passes, sX6_passes), (mX6_withoutKey, sX6_withoutKey)]
noncomputable def sX6_without : zm_S := zsem vX6_without rX6_without 2
set_option maxRecDepth 100000 in
theorem aX6_without : zall RX6 mX6_without eX6_without rX6_without = true := by decide +kernel
set_option maxRecDepth 100000 in
theorem wX6_without : ∀ w ∈ zwds RX6 mX6_without eX6_without rX6_without, w ∈ gT := zwd_of [1595, 1596, 119, 1597, 1312, 1314, 35, 119, 1315, 1755, 1757, 98, 119, 1758] (by decide +kernel) (by decide +kernel) (z7_no (by decide +kernel))
set_option maxRecDepth 100000 in
theorem xX6_without : ∀ w ∈ zwxs RX6 mX6_without eX6_without rX6_without, zspc w = true ∧ w ∈ lw_tbl := by decide +kernel
theorem tX6_without {l : Launch} (hlt : l.stackTraces = false) : MetA l mX6_without sX6_without := zmet (M := mX6_without) (own := RX6) (envM := eX6_without) hlt rfl (by decide +kernel) (by decide +kernel) rfl (fun j q hq => by
  match j, hq with
  | 0, hq => cases hq; exact tX6_isKey hlt
  | 1, hq => cases hq; exact tX6_passes hlt
  | 2, hq => cases hq; exact tX6_withoutKey hlt
  | n + 3, hq => cases hq) aX6_without wX6_without xX6_without rfl
def mX6_neededKeys : zm_M := (yX6_neededKeys, cX6_neededKeys, 4, (some .int), (6, 0, 0, 142), 0, [], (0, 0))
def rX6_neededKeys : List zm_R := [(0, .aload_n 0, 0, [], 0, 0, (0, 0), false, []),
  (1, .iconst 0, 0, [], 0, 0, (0, 0), false, []),
  (2, .putfield 3, 2, [6, 0, 27, 0], 0, 0, (0, 0), false, []),
  (5, .aload_n 0, 0, [], 0, 0, (0, 0), false, []),
  (6, .invokevirtual 148, 6, [0, 0, 1, 2, 0, 6], 0, 0, (0, 0), false, []),
  (9, .lconst 0, 0, [], 0, 0, (0, 0), false, []),
  (10, .lcmp, 0, [], 0, 0, (0, 0), false, []),
  (11, .ifCond .le 7, 1, [10], 0, 0, (0, 0), false, []),
  (14, .iconst 1, 0, [], 1, 0, (0, 0), false, []),
  (15, .goto 4, 1, [11], 0, 0, (0, 0), false, []),
  (18, .iconst 0, 0, [], 0, 0, (0, 0), false, []),
  (19, .istore_n 1, 0, [], 0, 0, (0, 0), false, []),
  (20, .iconst 0, 0, [], 0, 0, (0, 0), false, []),
  (21, .istore_n 2, 0, [], 0, 0, (0, 0), false, []),
  (22, .iconst 0, 0, [], 0, 0, (0, 0), false, []),
  (23, .istore_n 3, 0, [], 0, 0, (0, 0), false, []),
  (24, .iload_n 3, 0, [], 0, 0, (0, 0), true, []),
  (25, .bipush 8, 0, [], 8, 0, (0, 0), false, []),
  (27, .if_icmp .ge 33, 1, [37], 0, 0, (0, 0), false, []),
  (30, .iload_n 1, 0, [], 0, 0, (0, 0), false, []),
  (31, .ifCond .eq 29, 1, [37], 0, 0, (0, 0), false, []),
  (34, .iload_n 2, 0, [], 0, 0, (0, 0), false, []),
  (35, .aload_n 0, 0, [], 0, 0, (0, 0), false, []),
  (36, .iload_n 3, 0, [], 0, 0, (0, 0), false, []),
  (37, .invokevirtual 382, 6, [0, 1, 2, 2, 0, 6], 0, 0, (0, 0), false, []),
  (40, .lconst 0, 0, [], 0, 0, (0, 0), false, []),
  (41, .lcmp, 0, [], 0, 0, (0, 0), false, []),
  (42, .ifCond .ne 9, 1, [32], 0, 0, (0, 0), false, []),
  (45, .iconst 1, 0, [], 1, 0, (0, 0), false, []),
  (46, .iload_n 3, 0, [], 0, 0, (0, 0), false, []),
  (47, .ishl, 0, [], 0, 0, (0, 0), false, []),
  (48, .goto 4, 1, [33], 0, 0, (0, 0), false, []),
  (51, .iconst 0, 0, [], 0, 0, (0, 0), false, []),
  (52, .ior, 0, [], 0, 0, (0, 0), false, []),
  (53, .istore_n 2, 0, [], 0, 0, (0, 0), false, []),
  (54, .iinc 3 1, 0, [], 1, 0, (0, 0), false, []),
  (57, .goto (-33), 1, [16], 0, 0, (0, 0), false, []),
  (60, .iload_n 2, 0, [], 0, 0, (0, 0), false, []),
  (61, .ireturn, 5, [0], 0, 0, (0, 0), false, [])]
def eX6_neededKeys : List zm_M := [mX6_toursNow, mX6_withoutKey]
noncomputable def vX6_neededKeys : List (zm_M × zm_S) := [(mX6_toursNow, sX6_toursNow), (mX6_withoutKey, sX6_withoutKey)]
noncomputable def sX6_neededKeys : zm_S := zsem vX6_neededKeys rX6_neededKeys 4
set_option maxRecDepth 100000 in
theorem aX6_neededKeys : zall RX6 mX6_neededKeys eX6_neededKeys rX6_neededKeys = true := by decide +kernel
set_option maxRecDepth 100000 in
theorem wX6_neededKeys : ∀ w ∈ zwds RX6 mX6_neededKeys eX6_neededKeys rX6_neededKeys, w ∈ gT := zwd_of [1226, 1623, 1625, 80, 119, 1626, 1755, 1757, 98, 119, 1758] (by decide +kernel) (by decide +kernel) (z7_no (by decide +kernel))
set_option maxRecDepth 100000 in
theorem xX6_neededKeys : ∀ w ∈ zwxs RX6 mX6_neededKeys eX6_neededKeys rX6_neededKeys, zspc w = true ∧ w ∈ lw_tbl := by decide +kernel
theorem tX6_neededKeys {l : Launch} (hlt : l.stackTraces = false) : MetA l mX6_neededKeys sX6_neededKeys := zmet (M := mX6_neededKeys) (own := RX6) (envM := eX6_neededKeys) hlt rfl (by decide +kernel) (by decide +kernel) rfl (fun j q hq => by
  match j, hq with
  | 0, hq => cases hq; exact tX6_toursNow hlt
  | 1, hq => cases hq; exact tX6_withoutKey hlt
  | n + 2, hq => cases hq) aX6_neededKeys wX6_neededKeys xX6_neededKeys rfl
def mX6_toursWithout : zm_M := (yX6_toursWithout, cX6_toursWithout, 2, (some .long), (6, 0, 0, 141), 1, [], (0, 0))
def rX6_toursWithout : List zm_R := [(0, .aload_n 0, 0, [], 0, 0, (0, 0), false, []),
  (1, .aload_n 0, 0, [], 0, 0, (0, 0), false, []),
  (2, .iload_n 1, 0, [], 0, 0, (0, 0), false, []),
  (3, .invokevirtual 334, 6, [0, 0, 2, 1, 0, 6], 0, 0, (0, 0), false, []),
  (6, .invokevirtual 163, 6, [0, 1, 2, 1, 0, 6], 0, 0, (0, 0), false, []),
  (9, .ifCond .eq 11, 1, [10], 0, 0, (0, 0), false, []),
  (12, .aload_n 0, 0, [], 0, 0, (0, 0), false, []),
  (13, .iload_n 1, 0, [], 0, 0, (0, 0), false, []),
  (14, .invokevirtual 385, 6, [0, 2, 2, 2, 0, 6], 0, 0, (0, 0), false, []),
  (17, .goto 4, 1, [11], 0, 0, (0, 0), false, []),
  (20, .lconst 0, 0, [], 0, 0, (0, 0), false, []),
  (21, .lreturn, 5, [], 0, 0, (0, 0), false, [])]
def eX6_toursWithout : List zm_M := [mX6_isDoor, mX6_passes, mX6_withoutDoor]
noncomputable def vX6_toursWithout : List (zm_M × zm_S) := [(mX6_isDoor, sX6_isDoor), (mX6_passes, sX6_passes), (mX6_withoutDoor, sX6_withoutDoor)]
noncomputable def sX6_toursWithout : zm_S := zsem vX6_toursWithout rX6_toursWithout 2
set_option maxRecDepth 100000 in
theorem aX6_toursWithout : zall RX6 mX6_toursWithout eX6_toursWithout rX6_toursWithout = true := by decide +kernel
set_option maxRecDepth 100000 in
theorem wX6_toursWithout : ∀ w ∈ zwds RX6 mX6_toursWithout eX6_toursWithout rX6_toursWithout, w ∈ gT := zwd_of [1574, 1576, 74, 119, 1577, 1312, 1314, 35, 119, 1315, 1775, 1777, 101, 119, 1778] (by decide +kernel) (by decide +kernel) (z7_no (by decide +kernel))
set_option maxRecDepth 100000 in
theorem xX6_toursWithout : ∀ w ∈ zwxs RX6 mX6_toursWithout eX6_toursWithout rX6_toursWithout, zspc w = true ∧ w ∈ lw_tbl := by decide +kernel
theorem tX6_toursWithout {l : Launch} (hlt : l.stackTraces = false) : MetA l mX6_toursWithout sX6_toursWithout := zmet (M := mX6_toursWithout) (own := RX6) (envM := eX6_toursWithout) hlt rfl (by decide +kernel) (by decide +kernel) rfl (fun j q hq => by
  match j, hq with
  | 0, hq => cases hq; exact tX6_isDoor hlt
  | 1, hq => cases hq; exact tX6_passes hlt
  | 2, hq => cases hq; exact tX6_withoutDoor hlt
  | n + 3, hq => cases hq) aX6_toursWithout wX6_toursWithout xX6_toursWithout rfl
def mX6_neededDoors : zm_M := (yX6_neededDoors, cX6_neededDoors, 4, (some .int), (6, 0, 0, 141), 0, [], (0, 0))
def rX6_neededDoors : List zm_R := [(0, .aload_n 0, 0, [], 0, 0, (0, 0), false, []),
  (1, .iconst 0, 0, [], 0, 0, (0, 0), false, []),
  (2, .putfield 3, 2, [6, 0, 27, 0], 0, 0, (0, 0), false, []),
  (5, .aload_n 0, 0, [], 0, 0, (0, 0), false, []),
  (6, .invokevirtual 148, 6, [0, 0, 1, 2, 0, 6], 0, 0, (0, 0), false, []),
  (9, .lconst 0, 0, [], 0, 0, (0, 0), false, []),
  (10, .lcmp, 0, [], 0, 0, (0, 0), false, []),
  (11, .ifCond .le 7, 1, [10], 0, 0, (0, 0), false, []),
  (14, .iconst 1, 0, [], 1, 0, (0, 0), false, []),
  (15, .goto 4, 1, [11], 0, 0, (0, 0), false, []),
  (18, .iconst 0, 0, [], 0, 0, (0, 0), false, []),
  (19, .istore_n 1, 0, [], 0, 0, (0, 0), false, []),
  (20, .iconst 0, 0, [], 0, 0, (0, 0), false, []),
  (21, .istore_n 2, 0, [], 0, 0, (0, 0), false, []),
  (22, .iconst 0, 0, [], 0, 0, (0, 0), false, []),
  (23, .istore_n 3, 0, [], 0, 0, (0, 0), false, []),
  (24, .iload_n 3, 0, [], 0, 0, (0, 0), true, []),
  (25, .aload_n 0, 0, [], 0, 0, (0, 0), false, []),
  (26, .invokevirtual 77, 6, [0, 1, 1, 1, 0, 6], 0, 0, (0, 0), false, []),
  (29, .if_icmp .ge 33, 1, [38], 0, 0, (0, 0), false, []),
  (32, .iload_n 1, 0, [], 0, 0, (0, 0), false, []),
  (33, .ifCond .eq 29, 1, [38], 0, 0, (0, 0), false, []),
  (36, .iload_n 2, 0, [], 0, 0, (0, 0), false, []),
  (37, .aload_n 0, 0, [], 0, 0, (0, 0), false, []),
  (38, .iload_n 3, 0, [], 0, 0, (0, 0), false, []),
  (39, .invokevirtual 385, 6, [0, 2, 2, 2, 0, 6], 0, 0, (0, 0), false, []),
  (42, .lconst 0, 0, [], 0, 0, (0, 0), false, []),
  (43, .lcmp, 0, [], 0, 0, (0, 0), false, []),
  (44, .ifCond .ne 9, 1, [33], 0, 0, (0, 0), false, []),
  (47, .iconst 1, 0, [], 1, 0, (0, 0), false, []),
  (48, .iload_n 3, 0, [], 0, 0, (0, 0), false, []),
  (49, .ishl, 0, [], 0, 0, (0, 0), false, []),
  (50, .goto 4, 1, [34], 0, 0, (0, 0), false, []),
  (53, .iconst 0, 0, [], 0, 0, (0, 0), false, []),
  (54, .ior, 0, [], 0, 0, (0, 0), false, []),
  (55, .istore_n 2, 0, [], 0, 0, (0, 0), false, []),
  (56, .iinc 3 1, 0, [], 1, 0, (0, 0), false, []),
  (59, .goto (-35), 1, [16], 0, 0, (0, 0), false, []),
  (62, .iload_n 2, 0, [], 0, 0, (0, 0), false, []),
  (63, .ireturn, 5, [0], 0, 0, (0, 0), false, [])]
def eX6_neededDoors : List zm_M := [mX6_toursNow, mX6_doors, mX6_withoutDoor]
noncomputable def vX6_neededDoors : List (zm_M × zm_S) := [(mX6_toursNow, sX6_toursNow), (mX6_doors, sX6_doors), (mX6_withoutDoor, sX6_withoutDoor)]
noncomputable def sX6_neededDoors : zm_S := zsem vX6_neededDoors rX6_neededDoors 4
set_option maxRecDepth 100000 in
theorem aX6_neededDoors : zall RX6 mX6_neededDoors eX6_neededDoors rX6_neededDoors = true := by decide +kernel
set_option maxRecDepth 100000 in
theorem wX6_neededDoors : ∀ w ∈ zwds RX6 mX6_neededDoors eX6_neededDoors rX6_neededDoors, w ∈ gT := zwd_of [1226, 1623, 1625, 80, 119, 1626, 1482, 1484, 58, 119, 1485, 1775, 1777, 101, 119, 1778] (by decide +kernel) (by decide +kernel) (z7_no (by decide +kernel))
set_option maxRecDepth 100000 in
theorem xX6_neededDoors : ∀ w ∈ zwxs RX6 mX6_neededDoors eX6_neededDoors rX6_neededDoors, zspc w = true ∧ w ∈ lw_tbl := by decide +kernel
theorem tX6_neededDoors {l : Launch} (hlt : l.stackTraces = false) : MetA l mX6_neededDoors sX6_neededDoors := zmet (M := mX6_neededDoors) (own := RX6) (envM := eX6_neededDoors) hlt rfl (by decide +kernel) (by decide +kernel) rfl (fun j q hq => by
  match j, hq with
  | 0, hq => cases hq; exact tX6_toursNow hlt
  | 1, hq => cases hq; exact tX6_doors hlt
  | 2, hq => cases hq; exact tX6_withoutDoor hlt
  | n + 3, hq => cases hq) aX6_neededDoors wX6_neededDoors xX6_neededDoors rfl
def mX6_toursIfOpen : zm_M := (yX6_toursIfOpen, cX6_toursIfOpen, 2, (some .long), (6, 0, 0, 141), 1, [], (0, 0))
def rX6_toursIfOpen : List zm_R := [(0, .aload_n 0, 0, [], 0, 0, (0, 0), false, []),
  (1, .aload_n 0, 0, [], 0, 0, (0, 0), false, []),
  (2, .iload_n 1, 0, [], 0, 0, (0, 0), false, []),
  (3, .invokevirtual 334, 6, [0, 0, 2, 1, 0, 6], 0, 0, (0, 0), false, []),
  (6, .invokevirtual 163, 6, [0, 1, 2, 1, 0, 6], 0, 0, (0, 0), false, []),
  (9, .ifCond .eq 11, 1, [10], 0, 0, (0, 0), false, []),
  (12, .aload_n 0, 0, [], 0, 0, (0, 0), false, []),
  (13, .iload_n 1, 0, [], 0, 0, (0, 0), false, []),
  (14, .invokevirtual 388, 6, [0, 2, 2, 2, 0, 6], 0, 0, (0, 0), false, []),
  (17, .goto 4, 1, [11], 0, 0, (0, 0), false, []),
  (20, .lconst 0, 0, [], 0, 0, (0, 0), false, []),
  (21, .lreturn, 5, [], 0, 0, (0, 0), false, [])]
def eX6_toursIfOpen : List zm_M := [mX6_isDoor, mX6_passes, mX6_withOpen]
noncomputable def vX6_toursIfOpen : List (zm_M × zm_S) := [(mX6_isDoor, sX6_isDoor), (mX6_passes, sX6_passes), (mX6_withOpen, sX6_withOpen)]
noncomputable def sX6_toursIfOpen : zm_S := zsem vX6_toursIfOpen rX6_toursIfOpen 2
set_option maxRecDepth 100000 in
theorem aX6_toursIfOpen : zall RX6 mX6_toursIfOpen eX6_toursIfOpen rX6_toursIfOpen = true := by decide +kernel
set_option maxRecDepth 100000 in
theorem wX6_toursIfOpen : ∀ w ∈ zwds RX6 mX6_toursIfOpen eX6_toursIfOpen rX6_toursIfOpen, w ∈ gT := zwd_of [1574, 1576, 74, 119, 1577, 1312, 1314, 35, 119, 1315, 1791, 1793, 103, 119, 1794] (by decide +kernel) (by decide +kernel) (z7_no (by decide +kernel))
set_option maxRecDepth 100000 in
theorem xX6_toursIfOpen : ∀ w ∈ zwxs RX6 mX6_toursIfOpen eX6_toursIfOpen rX6_toursIfOpen, zspc w = true ∧ w ∈ lw_tbl := by decide +kernel
theorem tX6_toursIfOpen {l : Launch} (hlt : l.stackTraces = false) : MetA l mX6_toursIfOpen sX6_toursIfOpen := zmet (M := mX6_toursIfOpen) (own := RX6) (envM := eX6_toursIfOpen) hlt rfl (by decide +kernel) (by decide +kernel) rfl (fun j q hq => by
  match j, hq with
  | 0, hq => cases hq; exact tX6_isDoor hlt
  | 1, hq => cases hq; exact tX6_passes hlt
  | 2, hq => cases hq; exact tX6_withOpen hlt
  | n + 3, hq => cases hq) aX6_toursIfOpen wX6_toursIfOpen xX6_toursIfOpen rfl
def mX6_bestDoor : zm_M := (yX6_bestDoor, cX6_bestDoor, 7, (some .int), (6, 0, 0, 141), 0, [], (0, 0))
def rX6_bestDoor : List zm_R := [(0, .aload_n 0, 0, [], 0, 0, (0, 0), false, []),
  (1, .iconst 0, 0, [], 0, 0, (0, 0), false, []),
  (2, .putfield 3, 2, [6, 0, 27, 0], 0, 0, (0, 0), false, []),
  (5, .iconst (-1), 0, [], (-1), 0, (0, 0), false, []),
  (6, .istore_n 1, 0, [], 0, 0, (0, 0), false, []),
  (7, .ldc2_w 368, 9, [1], 0, (-1), (0, 0), false, []),
  (10, .lstore_n 2, 0, [], 0, 0, (0, 0), false, []),
  (11, .iconst 0, 0, [], 0, 0, (0, 0), false, []),
  (12, .istore 4, 0, [], 0, 0, (0, 0), false, []),
  (14, .iload 4, 0, [], 0, 0, (0, 0), true, [3, 5, 6]),
  (16, .aload_n 0, 0, [], 0, 0, (0, 0), false, []),
  (17, .invokevirtual 77, 6, [0, 0, 1, 1, 0, 6], 0, 0, (0, 0), false, []),
  (20, .if_icmp .ge 38, 1, [31], 0, 0, (0, 0), false, []),
  (23, .aload_n 0, 0, [], 0, 0, (0, 0), false, []),
  (24, .iload 4, 0, [], 0, 0, (0, 0), false, []),
  (26, .invokevirtual 388, 6, [0, 1, 2, 2, 0, 6], 0, 0, (0, 0), false, []),
  (29, .lstore 5, 0, [], 0, 0, (0, 0), false, []),
  (31, .lload 5, 0, [], 0, 0, (0, 0), false, []),
  (33, .lload_n 2, 0, [], 0, 0, (0, 0), false, []),
  (34, .lcmp, 0, [], 0, 0, (0, 0), false, []),
  (35, .ifCond .le 8, 1, [23], 0, 0, (0, 0), false, []),
  (38, .iload 4, 0, [], 0, 0, (0, 0), false, []),
  (40, .goto 4, 1, [24], 0, 0, (0, 0), false, []),
  (43, .iload_n 1, 0, [], 0, 0, (0, 0), false, []),
  (44, .istore_n 1, 0, [], 0, 0, (0, 0), false, []),
  (45, .lload_n 2, 0, [], 0, 0, (0, 0), false, []),
  (46, .lload 5, 0, [], 0, 0, (0, 0), false, []),
  (48, .invokestatic 391, 13, [2], 0, 0, (0, 0), false, []),
  (51, .lstore_n 2, 0, [], 0, 0, (0, 0), false, []),
  (52, .iinc 4 1, 0, [], 1, 0, (0, 0), false, []),
  (55, .goto (-41), 1, [9], 0, 0, (0, 0), false, []),
  (58, .iload_n 1, 0, [], 0, 0, (0, 0), false, []),
  (59, .ireturn, 5, [0], 0, 0, (0, 0), false, [])]
def eX6_bestDoor : List zm_M := [mX6_doors, mX6_withOpen]
noncomputable def vX6_bestDoor : List (zm_M × zm_S) := [(mX6_doors, sX6_doors), (mX6_withOpen, sX6_withOpen)]
noncomputable def sX6_bestDoor : zm_S := zsem vX6_bestDoor rX6_bestDoor 7
set_option maxRecDepth 100000 in
theorem aX6_bestDoor : zall RX6 mX6_bestDoor eX6_bestDoor rX6_bestDoor = true := by decide +kernel
set_option maxRecDepth 100000 in
theorem wX6_bestDoor : ∀ w ∈ zwds RX6 mX6_bestDoor eX6_bestDoor rX6_bestDoor, w ∈ gT := zwd_of [1226, 1699, 1482, 1484, 58, 119, 1485, 1791, 1793, 103, 119, 1794, 1799, 1800, 126, 1801] (by decide +kernel) (by decide +kernel) (z7_no (by decide +kernel))
set_option maxRecDepth 100000 in
theorem xX6_bestDoor : ∀ w ∈ zwxs RX6 mX6_bestDoor eX6_bestDoor rX6_bestDoor, zspc w = true ∧ w ∈ lw_tbl := by decide +kernel
theorem tX6_bestDoor {l : Launch} (hlt : l.stackTraces = false) : MetA l mX6_bestDoor sX6_bestDoor := zmet (M := mX6_bestDoor) (own := RX6) (envM := eX6_bestDoor) hlt rfl (by decide +kernel) (by decide +kernel) rfl (fun j q hq => by
  match j, hq with
  | 0, hq => cases hq; exact tX6_doors hlt
  | 1, hq => cases hq; exact tX6_withOpen hlt
  | n + 2, hq => cases hq) aX6_bestDoor wX6_bestDoor xX6_bestDoor rfl
def mX6_areTwo : zm_M := (yX6_areTwo, cX6_areTwo, 3, (some .boolean), (2, 0, 0, 46), 2, [], (0, 0))
def rX6_areTwo : List zm_R := [(0, .aload_n 0, 0, [], 0, 0, (0, 0), false, []),
  (1, .iload_n 1, 0, [], 0, 0, (0, 0), false, []),
  (2, .invokevirtual 317, 6, [0, 0, 2, 1, 0, 6], 0, 0, (0, 0), false, []),
  (5, .ifCond .eq 15, 1, [10], 0, 0, (0, 0), false, []),
  (8, .aload_n 0, 0, [], 0, 0, (0, 0), false, []),
  (9, .iload_n 2, 0, [], 0, 0, (0, 0), false, []),
  (10, .invokevirtual 317, 6, [0, 0, 2, 1, 0, 6], 0, 0, (0, 0), false, []),
  (13, .ifCond .eq 7, 1, [10], 0, 0, (0, 0), false, []),
  (16, .iconst 1, 0, [], 1, 0, (0, 0), false, []),
  (17, .goto 4, 1, [11], 0, 0, (0, 0), false, []),
  (20, .iconst 0, 0, [], 0, 0, (0, 0), false, []),
  (21, .ireturn, 5, [1], 0, 0, (0, 0), false, [])]
def eX6_areTwo : List zm_M := [mX6_isRoom]
noncomputable def vX6_areTwo : List (zm_M × zm_S) := [(mX6_isRoom, sX6_isRoom)]
noncomputable def sX6_areTwo : zm_S := zsem vX6_areTwo rX6_areTwo 3
set_option maxRecDepth 100000 in
theorem aX6_areTwo : zall RX6 mX6_areTwo eX6_areTwo rX6_areTwo = true := by decide +kernel
set_option maxRecDepth 100000 in
theorem wX6_areTwo : ∀ w ∈ zwds RX6 mX6_areTwo eX6_areTwo rX6_areTwo, w ∈ gT := zwd_of [1549, 1551, 69, 119, 1552, 1549, 1551, 69, 119, 1552] (by decide +kernel) (by decide +kernel) (z7_no (by decide +kernel))
set_option maxRecDepth 100000 in
theorem xX6_areTwo : ∀ w ∈ zwxs RX6 mX6_areTwo eX6_areTwo rX6_areTwo, zspc w = true ∧ w ∈ lw_tbl := by decide +kernel
theorem tX6_areTwo {l : Launch} (hlt : l.stackTraces = false) : MetA l mX6_areTwo sX6_areTwo := zmet (M := mX6_areTwo) (own := RX6) (envM := eX6_areTwo) hlt rfl (by decide +kernel) (by decide +kernel) rfl (fun j q hq => by
  match j, hq with
  | 0, hq => cases hq; exact tX6_isRoom hlt
  | n + 1, hq => cases hq) aX6_areTwo wX6_areTwo xX6_areTwo rfl
def mX6_ahead : zm_M := (yX6_ahead, cX6_ahead, 3, (some .long), (4, 0, 0, 100), 2, [], (0, 0))
def rX6_ahead : List zm_R := [(0, .aload_n 0, 0, [], 0, 0, (0, 0), false, []),
  (1, .aload_n 0, 0, [], 0, 0, (0, 0), false, []),
  (2, .iload_n 1, 0, [], 0, 0, (0, 0), false, []),
  (3, .iload_n 2, 0, [], 0, 0, (0, 0), false, []),
  (4, .invokevirtual 394, 6, [0, 0, 3, 1, 0, 6], 0, 0, (0, 0), false, []),
  (7, .iload_n 1, 0, [], 0, 0, (0, 0), false, []),
  (8, .iload_n 2, 0, [], 0, 0, (0, 0), false, []),
  (9, .if_icmp .eq 7, 1, [10], 0, 0, (0, 0), false, []),
  (12, .iconst 1, 0, [], 1, 0, (0, 0), false, []),
  (13, .goto 4, 1, [11], 0, 0, (0, 0), false, []),
  (16, .iconst 0, 0, [], 0, 0, (0, 0), false, []),
  (17, .invokevirtual 323, 6, [0, 1, 3, 1, 0, 6], 0, 0, (0, 0), false, []),
  (20, .ifCond .ne 5, 1, [15], 0, 0, (0, 0), false, []),
  (23, .lconst 0, 0, [], 0, 0, (0, 0), false, []),
  (24, .lreturn, 5, [], 0, 0, (0, 0), false, []),
  (25, .aload_n 0, 0, [], 0, 0, (0, 0), false, []),
  (26, .aload_n 0, 0, [], 0, 0, (0, 0), false, []),
  (27, .getfield 17, 2, [6, 1, 27, 2], 0, 0, (0, 0), false, []),
  (30, .iconst 3, 0, [], 3, 0, (0, 0), false, []),
  (31, .iaload, 3, [0], 0, 0, (0, 0), false, []),
  (32, .iload_n 1, 0, [], 0, 0, (0, 0), false, []),
  (33, .iload_n 2, 0, [], 0, 0, (0, 0), false, []),
  (34, .invokevirtual 127, 6, [0, 2, 4, 0, 0, 6], 0, 0, (0, 0), false, []),
  (37, .aload_n 0, 0, [], 0, 0, (0, 0), false, []),
  (38, .getfield 17, 2, [6, 1, 27, 2], 0, 0, (0, 0), false, []),
  (41, .iconst 2, 0, [], 2, 0, (0, 0), false, []),
  (42, .iaload, 3, [0], 0, 0, (0, 0), false, []),
  (43, .iload_n 2, 0, [], 0, 0, (0, 0), false, []),
  (44, .if_icmp .ne 7, 1, [31], 0, 0, (0, 0), false, []),
  (47, .lconst 0, 0, [], 0, 0, (0, 0), false, []),
  (48, .goto 13, 1, [37], 0, 0, (0, 0), false, []),
  (51, .aload_n 0, 0, [], 0, 0, (0, 0), false, []),
  (52, .aload_n 0, 0, [], 0, 0, (0, 0), false, []),
  (53, .getfield 17, 2, [6, 1, 27, 2], 0, 0, (0, 0), false, []),
  (56, .iconst 2, 0, [], 2, 0, (0, 0), false, []),
  (57, .iaload, 3, [0], 0, 0, (0, 0), false, []),
  (58, .invokevirtual 130, 6, [0, 3, 2, 2, 0, 6], 0, 0, (0, 0), false, []),
  (61, .lreturn, 5, [], 0, 0, (0, 0), false, [])]
def eX6_ahead : List zm_M := [mX6_areTwo, mX6_passes2, mX6_layWays, mX6_toursFromRoom]
noncomputable def vX6_ahead : List (zm_M × zm_S) := [(mX6_areTwo, sX6_areTwo), (mX6_passes2, sX6_passes2), (mX6_layWays, sX6_layWays), (mX6_toursFromRoom, sX6_toursFromRoom)]
noncomputable def sX6_ahead : zm_S := zsem vX6_ahead rX6_ahead 3
set_option maxRecDepth 100000 in
theorem aX6_ahead : zall RX6 mX6_ahead eX6_ahead rX6_ahead = true := by decide +kernel
set_option maxRecDepth 100000 in
theorem wX6_ahead : ∀ w ∈ zwds RX6 mX6_ahead eX6_ahead rX6_ahead, w ∈ gT := zwd_of [1806, 1808, 104, 119, 1809, 1554, 1556, 70, 119, 1557, 1227, 1627, 1629, 81, 119, 1630, 1227, 1227, 1647, 1649, 86, 119, 1650] (by decide +kernel) (by decide +kernel) (z7_no (by decide +kernel))
set_option maxRecDepth 100000 in
theorem xX6_ahead : ∀ w ∈ zwxs RX6 mX6_ahead eX6_ahead rX6_ahead, zspc w = true ∧ w ∈ lw_tbl := by decide +kernel
theorem tX6_ahead {l : Launch} (hlt : l.stackTraces = false) : MetA l mX6_ahead sX6_ahead := zmet (M := mX6_ahead) (own := RX6) (envM := eX6_ahead) hlt rfl (by decide +kernel) (by decide +kernel) rfl (fun j q hq => by
  match j, hq with
  | 0, hq => cases hq; exact tX6_areTwo hlt
  | 1, hq => cases hq; exact tX6_passes2 hlt
  | 2, hq => cases hq; exact tX6_layWays hlt
  | 3, hq => cases hq; exact tX6_toursFromRoom hlt
  | n + 4, hq => cases hq) aX6_ahead wX6_ahead xX6_ahead rfl
def mX6_timesAt : zm_M := (yX6_timesAt, cX6_timesAt, 8, (some .long), (5, 0, 0, 120), 2, [], (0, 0))
def rX6_timesAt : List zm_R := [(0, .aload_n 0, 0, [], 0, 0, (0, 0), false, []),
  (1, .invokevirtual 148, 6, [0, 0, 1, 2, 0, 6], 0, 0, (0, 0), false, []),
  (4, .lstore_n 3, 0, [], 0, 0, (0, 0), false, []),
  (5, .aload_n 0, 0, [], 0, 0, (0, 0), false, []),
  (6, .invokevirtual 373, 6, [0, 1, 1, 0, 0, 6], 0, 0, (0, 0), false, []),
  (9, .lconst 0, 0, [], 0, 0, (0, 0), false, []),
  (10, .lstore 5, 0, [], 0, 0, (0, 0), false, []),
  (12, .iconst 1, 0, [], 1, 0, (0, 0), false, []),
  (13, .istore 7, 0, [], 0, 0, (0, 0), false, []),
  (15, .iload 7, 0, [], 0, 0, (0, 0), true, [3, 4, 6]),
  (17, .aload_n 0, 0, [], 0, 0, (0, 0), false, []),
  (18, .invokevirtual 110, 6, [0, 2, 1, 1, 0, 6], 0, 0, (0, 0), false, []),
  (21, .if_icmp .gt 53, 1, [39], 0, 0, (0, 0), false, []),
  (24, .lload 5, 0, [], 0, 0, (0, 0), false, []),
  (26, .iload 7, 0, [], 0, 0, (0, 0), false, []),
  (28, .iload_n 1, 0, [], 0, 0, (0, 0), false, []),
  (29, .invokestatic 86, 6, [1, 3, 2, 1, 0, 6], 0, 0, (0, 0), false, []),
  (32, .ifCond .eq 32, 1, [34], 0, 0, (0, 0), false, []),
  (35, .iload 7, 0, [], 0, 0, (0, 0), false, []),
  (37, .invokestatic 134, 6, [1, 4, 1, 1, 0, 6], 0, 0, (0, 0), false, []),
  (40, .iload_n 2, 0, [], 0, 0, (0, 0), false, []),
  (41, .iconst 1, 0, [], 1, 0, (0, 0), false, []),
  (42, .iadd, 0, [], 0, 0, (0, 0), false, []),
  (43, .if_icmp .ne 21, 1, [34], 0, 0, (0, 0), false, []),
  (46, .aload_n 0, 0, [], 0, 0, (0, 0), false, []),
  (47, .iload 7, 0, [], 0, 0, (0, 0), false, []),
  (49, .iload_n 1, 0, [], 0, 0, (0, 0), false, []),
  (50, .invokevirtual 376, 6, [0, 5, 3, 2, 0, 6], 0, 0, (0, 0), false, []),
  (53, .aload_n 0, 0, [], 0, 0, (0, 0), false, []),
  (54, .iload 7, 0, [], 0, 0, (0, 0), false, []),
  (56, .iload_n 1, 0, [], 0, 0, (0, 0), false, []),
  (57, .invokevirtual 123, 6, [0, 6, 3, 2, 0, 6], 0, 0, (0, 0), false, []),
  (60, .lmul, 0, [], 0, 0, (0, 0), false, []),
  (61, .goto 4, 1, [35], 0, 0, (0, 0), false, []),
  (64, .lconst 0, 0, [], 0, 0, (0, 0), false, []),
  (65, .ladd, 0, [], 0, 0, (0, 0), false, []),
  (66, .lstore 5, 0, [], 0, 0, (0, 0), false, []),
  (68, .iinc 7 1, 0, [], 1, 0, (0, 0), false, []),
  (71, .goto (-56), 1, [9], 0, 0, (0, 0), false, []),
  (74, .lload 5, 0, [], 0, 0, (0, 0), false, []),
  (76, .lreturn, 5, [], 0, 0, (0, 0), false, [])]
def eX6_timesAt : List zm_M := [mX6_toursNow, mX6_layComes, mX6_whole, mX6_has, mX6_ones, mX6_comesTo, mX6_waysOf]
noncomputable def vX6_timesAt : List (zm_M × zm_S) := [(mX6_toursNow, sX6_toursNow), (mX6_layComes, sX6_layComes), (mX6_whole, sX6_whole), (mX6_has, sX6_has), (mX6_ones, sX6_ones), (mX6_comesTo, sX6_comesTo), (mX6_waysOf, sX6_waysOf)]
noncomputable def sX6_timesAt : zm_S := zsem vX6_timesAt rX6_timesAt 8
set_option maxRecDepth 100000 in
theorem aX6_timesAt : zall RX6 mX6_timesAt eX6_timesAt rX6_timesAt = true := by decide +kernel
set_option maxRecDepth 100000 in
theorem wX6_timesAt : ∀ w ∈ zwds RX6 mX6_timesAt eX6_timesAt rX6_timesAt, w ∈ gT := zwd_of [1623, 1625, 80, 119, 1626, 1723, 1725, 95, 119, 1726, 1635, 1637, 83, 119, 1638, 1463, 1464, 119, 1465, 1708, 1709, 119, 1710, 1727, 1729, 96, 119, 1730, 1651, 1653, 87, 119, 1654] (by decide +kernel) (by decide +kernel) (z7_no (by decide +kernel))
set_option maxRecDepth 100000 in
theorem xX6_timesAt : ∀ w ∈ zwxs RX6 mX6_timesAt eX6_timesAt rX6_timesAt, zspc w = true ∧ w ∈ lw_tbl := by decide +kernel
theorem tX6_timesAt {l : Launch} (hlt : l.stackTraces = false) : MetA l mX6_timesAt sX6_timesAt := zmet (M := mX6_timesAt) (own := RX6) (envM := eX6_timesAt) hlt rfl (by decide +kernel) (by decide +kernel) rfl (fun j q hq => by
  match j, hq with
  | 0, hq => cases hq; exact tX6_toursNow hlt
  | 1, hq => cases hq; exact tX6_layComes hlt
  | 2, hq => cases hq; exact tX6_whole hlt
  | 3, hq => cases hq; exact tX6_has hlt
  | 4, hq => cases hq; exact tX6_ones hlt
  | 5, hq => cases hq; exact tX6_comesTo hlt
  | 6, hq => cases hq; exact tX6_waysOf hlt
  | n + 7, hq => cases hq) aX6_timesAt wX6_timesAt xX6_timesAt rfl
def mX6_atPlace : zm_M := (yX6_atPlace, cX6_atPlace, 3, (some .long), (6, 0, 0, 147), 2, [], (0, 0))
def rX6_atPlace : List zm_R := [(0, .aload_n 0, 0, [], 0, 0, (0, 0), false, []),
  (1, .aload_n 0, 0, [], 0, 0, (0, 0), false, []),
  (2, .iload_n 1, 0, [], 0, 0, (0, 0), false, []),
  (3, .invokevirtual 317, 6, [0, 0, 2, 1, 0, 6], 0, 0, (0, 0), false, []),
  (6, .aload_n 0, 0, [], 0, 0, (0, 0), false, []),
  (7, .iload_n 2, 0, [], 0, 0, (0, 0), false, []),
  (8, .invokevirtual 317, 6, [0, 0, 2, 1, 0, 6], 0, 0, (0, 0), false, []),
  (11, .invokevirtual 323, 6, [0, 1, 3, 1, 0, 6], 0, 0, (0, 0), false, []),
  (14, .ifCond .eq 12, 1, [14], 0, 0, (0, 0), false, []),
  (17, .aload_n 0, 0, [], 0, 0, (0, 0), false, []),
  (18, .iload_n 1, 0, [], 0, 0, (0, 0), false, []),
  (19, .iload_n 2, 0, [], 0, 0, (0, 0), false, []),
  (20, .invokevirtual 397, 6, [0, 2, 3, 2, 0, 6], 0, 0, (0, 0), false, []),
  (23, .goto 4, 1, [15], 0, 0, (0, 0), false, []),
  (26, .lconst 0, 0, [], 0, 0, (0, 0), false, []),
  (27, .lreturn, 5, [], 0, 0, (0, 0), false, [])]
def eX6_atPlace : List zm_M := [mX6_isRoom, mX6_passes2, mX6_timesAt]
noncomputable def vX6_atPlace : List (zm_M × zm_S) := [(mX6_isRoom, sX6_isRoom), (mX6_passes2, sX6_passes2), (mX6_timesAt, sX6_timesAt)]
noncomputable def sX6_atPlace : zm_S := zsem vX6_atPlace rX6_atPlace 3
set_option maxRecDepth 100000 in
theorem aX6_atPlace : zall RX6 mX6_atPlace eX6_atPlace rX6_atPlace = true := by decide +kernel
set_option maxRecDepth 100000 in
theorem wX6_atPlace : ∀ w ∈ zwds RX6 mX6_atPlace eX6_atPlace rX6_atPlace, w ∈ gT := zwd_of [1549, 1551, 69, 119, 1552, 1549, 1551, 69, 119, 1552, 1554, 1556, 70, 119, 1557, 1814, 1816, 105, 119, 1817] (by decide +kernel) (by decide +kernel) (z7_no (by decide +kernel))
set_option maxRecDepth 100000 in
theorem xX6_atPlace : ∀ w ∈ zwxs RX6 mX6_atPlace eX6_atPlace rX6_atPlace, zspc w = true ∧ w ∈ lw_tbl := by decide +kernel
theorem tX6_atPlace {l : Launch} (hlt : l.stackTraces = false) : MetA l mX6_atPlace sX6_atPlace := zmet (M := mX6_atPlace) (own := RX6) (envM := eX6_atPlace) hlt rfl (by decide +kernel) (by decide +kernel) rfl (fun j q hq => by
  match j, hq with
  | 0, hq => cases hq; exact tX6_isRoom hlt
  | 1, hq => cases hq; exact tX6_passes2 hlt
  | 2, hq => cases hq; exact tX6_timesAt hlt
  | n + 3, hq => cases hq) aX6_atPlace wX6_atPlace xX6_atPlace rfl
def mX6_behind : zm_M := (yX6_behind, cX6_behind, 9, (some .long), (5, 0, 0, 120), 2, [], (0, 0))
def rX6_behind : List zm_R := [(0, .aload_n 0, 0, [], 0, 0, (0, 0), false, []),
  (1, .aload_n 0, 0, [], 0, 0, (0, 0), false, []),
  (2, .iload_n 1, 0, [], 0, 0, (0, 0), false, []),
  (3, .iload_n 2, 0, [], 0, 0, (0, 0), false, []),
  (4, .invokevirtual 394, 6, [0, 0, 3, 1, 0, 6], 0, 0, (0, 0), false, []),
  (7, .iload_n 1, 0, [], 0, 0, (0, 0), false, []),
  (8, .iload_n 2, 0, [], 0, 0, (0, 0), false, []),
  (9, .if_icmp .eq 7, 1, [10], 0, 0, (0, 0), false, []),
  (12, .iconst 1, 0, [], 1, 0, (0, 0), false, []),
  (13, .goto 4, 1, [11], 0, 0, (0, 0), false, []),
  (16, .iconst 0, 0, [], 0, 0, (0, 0), false, []),
  (17, .invokevirtual 323, 6, [0, 1, 3, 1, 0, 6], 0, 0, (0, 0), false, []),
  (20, .ifCond .ne 5, 1, [15], 0, 0, (0, 0), false, []),
  (23, .lconst 0, 0, [], 0, 0, (0, 0), false, []),
  (24, .lreturn, 5, [], 0, 0, (0, 0), false, []),
  (25, .aload_n 0, 0, [], 0, 0, (0, 0), false, []),
  (26, .invokevirtual 148, 6, [0, 2, 1, 2, 0, 6], 0, 0, (0, 0), false, []),
  (29, .lstore_n 3, 0, [], 0, 0, (0, 0), false, []),
  (30, .aload_n 0, 0, [], 0, 0, (0, 0), false, []),
  (31, .invokevirtual 373, 6, [0, 3, 1, 0, 0, 6], 0, 0, (0, 0), false, []),
  (34, .lconst 0, 0, [], 0, 0, (0, 0), false, []),
  (35, .lstore 5, 0, [], 0, 0, (0, 0), false, []),
  (37, .iconst 1, 0, [], 1, 0, (0, 0), false, []),
  (38, .istore 7, 0, [], 0, 0, (0, 0), false, []),
  (40, .iload 7, 0, [], 0, 0, (0, 0), true, [3, 4, 6, 8]),
  (42, .aload_n 0, 0, [], 0, 0, (0, 0), false, []),
  (43, .invokevirtual 110, 6, [0, 4, 1, 1, 0, 6], 0, 0, (0, 0), false, []),
  (46, .if_icmp .gt 77, 1, [69], 0, 0, (0, 0), false, []),
  (49, .iload 7, 0, [], 0, 0, (0, 0), false, []),
  (51, .iload_n 1, 0, [], 0, 0, (0, 0), false, []),
  (52, .invokestatic 86, 6, [1, 5, 2, 1, 0, 6], 0, 0, (0, 0), false, []),
  (55, .ifCond .eq 26, 1, [45], 0, 0, (0, 0), false, []),
  (58, .aload_n 0, 0, [], 0, 0, (0, 0), false, []),
  (59, .getfield 34, 2, [6, 6, 27, 2], 0, 0, (0, 0), false, []),
  (62, .bipush 11, 0, [], 11, 0, (0, 0), false, []),
  (64, .iload 7, 0, [], 0, 0, (0, 0), false, []),
  (66, .imul, 0, [], 0, 0, (0, 0), false, []),
  (67, .iload_n 1, 0, [], 0, 0, (0, 0), false, []),
  (68, .iadd, 0, [], 0, 0, (0, 0), false, []),
  (69, .iaload, 3, [0], 0, 0, (0, 0), false, []),
  (70, .iload_n 2, 0, [], 0, 0, (0, 0), false, []),
  (71, .invokestatic 86, 6, [1, 5, 2, 1, 0, 6], 0, 0, (0, 0), false, []),
  (74, .ifCond .eq 7, 1, [45], 0, 0, (0, 0), false, []),
  (77, .iconst 1, 0, [], 1, 0, (0, 0), false, []),
  (78, .goto 4, 1, [46], 0, 0, (0, 0), false, []),
  (81, .iconst 0, 0, [], 0, 0, (0, 0), false, []),
  (82, .istore 8, 0, [], 0, 0, (0, 0), false, []),
  (84, .lload 5, 0, [], 0, 0, (0, 0), false, []),
  (86, .iload 8, 0, [], 0, 0, (0, 0), false, []),
  (88, .ifCond .eq 25, 1, [64], 0, 0, (0, 0), false, []),
  (91, .aload_n 0, 0, [], 0, 0, (0, 0), false, []),
  (92, .iload 7, 0, [], 0, 0, (0, 0), false, []),
  (94, .iload_n 1, 0, [], 0, 0, (0, 0), false, []),
  (95, .invokevirtual 376, 6, [0, 6, 3, 2, 0, 6], 0, 0, (0, 0), false, []),
  (98, .aload_n 0, 0, [], 0, 0, (0, 0), false, []),
  (99, .iload 7, 0, [], 0, 0, (0, 0), false, []),
  (101, .iconst 1, 0, [], 1, 0, (0, 0), false, []),
  (102, .iload_n 2, 0, [], 0, 0, (0, 0), false, []),
  (103, .ishl, 0, [], 0, 0, (0, 0), false, []),
  (104, .ior, 0, [], 0, 0, (0, 0), false, []),
  (105, .iload_n 2, 0, [], 0, 0, (0, 0), false, []),
  (106, .invokevirtual 123, 6, [0, 7, 3, 2, 0, 6], 0, 0, (0, 0), false, []),
  (109, .lmul, 0, [], 0, 0, (0, 0), false, []),
  (110, .goto 4, 1, [65], 0, 0, (0, 0), false, []),
  (113, .lconst 0, 0, [], 0, 0, (0, 0), false, []),
  (114, .ladd, 0, [], 0, 0, (0, 0), false, []),
  (115, .lstore 5, 0, [], 0, 0, (0, 0), false, []),
  (117, .iinc 7 1, 0, [], 1, 0, (0, 0), false, []),
  (120, .goto (-80), 1, [24], 0, 0, (0, 0), false, []),
  (123, .lload 5, 0, [], 0, 0, (0, 0), false, []),
  (125, .lreturn, 5, [], 0, 0, (0, 0), false, [])]
def eX6_behind : List zm_M := [mX6_areTwo, mX6_passes2, mX6_toursNow, mX6_layComes, mX6_whole, mX6_has, mX6_comesTo, mX6_waysOf]
noncomputable def vX6_behind : List (zm_M × zm_S) := [(mX6_areTwo, sX6_areTwo), (mX6_passes2, sX6_passes2), (mX6_toursNow, sX6_toursNow), (mX6_layComes, sX6_layComes), (mX6_whole, sX6_whole), (mX6_has, sX6_has), (mX6_comesTo, sX6_comesTo), (mX6_waysOf, sX6_waysOf)]
noncomputable def sX6_behind : zm_S := zsem vX6_behind rX6_behind 9
set_option maxRecDepth 100000 in
theorem aX6_behind : zall RX6 mX6_behind eX6_behind rX6_behind = true := by decide +kernel
set_option maxRecDepth 100000 in
theorem wX6_behind : ∀ w ∈ zwds RX6 mX6_behind eX6_behind rX6_behind, w ∈ gT := zwd_of [1806, 1808, 104, 119, 1809, 1554, 1556, 70, 119, 1557, 1623, 1625, 80, 119, 1626, 1723, 1725, 95, 119, 1726, 1635, 1637, 83, 119, 1638, 1463, 1464, 119, 1465, 1232, 1463, 1464, 119, 1465, 1727, 1729, 96, 119, 1730, 1651, 1653, 87, 119, 1654] (by decide +kernel) (by decide +kernel) (z7_no (by decide +kernel))
set_option maxRecDepth 100000 in
theorem xX6_behind : ∀ w ∈ zwxs RX6 mX6_behind eX6_behind rX6_behind, zspc w = true ∧ w ∈ lw_tbl := by decide +kernel
theorem tX6_behind {l : Launch} (hlt : l.stackTraces = false) : MetA l mX6_behind sX6_behind := zmet (M := mX6_behind) (own := RX6) (envM := eX6_behind) hlt rfl (by decide +kernel) (by decide +kernel) rfl (fun j q hq => by
  match j, hq with
  | 0, hq => cases hq; exact tX6_areTwo hlt
  | 1, hq => cases hq; exact tX6_passes2 hlt
  | 2, hq => cases hq; exact tX6_toursNow hlt
  | 3, hq => cases hq; exact tX6_layComes hlt
  | 4, hq => cases hq; exact tX6_whole hlt
  | 5, hq => cases hq; exact tX6_has hlt
  | 6, hq => cases hq; exact tX6_comesTo hlt
  | 7, hq => cases hq; exact tX6_waysOf hlt
  | n + 8, hq => cases hq) aX6_behind wX6_behind xX6_behind rfl
def mX6_share : zm_M := (yX6_share, cX6_share, 5, (some .double), (6, 0, 0, 147), 2, [], (0, 0))
def rX6_share : List zm_R := [(0, .aload_n 0, 0, [], 0, 0, (0, 0), false, []),
  (1, .aload_n 0, 0, [], 0, 0, (0, 0), false, []),
  (2, .iload_n 1, 0, [], 0, 0, (0, 0), false, []),
  (3, .invokevirtual 317, 6, [0, 0, 2, 1, 0, 6], 0, 0, (0, 0), false, []),
  (6, .aload_n 0, 0, [], 0, 0, (0, 0), false, []),
  (7, .iload_n 2, 0, [], 0, 0, (0, 0), false, []),
  (8, .invokevirtual 317, 6, [0, 0, 2, 1, 0, 6], 0, 0, (0, 0), false, []),
  (11, .invokevirtual 323, 6, [0, 1, 3, 1, 0, 6], 0, 0, (0, 0), false, []),
  (14, .ifCond .ne 5, 1, [11], 0, 0, (0, 0), false, []),
  (17, .dconst 0, 0, [], 0, 0, (0, 0), false, []),
  (18, .dreturn, 5, [], 0, 0, (0, 0), false, []),
  (19, .aload_n 0, 0, [], 0, 0, (0, 0), false, []),
  (20, .invokevirtual 148, 6, [0, 2, 1, 2, 0, 6], 0, 0, (0, 0), false, []),
  (23, .lstore_n 3, 0, [], 0, 0, (0, 0), false, []),
  (24, .lload_n 3, 0, [], 0, 0, (0, 0), false, []),
  (25, .lconst 0, 0, [], 0, 0, (0, 0), false, []),
  (26, .lcmp, 0, [], 0, 0, (0, 0), false, []),
  (27, .ifCond .ne 7, 1, [20], 0, 0, (0, 0), false, []),
  (30, .dconst 0, 0, [], 0, 0, (0, 0), false, []),
  (31, .goto 13, 1, [28], 0, 0, (0, 0), false, []),
  (34, .aload_n 0, 0, [], 0, 0, (0, 0), false, []),
  (35, .iload_n 1, 0, [], 0, 0, (0, 0), false, []),
  (36, .iload_n 2, 0, [], 0, 0, (0, 0), false, []),
  (37, .invokevirtual 397, 6, [0, 3, 3, 2, 0, 6], 0, 0, (0, 0), false, []),
  (40, .l2d, 0, [], 0, 0, (0, 0), false, []),
  (41, .lload_n 3, 0, [], 0, 0, (0, 0), false, []),
  (42, .l2d, 0, [], 0, 0, (0, 0), false, []),
  (43, .ddiv, 11, [], 0, 0, (0, 0), false, []),
  (44, .dreturn, 5, [], 0, 0, (0, 0), false, [])]
def eX6_share : List zm_M := [mX6_isRoom, mX6_passes2, mX6_toursNow, mX6_timesAt]
noncomputable def vX6_share : List (zm_M × zm_S) := [(mX6_isRoom, sX6_isRoom), (mX6_passes2, sX6_passes2), (mX6_toursNow, sX6_toursNow), (mX6_timesAt, sX6_timesAt)]
noncomputable def sX6_share : zm_S := zsem vX6_share rX6_share 5
set_option maxRecDepth 100000 in
theorem aX6_share : zall RX6 mX6_share eX6_share rX6_share = true := by decide +kernel
set_option maxRecDepth 100000 in
theorem wX6_share : ∀ w ∈ zwds RX6 mX6_share eX6_share rX6_share, w ∈ gT := zwd_of [1549, 1551, 69, 119, 1552, 1549, 1551, 69, 119, 1552, 1554, 1556, 70, 119, 1557, 1623, 1625, 80, 119, 1626, 1814, 1816, 105, 119, 1817] (by decide +kernel) (by decide +kernel) (z7_no (by decide +kernel))
set_option maxRecDepth 100000 in
theorem xX6_share : ∀ w ∈ zwxs RX6 mX6_share eX6_share rX6_share, zspc w = true ∧ w ∈ lw_tbl := by decide +kernel
theorem tX6_share {l : Launch} (hlt : l.stackTraces = false) : MetA l mX6_share sX6_share := zmet (M := mX6_share) (own := RX6) (envM := eX6_share) hlt rfl (by decide +kernel) (by decide +kernel) rfl (fun j q hq => by
  match j, hq with
  | 0, hq => cases hq; exact tX6_isRoom hlt
  | 1, hq => cases hq; exact tX6_passes2 hlt
  | 2, hq => cases hq; exact tX6_toursNow hlt
  | 3, hq => cases hq; exact tX6_timesAt hlt
  | n + 4, hq => cases hq) aX6_share wX6_share xX6_share rfl
def mX6_shown : zm_M := (yX6_shown, cX6_shown, 1, (some .float), (1, 0, 0, 20), 0, [], (0, 0))
def rX6_shown : List zm_R := [(0, .aload_n 0, 0, [], 0, 0, (0, 0), false, []),
  (1, .iconst 0, 0, [], 0, 0, (0, 0), false, []),
  (2, .putfield 3, 2, [6, 0, 27, 0], 0, 0, (0, 0), false, []),
  (5, .aload_n 0, 0, [], 0, 0, (0, 0), false, []),
  (6, .getfield 17, 2, [6, 1, 27, 2], 0, 0, (0, 0), false, []),
  (9, .iconst 4, 0, [], 4, 0, (0, 0), false, []),
  (10, .iaload, 3, [0], 0, 0, (0, 0), false, []),
  (11, .i2f, 0, [], 0, 0, (0, 0), false, []),
  (12, .aload_n 0, 0, [], 0, 0, (0, 0), false, []),
  (13, .invokevirtual 69, 6, [0, 0, 1, 1, 0, 6], 0, 0, (0, 0), false, []),
  (16, .i2f, 0, [], 0, 0, (0, 0), false, []),
  (17, .fdiv, 11, [], 0, 0, (0, 0), false, []),
  (18, .freturn, 5, [], 0, 0, (0, 0), false, [])]
def eX6_shown : List zm_M := [mX6_rooms]
noncomputable def vX6_shown : List (zm_M × zm_S) := [(mX6_rooms, sX6_rooms)]
noncomputable def sX6_shown : zm_S := zsem vX6_shown rX6_shown 1
set_option maxRecDepth 100000 in
theorem aX6_shown : zall RX6 mX6_shown eX6_shown rX6_shown = true := by decide +kernel
set_option maxRecDepth 100000 in
theorem wX6_shown : ∀ w ∈ zwds RX6 mX6_shown eX6_shown rX6_shown, w ∈ gT := zwd_of [1226, 1227, 1421, 1423, 46, 119, 1424] (by decide +kernel) (by decide +kernel) (z7_no (by decide +kernel))
set_option maxRecDepth 100000 in
theorem xX6_shown : ∀ w ∈ zwxs RX6 mX6_shown eX6_shown rX6_shown, zspc w = true ∧ w ∈ lw_tbl := by decide +kernel
theorem tX6_shown {l : Launch} (hlt : l.stackTraces = false) : MetA l mX6_shown sX6_shown := zmet (M := mX6_shown) (own := RX6) (envM := eX6_shown) hlt rfl (by decide +kernel) (by decide +kernel) rfl (fun j q hq => by
  match j, hq with
  | 0, hq => cases hq; exact tX6_rooms hlt
  | n + 1, hq => cases hq) aX6_shown wX6_shown xX6_shown rfl
def mX6_leastCoins : zm_M := (yX6_leastCoins, cX6_leastCoins, 5, (some .int), (5, 0, 0, 117), 0, [], (0, 0))
def rX6_leastCoins : List zm_R := [(0, .aload_n 0, 0, [], 0, 0, (0, 0), false, []),
  (1, .iconst 0, 0, [], 0, 0, (0, 0), false, []),
  (2, .putfield 3, 2, [6, 0, 27, 0], 0, 0, (0, 0), false, []),
  (5, .aload_n 0, 0, [], 0, 0, (0, 0), false, []),
  (6, .invokevirtual 379, 6, [0, 0, 1, 1, 0, 6], 0, 0, (0, 0), false, []),
  (9, .istore_n 1, 0, [], 0, 0, (0, 0), false, []),
  (10, .iconst (-1), 0, [], (-1), 0, (0, 0), false, []),
  (11, .istore_n 2, 0, [], 0, 0, (0, 0), false, []),
  (12, .iconst 0, 0, [], 0, 0, (0, 0), false, []),
  (13, .istore_n 3, 0, [], 0, 0, (0, 0), false, []),
  (14, .iload_n 3, 0, [], 0, 0, (0, 0), true, [4]),
  (15, .aload_n 0, 0, [], 0, 0, (0, 0), false, []),
  (16, .invokevirtual 69, 6, [0, 1, 1, 1, 0, 6], 0, 0, (0, 0), false, []),
  (19, .if_icmp .ge 51, 1, [41], 0, 0, (0, 0), false, []),
  (22, .aload_n 0, 0, [], 0, 0, (0, 0), false, []),
  (23, .aload_n 0, 0, [], 0, 0, (0, 0), false, []),
  (24, .invokevirtual 110, 6, [0, 2, 1, 1, 0, 6], 0, 0, (0, 0), false, []),
  (27, .iconst 1, 0, [], 1, 0, (0, 0), false, []),
  (28, .iload_n 3, 0, [], 0, 0, (0, 0), false, []),
  (29, .ishl, 0, [], 0, 0, (0, 0), false, []),
  (30, .iconst (-1), 0, [], (-1), 0, (0, 0), false, []),
  (31, .ixor, 0, [], 0, 0, (0, 0), false, []),
  (32, .iand, 0, [], 0, 0, (0, 0), false, []),
  (33, .invokevirtual 100, 6, [0, 3, 2, 1, 0, 6], 0, 0, (0, 0), false, []),
  (36, .istore 4, 0, [], 0, 0, (0, 0), false, []),
  (38, .iload_n 1, 0, [], 0, 0, (0, 0), false, []),
  (39, .iload_n 3, 0, [], 0, 0, (0, 0), false, []),
  (40, .invokestatic 86, 6, [1, 4, 2, 1, 0, 6], 0, 0, (0, 0), false, []),
  (43, .ifCond .eq 19, 1, [37], 0, 0, (0, 0), false, []),
  (46, .iload_n 2, 0, [], 0, 0, (0, 0), false, []),
  (47, .iconst (-1), 0, [], (-1), 0, (0, 0), false, []),
  (48, .if_icmp .eq 9, 1, [35], 0, 0, (0, 0), false, []),
  (51, .iload 4, 0, [], 0, 0, (0, 0), false, []),
  (53, .iload_n 2, 0, [], 0, 0, (0, 0), false, []),
  (54, .if_icmp .ge 8, 1, [37], 0, 0, (0, 0), false, []),
  (57, .iload 4, 0, [], 0, 0, (0, 0), false, []),
  (59, .goto 4, 1, [38], 0, 0, (0, 0), false, []),
  (62, .iload_n 2, 0, [], 0, 0, (0, 0), false, []),
  (63, .istore_n 2, 0, [], 0, 0, (0, 0), false, []),
  (64, .iinc 3 1, 0, [], 1, 0, (0, 0), false, []),
  (67, .goto (-53), 1, [10], 0, 0, (0, 0), false, []),
  (70, .iload_n 2, 0, [], 0, 0, (0, 0), false, []),
  (71, .ireturn, 5, [0], 0, 0, (0, 0), false, [])]
def eX6_leastCoins : List zm_M := [mX6_endingSet, mX6_rooms, mX6_whole, mX6_coinsIn, mX6_has]
noncomputable def vX6_leastCoins : List (zm_M × zm_S) := [(mX6_endingSet, sX6_endingSet), (mX6_rooms, sX6_rooms), (mX6_whole, sX6_whole), (mX6_coinsIn, sX6_coinsIn), (mX6_has, sX6_has)]
noncomputable def sX6_leastCoins : zm_S := zsem vX6_leastCoins rX6_leastCoins 5
set_option maxRecDepth 100000 in
theorem aX6_leastCoins : zall RX6 mX6_leastCoins eX6_leastCoins rX6_leastCoins = true := by decide +kernel
set_option maxRecDepth 100000 in
theorem wX6_leastCoins : ∀ w ∈ zwds RX6 mX6_leastCoins eX6_leastCoins rX6_leastCoins, w ∈ gT := zwd_of [1226, 1719, 1721, 94, 119, 1722, 1421, 1423, 46, 119, 1424, 1635, 1637, 83, 119, 1638, 1541, 1543, 68, 119, 1544, 1463, 1464, 119, 1465] (by decide +kernel) (by decide +kernel) (z7_no (by decide +kernel))
set_option maxRecDepth 100000 in
theorem xX6_leastCoins : ∀ w ∈ zwxs RX6 mX6_leastCoins eX6_leastCoins rX6_leastCoins, zspc w = true ∧ w ∈ lw_tbl := by decide +kernel
theorem tX6_leastCoins {l : Launch} (hlt : l.stackTraces = false) : MetA l mX6_leastCoins sX6_leastCoins := zmet (M := mX6_leastCoins) (own := RX6) (envM := eX6_leastCoins) hlt rfl (by decide +kernel) (by decide +kernel) rfl (fun j q hq => by
  match j, hq with
  | 0, hq => cases hq; exact tX6_endingSet hlt
  | 1, hq => cases hq; exact tX6_rooms hlt
  | 2, hq => cases hq; exact tX6_whole hlt
  | 3, hq => cases hq; exact tX6_coinsIn hlt
  | 4, hq => cases hq; exact tX6_has hlt
  | n + 5, hq => cases hq) aX6_leastCoins wX6_leastCoins xX6_leastCoins rfl
def mX6_rounds : zm_M := (yX6_rounds, cX6_rounds, 5, (some .long), (4, 0, 0, 95), 0, [], (0, 0))
def rX6_rounds : List zm_R := [(0, .aload_n 0, 0, [], 0, 0, (0, 0), false, []),
  (1, .iconst 0, 0, [], 0, 0, (0, 0), false, []),
  (2, .putfield 3, 2, [6, 0, 27, 0], 0, 0, (0, 0), false, []),
  (5, .aload_n 0, 0, [], 0, 0, (0, 0), false, []),
  (6, .invokevirtual 373, 6, [0, 0, 1, 0, 0, 6], 0, 0, (0, 0), false, []),
  (9, .lconst 0, 0, [], 0, 0, (0, 0), false, []),
  (10, .lstore_n 1, 0, [], 0, 0, (0, 0), false, []),
  (11, .iconst 0, 0, [], 0, 0, (0, 0), false, []),
  (12, .istore_n 3, 0, [], 0, 0, (0, 0), false, []),
  (13, .iload_n 3, 0, [], 0, 0, (0, 0), true, [2, 4]),
  (14, .aload_n 0, 0, [], 0, 0, (0, 0), false, []),
  (15, .invokevirtual 69, 6, [0, 1, 1, 1, 0, 6], 0, 0, (0, 0), false, []),
  (18, .if_icmp .ge 64, 1, [46], 0, 0, (0, 0), false, []),
  (21, .aload_n 0, 0, [], 0, 0, (0, 0), false, []),
  (22, .iload_n 3, 0, [], 0, 0, (0, 0), false, []),
  (23, .aload_n 0, 0, [], 0, 0, (0, 0), false, []),
  (24, .invokevirtual 110, 6, [0, 2, 1, 1, 0, 6], 0, 0, (0, 0), false, []),
  (27, .invokevirtual 142, 6, [0, 3, 3, 1, 0, 6], 0, 0, (0, 0), false, []),
  (30, .aload_n 0, 0, [], 0, 0, (0, 0), false, []),
  (31, .getfield 17, 2, [6, 1, 27, 2], 0, 0, (0, 0), false, []),
  (34, .iconst 2, 0, [], 2, 0, (0, 0), false, []),
  (35, .iaload, 3, [0], 0, 0, (0, 0), false, []),
  (36, .invokestatic 86, 6, [1, 4, 2, 1, 0, 6], 0, 0, (0, 0), false, []),
  (39, .istore 4, 0, [], 0, 0, (0, 0), false, []),
  (41, .lload_n 1, 0, [], 0, 0, (0, 0), false, []),
  (42, .aload_n 0, 0, [], 0, 0, (0, 0), false, []),
  (43, .iload_n 3, 0, [], 0, 0, (0, 0), false, []),
  (44, .aload_n 0, 0, [], 0, 0, (0, 0), false, []),
  (45, .getfield 17, 2, [6, 1, 27, 2], 0, 0, (0, 0), false, []),
  (48, .iconst 3, 0, [], 3, 0, (0, 0), false, []),
  (49, .iaload, 3, [0], 0, 0, (0, 0), false, []),
  (50, .invokevirtual 120, 6, [0, 5, 3, 1, 0, 6], 0, 0, (0, 0), false, []),
  (53, .ifCond .eq 20, 1, [41], 0, 0, (0, 0), false, []),
  (56, .iload 4, 0, [], 0, 0, (0, 0), false, []),
  (58, .ifCond .eq 15, 1, [41], 0, 0, (0, 0), false, []),
  (61, .aload_n 0, 0, [], 0, 0, (0, 0), false, []),
  (62, .aload_n 0, 0, [], 0, 0, (0, 0), false, []),
  (63, .invokevirtual 110, 6, [0, 2, 1, 1, 0, 6], 0, 0, (0, 0), false, []),
  (66, .iload_n 3, 0, [], 0, 0, (0, 0), false, []),
  (67, .invokevirtual 376, 6, [0, 6, 3, 2, 0, 6], 0, 0, (0, 0), false, []),
  (70, .goto 4, 1, [42], 0, 0, (0, 0), false, []),
  (73, .lconst 0, 0, [], 0, 0, (0, 0), false, []),
  (74, .ladd, 0, [], 0, 0, (0, 0), false, []),
  (75, .lstore_n 1, 0, [], 0, 0, (0, 0), false, []),
  (76, .iinc 3 1, 0, [], 1, 0, (0, 0), false, []),
  (79, .goto (-66), 1, [9], 0, 0, (0, 0), false, []),
  (82, .lload_n 1, 0, [], 0, 0, (0, 0), false, []),
  (83, .lreturn, 5, [], 0, 0, (0, 0), false, [])]
def eX6_rounds : List zm_M := [mX6_layComes, mX6_rooms, mX6_whole, mX6_leads, mX6_has, mX6_mayEnd, mX6_comesTo]
noncomputable def vX6_rounds : List (zm_M × zm_S) := [(mX6_layComes, sX6_layComes), (mX6_rooms, sX6_rooms), (mX6_whole, sX6_whole), (mX6_leads, sX6_leads), (mX6_has, sX6_has), (mX6_mayEnd, sX6_mayEnd), (mX6_comesTo, sX6_comesTo)]
noncomputable def sX6_rounds : zm_S := zsem vX6_rounds rX6_rounds 5
set_option maxRecDepth 100000 in
theorem aX6_rounds : zall RX6 mX6_rounds eX6_rounds rX6_rounds = true := by decide +kernel
set_option maxRecDepth 100000 in
theorem wX6_rounds : ∀ w ∈ zwds RX6 mX6_rounds eX6_rounds rX6_rounds, w ∈ gT := zwd_of [1226, 1723, 1725, 95, 119, 1726, 1421, 1423, 46, 119, 1424, 1635, 1637, 83, 119, 1638, 1747, 1749, 97, 119, 1750, 1227, 1463, 1464, 119, 1465, 1227, 1643, 1645, 85, 119, 1646, 1635, 1637, 83, 119, 1638, 1727, 1729, 96, 119, 1730] (by decide +kernel) (by decide +kernel) (z7_no (by decide +kernel))
set_option maxRecDepth 100000 in
theorem xX6_rounds : ∀ w ∈ zwxs RX6 mX6_rounds eX6_rounds rX6_rounds, zspc w = true ∧ w ∈ lw_tbl := by decide +kernel
theorem tX6_rounds {l : Launch} (hlt : l.stackTraces = false) : MetA l mX6_rounds sX6_rounds := zmet (M := mX6_rounds) (own := RX6) (envM := eX6_rounds) hlt rfl (by decide +kernel) (by decide +kernel) rfl (fun j q hq => by
  match j, hq with
  | 0, hq => cases hq; exact tX6_layComes hlt
  | 1, hq => cases hq; exact tX6_rooms hlt
  | 2, hq => cases hq; exact tX6_whole hlt
  | 3, hq => cases hq; exact tX6_leads hlt
  | 4, hq => cases hq; exact tX6_has hlt
  | 5, hq => cases hq; exact tX6_mayEnd hlt
  | 6, hq => cases hq; exact tX6_comesTo hlt
  | n + 7, hq => cases hq) aX6_rounds wX6_rounds xX6_rounds rfl
def mX6_go : zm_M := (yX6_go, cX6_go, 3, (some .long), (6, 0, 0, 142), 1, [], (0, 0))
def rX6_go : List zm_R := [(0, .aload_n 0, 0, [], 0, 0, (0, 0), false, []),
  (1, .iload_n 1, 0, [], 0, 0, (0, 0), false, []),
  (2, .invokevirtual 317, 6, [0, 0, 2, 1, 0, 6], 0, 0, (0, 0), false, []),
  (5, .istore_n 2, 0, [], 0, 0, (0, 0), false, []),
  (6, .aload_n 0, 0, [], 0, 0, (0, 0), false, []),
  (7, .iload_n 2, 0, [], 0, 0, (0, 0), false, []),
  (8, .iload_n 2, 0, [], 0, 0, (0, 0), false, []),
  (9, .ifCond .eq 15, 1, [14], 0, 0, (0, 0), false, []),
  (12, .aload_n 0, 0, [], 0, 0, (0, 0), false, []),
  (13, .iload_n 1, 0, [], 0, 0, (0, 0), false, []),
  (14, .invokevirtual 345, 6, [0, 4, 2, 1, 0, 6], 0, 0, (0, 0), false, []),
  (17, .ifCond .ne 7, 1, [14], 0, 0, (0, 0), false, []),
  (20, .iconst 1, 0, [], 1, 0, (0, 0), false, []),
  (21, .goto 4, 1, [15], 0, 0, (0, 0), false, []),
  (24, .iconst 0, 0, [], 0, 0, (0, 0), false, []),
  (25, .invokevirtual 323, 6, [0, 1, 3, 1, 0, 6], 0, 0, (0, 0), false, []),
  (28, .ifCond .ne 5, 1, [19], 0, 0, (0, 0), false, []),
  (31, .lconst 0, 0, [], 0, 0, (0, 0), false, []),
  (32, .lreturn, 5, [], 0, 0, (0, 0), false, []),
  (33, .aload_n 0, 0, [], 0, 0, (0, 0), false, []),
  (34, .invokevirtual 304, 6, [0, 2, 1, 0, 0, 6], 0, 0, (0, 0), false, []),
  (37, .aload_n 0, 0, [], 0, 0, (0, 0), false, []),
  (38, .getfield 17, 2, [6, 1, 27, 2], 0, 0, (0, 0), false, []),
  (41, .iconst 5, 0, [], 5, 0, (0, 0), false, []),
  (42, .aload_n 0, 0, [], 0, 0, (0, 0), false, []),
  (43, .getfield 17, 2, [6, 1, 27, 2], 0, 0, (0, 0), false, []),
  (46, .iconst 4, 0, [], 4, 0, (0, 0), false, []),
  (47, .iaload, 3, [0], 0, 0, (0, 0), false, []),
  (48, .iadd, 0, [], 0, 0, (0, 0), false, []),
  (49, .iload_n 1, 0, [], 0, 0, (0, 0), false, []),
  (50, .iastore, 3, [0], 0, 0, (0, 0), false, []),
  (51, .aload_n 0, 0, [], 0, 0, (0, 0), false, []),
  (52, .getfield 17, 2, [6, 1, 27, 2], 0, 0, (0, 0), false, []),
  (55, .iconst 4, 0, [], 4, 0, (0, 0), false, []),
  (56, .dup2, 0, [], 0, 0, (0, 0), false, []),
  (57, .iaload, 3, [0], 0, 0, (0, 0), false, []),
  (58, .iconst 1, 0, [], 1, 0, (0, 0), false, []),
  (59, .iadd, 0, [], 0, 0, (0, 0), false, []),
  (60, .iastore, 3, [0], 0, 0, (0, 0), false, []),
  (61, .aload_n 0, 0, [], 0, 0, (0, 0), false, []),
  (62, .invokevirtual 351, 6, [0, 3, 1, 2, 0, 6], 0, 0, (0, 0), false, []),
  (65, .lreturn, 5, [], 0, 0, (0, 0), false, [])]
def eX6_go : List zm_M := [mX6_isRoom, mX6_passes2, mX6_remember, mX6_completionsNow, mX6_whyNot]
noncomputable def vX6_go : List (zm_M × zm_S) := [(mX6_isRoom, sX6_isRoom), (mX6_passes2, sX6_passes2), (mX6_remember, sX6_remember), (mX6_completionsNow, sX6_completionsNow), (mX6_whyNot, sX6_whyNot)]
noncomputable def sX6_go : zm_S := zsem vX6_go rX6_go 3
set_option maxRecDepth 100000 in
theorem aX6_go : zall RX6 mX6_go eX6_go rX6_go = true := by decide +kernel
set_option maxRecDepth 100000 in
theorem wX6_go : ∀ w ∈ zwds RX6 mX6_go eX6_go rX6_go, w ∈ gT := zwd_of [1549, 1551, 69, 119, 1552, 1603, 1605, 77, 119, 1606, 1554, 1556, 70, 119, 1557, 1503, 1505, 63, 119, 1506, 1227, 1227, 1227, 1659, 1661, 88, 119, 1662] (by decide +kernel) (by decide +kernel) (z7_no (by decide +kernel))
set_option maxRecDepth 100000 in
theorem xX6_go : ∀ w ∈ zwxs RX6 mX6_go eX6_go rX6_go, zspc w = true ∧ w ∈ lw_tbl := by decide +kernel
theorem tX6_go {l : Launch} (hlt : l.stackTraces = false) : MetA l mX6_go sX6_go := zmet (M := mX6_go) (own := RX6) (envM := eX6_go) hlt rfl (by decide +kernel) (by decide +kernel) rfl (fun j q hq => by
  match j, hq with
  | 0, hq => cases hq; exact tX6_isRoom hlt
  | 1, hq => cases hq; exact tX6_passes2 hlt
  | 2, hq => cases hq; exact tX6_remember hlt
  | 3, hq => cases hq; exact tX6_completionsNow hlt
  | 4, hq => cases hq; exact tX6_whyNot hlt
  | n + 5, hq => cases hq) aX6_go wX6_go xX6_go rfl
def mX6_back : zm_M := (yX6_back, cX6_back, 2, (some .int), (2, 0, 0, 44), 1, [], (0, 0))
def rX6_back : List zm_R := [(0, .aload_n 0, 0, [], 0, 0, (0, 0), false, []),
  (1, .iload_n 1, 0, [], 0, 0, (0, 0), false, []),
  (2, .i2l, 0, [], 0, 0, (0, 0), false, []),
  (3, .lconst 1, 0, [], 0, 1, (0, 0), false, []),
  (4, .aload_n 0, 0, [], 0, 0, (0, 0), false, []),
  (5, .getfield 17, 2, [6, 1, 27, 2], 0, 0, (0, 0), false, []),
  (8, .iconst 4, 0, [], 4, 0, (0, 0), false, []),
  (9, .iaload, 3, [0], 0, 0, (0, 0), false, []),
  (10, .iconst 1, 0, [], 1, 0, (0, 0), false, []),
  (11, .isub, 0, [], 0, 0, (0, 0), false, []),
  (12, .i2l, 0, [], 0, 0, (0, 0), false, []),
  (13, .invokestatic 73, 6, [1, 0, 3, 1, 0, 6], 0, 0, (0, 0), false, []),
  (16, .invokevirtual 163, 6, [0, 1, 2, 1, 0, 6], 0, 0, (0, 0), false, []),
  (19, .ifCond .ne 5, 1, [16], 0, 0, (0, 0), false, []),
  (22, .iconst 0, 0, [], 0, 0, (0, 0), false, []),
  (23, .ireturn, 5, [0], 0, 0, (0, 0), false, []),
  (24, .aload_n 0, 0, [], 0, 0, (0, 0), false, []),
  (25, .invokevirtual 304, 6, [0, 2, 1, 0, 0, 6], 0, 0, (0, 0), false, []),
  (28, .aload_n 0, 0, [], 0, 0, (0, 0), false, []),
  (29, .getfield 17, 2, [6, 1, 27, 2], 0, 0, (0, 0), false, []),
  (32, .iconst 4, 0, [], 4, 0, (0, 0), false, []),
  (33, .dup2, 0, [], 0, 0, (0, 0), false, []),
  (34, .iaload, 3, [0], 0, 0, (0, 0), false, []),
  (35, .iload_n 1, 0, [], 0, 0, (0, 0), false, []),
  (36, .isub, 0, [], 0, 0, (0, 0), false, []),
  (37, .iastore, 3, [0], 0, 0, (0, 0), false, []),
  (38, .aload_n 0, 0, [], 0, 0, (0, 0), false, []),
  (39, .invokevirtual 311, 6, [0, 3, 1, 1, 0, 6], 0, 0, (0, 0), false, []),
  (42, .ireturn, 5, [0], 0, 0, (0, 0), false, [])]
def eX6_back : List zm_M := [mX6_in, mX6_passes, mX6_remember, mX6_lastRoom]
noncomputable def vX6_back : List (zm_M × zm_S) := [(mX6_in, sX6_in), (mX6_passes, sX6_passes), (mX6_remember, sX6_remember), (mX6_lastRoom, sX6_lastRoom)]
noncomputable def sX6_back : zm_S := zsem vX6_back rX6_back 2
set_option maxRecDepth 100000 in
theorem aX6_back : zall RX6 mX6_back eX6_back rX6_back = true := by decide +kernel
set_option maxRecDepth 100000 in
theorem wX6_back : ∀ w ∈ zwds RX6 mX6_back eX6_back rX6_back, w ∈ gT := zwd_of [1227, 1328, 1329, 119, 1330, 1312, 1314, 35, 119, 1315, 1503, 1505, 63, 119, 1506, 1227, 1525, 1527, 64, 119, 1528] (by decide +kernel) (by decide +kernel) (z7_no (by decide +kernel))
set_option maxRecDepth 100000 in
theorem xX6_back : ∀ w ∈ zwxs RX6 mX6_back eX6_back rX6_back, zspc w = true ∧ w ∈ lw_tbl := by decide +kernel
theorem tX6_back {l : Launch} (hlt : l.stackTraces = false) : MetA l mX6_back sX6_back := zmet (M := mX6_back) (own := RX6) (envM := eX6_back) hlt rfl (by decide +kernel) (by decide +kernel) rfl (fun j q hq => by
  match j, hq with
  | 0, hq => cases hq; exact tX6_in hlt
  | 1, hq => cases hq; exact tX6_passes hlt
  | 2, hq => cases hq; exact tX6_remember hlt
  | 3, hq => cases hq; exact tX6_lastRoom hlt
  | n + 4, hq => cases hq) aX6_back wX6_back xX6_back rfl
def mX6_again : zm_M := (yX6_again, cX6_again, 2, (some .int), (1, 0, 0, 21), 0, [], (0, 0))
def rX6_again : List zm_R := [(0, .aload_n 0, 0, [], 0, 0, (0, 0), false, []),
  (1, .iconst 0, 0, [], 0, 0, (0, 0), false, []),
  (2, .putfield 3, 2, [6, 0, 27, 0], 0, 0, (0, 0), false, []),
  (5, .aload_n 0, 0, [], 0, 0, (0, 0), false, []),
  (6, .invokevirtual 304, 6, [0, 0, 1, 0, 0, 6], 0, 0, (0, 0), false, []),
  (9, .aload_n 0, 0, [], 0, 0, (0, 0), false, []),
  (10, .getfield 17, 2, [6, 1, 27, 2], 0, 0, (0, 0), false, []),
  (13, .iconst 4, 0, [], 4, 0, (0, 0), false, []),
  (14, .iaload, 3, [0], 0, 0, (0, 0), false, []),
  (15, .istore_n 1, 0, [], 0, 0, (0, 0), false, []),
  (16, .aload_n 0, 0, [], 0, 0, (0, 0), false, []),
  (17, .getfield 17, 2, [6, 1, 27, 2], 0, 0, (0, 0), false, []),
  (20, .iconst 4, 0, [], 4, 0, (0, 0), false, []),
  (21, .iconst 1, 0, [], 1, 0, (0, 0), false, []),
  (22, .iastore, 3, [0], 0, 0, (0, 0), false, []),
  (23, .iload_n 1, 0, [], 0, 0, (0, 0), false, []),
  (24, .ireturn, 5, [0], 0, 0, (0, 0), false, [])]
def eX6_again : List zm_M := [mX6_remember]
noncomputable def vX6_again : List (zm_M × zm_S) := [(mX6_remember, sX6_remember)]
noncomputable def sX6_again : zm_S := zsem vX6_again rX6_again 2
set_option maxRecDepth 100000 in
theorem aX6_again : zall RX6 mX6_again eX6_again rX6_again = true := by decide +kernel
set_option maxRecDepth 100000 in
theorem wX6_again : ∀ w ∈ zwds RX6 mX6_again eX6_again rX6_again, w ∈ gT := zwd_of [1226, 1503, 1505, 63, 119, 1506, 1227, 1227] (by decide +kernel) (by decide +kernel) (z7_no (by decide +kernel))
set_option maxRecDepth 100000 in
theorem xX6_again : ∀ w ∈ zwxs RX6 mX6_again eX6_again rX6_again, zspc w = true ∧ w ∈ lw_tbl := by decide +kernel
theorem tX6_again {l : Launch} (hlt : l.stackTraces = false) : MetA l mX6_again sX6_again := zmet (M := mX6_again) (own := RX6) (envM := eX6_again) hlt rfl (by decide +kernel) (by decide +kernel) rfl (fun j q hq => by
  match j, hq with
  | 0, hq => cases hq; exact tX6_remember hlt
  | n + 1, hq => cases hq) aX6_again wX6_again xX6_again rfl
def mX6_complete : zm_M := (yX6_complete, cX6_complete, 2, (some .int), (6, 0, 0, 142), 0, [], (0, 0))
def rX6_complete : List zm_R := [(0, .aload_n 0, 0, [], 0, 0, (0, 0), false, []),
  (1, .aload_n 0, 0, [], 0, 0, (0, 0), false, []),
  (2, .invokevirtual 351, 6, [0, 0, 1, 2, 0, 6], 0, 0, (0, 0), false, []),
  (5, .lconst 0, 0, [], 0, 0, (0, 0), false, []),
  (6, .lcmp, 0, [], 0, 0, (0, 0), false, []),
  (7, .ifCond .le 7, 1, [8], 0, 0, (0, 0), false, []),
  (10, .iconst 1, 0, [], 1, 0, (0, 0), false, []),
  (11, .goto 4, 1, [9], 0, 0, (0, 0), false, []),
  (14, .iconst 0, 0, [], 0, 0, (0, 0), false, []),
  (15, .invokevirtual 163, 6, [0, 1, 2, 1, 0, 6], 0, 0, (0, 0), false, []),
  (18, .ifCond .ne 5, 1, [13], 0, 0, (0, 0), false, []),
  (21, .iconst 0, 0, [], 0, 0, (0, 0), false, []),
  (22, .ireturn, 5, [0], 0, 0, (0, 0), false, []),
  (23, .aload_n 0, 0, [], 0, 0, (0, 0), false, []),
  (24, .invokevirtual 304, 6, [0, 2, 1, 0, 0, 6], 0, 0, (0, 0), false, []),
  (27, .aload_n 0, 0, [], 0, 0, (0, 0), false, []),
  (28, .getfield 17, 2, [6, 1, 27, 2], 0, 0, (0, 0), false, []),
  (31, .iconst 4, 0, [], 4, 0, (0, 0), false, []),
  (32, .iaload, 3, [0], 0, 0, (0, 0), false, []),
  (33, .istore_n 1, 0, [], 0, 0, (0, 0), false, []),
  (34, .aload_n 0, 0, [], 0, 0, (0, 0), false, []),
  (35, .invokevirtual 400, 6, [0, 3, 1, 0, 0, 6], 0, 0, (0, 0), false, []),
  (38, .aload_n 0, 0, [], 0, 0, (0, 0), false, []),
  (39, .iload_n 1, 0, [], 0, 0, (0, 0), false, []),
  (40, .lconst 0, 0, [], 0, 0, (0, 0), false, []),
  (41, .invokevirtual 361, 6, [0, 4, 3, 0, 0, 6], 0, 0, (0, 0), false, []),
  (44, .aload_n 0, 0, [], 0, 0, (0, 0), false, []),
  (45, .aload_n 0, 0, [], 0, 0, (0, 0), false, []),
  (46, .invokevirtual 69, 6, [0, 5, 1, 1, 0, 6], 0, 0, (0, 0), false, []),
  (49, .invokevirtual 403, 6, [0, 6, 2, 0, 0, 6], 0, 0, (0, 0), false, []),
  (52, .aload_n 0, 0, [], 0, 0, (0, 0), false, []),
  (53, .invokevirtual 69, 6, [0, 5, 1, 1, 0, 6], 0, 0, (0, 0), false, []),
  (56, .iload_n 1, 0, [], 0, 0, (0, 0), false, []),
  (57, .isub, 0, [], 0, 0, (0, 0), false, []),
  (58, .ireturn, 5, [0], 0, 0, (0, 0), false, [])]
def eX6_complete : List zm_M := [mX6_completionsNow, mX6_passes, mX6_remember, mX6_layWalk, mX6_layTour, mX6_rooms, mX6_takePath]
noncomputable def vX6_complete : List (zm_M × zm_S) := [(mX6_completionsNow, sX6_completionsNow), (mX6_passes, sX6_passes), (mX6_remember, sX6_remember), (mX6_layWalk, sX6_layWalk), (mX6_layTour, sX6_layTour), (mX6_rooms, sX6_rooms), (mX6_takePath, sX6_takePath)]
noncomputable def sX6_complete : zm_S := zsem vX6_complete rX6_complete 2
set_option maxRecDepth 100000 in
theorem aX6_complete : zall RX6 mX6_complete eX6_complete rX6_complete = true := by decide +kernel
set_option maxRecDepth 100000 in
theorem wX6_complete : ∀ w ∈ zwds RX6 mX6_complete eX6_complete rX6_complete, w ∈ gT := zwd_of [1659, 1661, 88, 119, 1662, 1312, 1314, 35, 119, 1315, 1503, 1505, 63, 119, 1506, 1227, 1854, 1856, 106, 119, 1857, 1687, 1689, 91, 119, 1690, 1421, 1423, 46, 119, 1424, 1858, 1860, 107, 119, 1861, 1421, 1423, 46, 119, 1424] (by decide +kernel) (by decide +kernel) (z7_no (by decide +kernel))
set_option maxRecDepth 100000 in
theorem xX6_complete : ∀ w ∈ zwxs RX6 mX6_complete eX6_complete rX6_complete, zspc w = true ∧ w ∈ lw_tbl := by decide +kernel
theorem tX6_complete {l : Launch} (hlt : l.stackTraces = false) : MetA l mX6_complete sX6_complete := zmet (M := mX6_complete) (own := RX6) (envM := eX6_complete) hlt rfl (by decide +kernel) (by decide +kernel) rfl (fun j q hq => by
  match j, hq with
  | 0, hq => cases hq; exact tX6_completionsNow hlt
  | 1, hq => cases hq; exact tX6_passes hlt
  | 2, hq => cases hq; exact tX6_remember hlt
  | 3, hq => cases hq; exact tX6_layWalk hlt
  | 4, hq => cases hq; exact tX6_layTour hlt
  | 5, hq => cases hq; exact tX6_rooms hlt
  | 6, hq => cases hq; exact tX6_takePath hlt
  | n + 7, hq => cases hq) aX6_complete wX6_complete xX6_complete rfl
def mX6_walk : zm_M := (yX6_walk, cX6_walk, 3, (some .int), (6, 0, 0, 142), 1, [], (0, 0))
def rX6_walk : List zm_R := [(0, .aload_n 0, 0, [], 0, 0, (0, 0), false, []),
  (1, .aload_n 0, 0, [], 0, 0, (0, 0), false, []),
  (2, .lload_n 1, 0, [], 0, 0, (0, 0), false, []),
  (3, .invokevirtual 354, 6, [0, 0, 2, 1, 0, 6], 0, 0, (0, 0), false, []),
  (6, .invokevirtual 163, 6, [0, 1, 2, 1, 0, 6], 0, 0, (0, 0), false, []),
  (9, .ifCond .ne 5, 1, [8], 0, 0, (0, 0), false, []),
  (12, .iconst 0, 0, [], 0, 0, (0, 0), false, []),
  (13, .ireturn, 5, [0], 0, 0, (0, 0), false, []),
  (14, .aload_n 0, 0, [], 0, 0, (0, 0), false, []),
  (15, .invokevirtual 304, 6, [0, 2, 1, 0, 0, 6], 0, 0, (0, 0), false, []),
  (18, .aload_n 0, 0, [], 0, 0, (0, 0), false, []),
  (19, .invokevirtual 358, 6, [0, 3, 1, 0, 0, 6], 0, 0, (0, 0), false, []),
  (22, .aload_n 0, 0, [], 0, 0, (0, 0), false, []),
  (23, .iconst 1, 0, [], 1, 0, (0, 0), false, []),
  (24, .lload_n 1, 0, [], 0, 0, (0, 0), false, []),
  (25, .invokevirtual 361, 6, [0, 4, 3, 0, 0, 6], 0, 0, (0, 0), false, []),
  (28, .aload_n 0, 0, [], 0, 0, (0, 0), false, []),
  (29, .aload_n 0, 0, [], 0, 0, (0, 0), false, []),
  (30, .invokevirtual 69, 6, [0, 5, 1, 1, 0, 6], 0, 0, (0, 0), false, []),
  (33, .invokevirtual 403, 6, [0, 6, 2, 0, 0, 6], 0, 0, (0, 0), false, []),
  (36, .aload_n 0, 0, [], 0, 0, (0, 0), false, []),
  (37, .invokevirtual 311, 6, [0, 7, 1, 1, 0, 6], 0, 0, (0, 0), false, []),
  (40, .ireturn, 5, [0], 0, 0, (0, 0), false, [])]
def eX6_walk : List zm_M := [mX6_isRank, mX6_passes, mX6_remember, mX6_layStart, mX6_layTour, mX6_rooms, mX6_takePath, mX6_lastRoom]
noncomputable def vX6_walk : List (zm_M × zm_S) := [(mX6_isRank, sX6_isRank), (mX6_passes, sX6_passes), (mX6_remember, sX6_remember), (mX6_layStart, sX6_layStart), (mX6_layTour, sX6_layTour), (mX6_rooms, sX6_rooms), (mX6_takePath, sX6_takePath), (mX6_lastRoom, sX6_lastRoom)]
noncomputable def sX6_walk : zm_S := zsem vX6_walk rX6_walk 3
set_option maxRecDepth 100000 in
theorem aX6_walk : zall RX6 mX6_walk eX6_walk rX6_walk = true := by decide +kernel
set_option maxRecDepth 100000 in
theorem wX6_walk : ∀ w ∈ zwds RX6 mX6_walk eX6_walk rX6_walk, w ∈ gT := zwd_of [1679, 1681, 89, 119, 1682, 1312, 1314, 35, 119, 1315, 1503, 1505, 63, 119, 1506, 1683, 1685, 90, 119, 1686, 1687, 1689, 91, 119, 1690, 1421, 1423, 46, 119, 1424, 1858, 1860, 107, 119, 1861, 1525, 1527, 64, 119, 1528] (by decide +kernel) (by decide +kernel) (z7_no (by decide +kernel))
set_option maxRecDepth 100000 in
theorem xX6_walk : ∀ w ∈ zwxs RX6 mX6_walk eX6_walk rX6_walk, zspc w = true ∧ w ∈ lw_tbl := by decide +kernel
theorem tX6_walk {l : Launch} (hlt : l.stackTraces = false) : MetA l mX6_walk sX6_walk := zmet (M := mX6_walk) (own := RX6) (envM := eX6_walk) hlt rfl (by decide +kernel) (by decide +kernel) rfl (fun j q hq => by
  match j, hq with
  | 0, hq => cases hq; exact tX6_isRank hlt
  | 1, hq => cases hq; exact tX6_passes hlt
  | 2, hq => cases hq; exact tX6_remember hlt
  | 3, hq => cases hq; exact tX6_layStart hlt
  | 4, hq => cases hq; exact tX6_layTour hlt
  | 5, hq => cases hq; exact tX6_rooms hlt
  | 6, hq => cases hq; exact tX6_takePath hlt
  | 7, hq => cases hq; exact tX6_lastRoom hlt
  | n + 8, hq => cases hq) aX6_walk wX6_walk xX6_walk rfl
def mX6_setKey : zm_M := (yX6_setKey, cX6_setKey, 6, (some .boolean), (4, 0, 0, 96), 3, [], (0, 0))
def rX6_setKey : List zm_R := [(0, .aload_n 0, 0, [], 0, 0, (0, 0), false, []),
  (1, .aload_n 0, 0, [], 0, 0, (0, 0), false, []),
  (2, .iload_n 1, 0, [], 0, 0, (0, 0), false, []),
  (3, .invokevirtual 317, 6, [0, 0, 2, 1, 0, 6], 0, 0, (0, 0), false, []),
  (6, .ifCond .eq 14, 1, [10], 0, 0, (0, 0), false, []),
  (9, .iload_n 2, 0, [], 0, 0, (0, 0), false, []),
  (10, .invokestatic 342, 6, [1, 5, 1, 1, 0, 6], 0, 0, (0, 0), false, []),
  (13, .ifCond .eq 7, 1, [10], 0, 0, (0, 0), false, []),
  (16, .iconst 1, 0, [], 1, 0, (0, 0), false, []),
  (17, .goto 4, 1, [11], 0, 0, (0, 0), false, []),
  (20, .iconst 0, 0, [], 0, 0, (0, 0), false, []),
  (21, .invokevirtual 163, 6, [0, 1, 2, 1, 0, 6], 0, 0, (0, 0), false, []),
  (24, .ifCond .ne 5, 1, [15], 0, 0, (0, 0), false, []),
  (27, .iconst 0, 0, [], 0, 0, (0, 0), false, []),
  (28, .ireturn, 5, [1], 0, 0, (0, 0), false, []),
  (29, .aload_n 0, 0, [], 0, 0, (0, 0), false, []),
  (30, .invokevirtual 304, 6, [0, 2, 1, 0, 0, 6], 0, 0, (0, 0), false, []),
  (33, .bipush 16, 0, [], 16, 0, (0, 0), false, []),
  (35, .iconst 3, 0, [], 3, 0, (0, 0), false, []),
  (36, .iload_n 1, 0, [], 0, 0, (0, 0), false, []),
  (37, .imul, 0, [], 0, 0, (0, 0), false, []),
  (38, .iadd, 0, [], 0, 0, (0, 0), false, []),
  (39, .iconst 0, 0, [], 0, 0, (0, 0), false, []),
  (40, .iadd, 0, [], 0, 0, (0, 0), false, []),
  (41, .istore 4, 0, [], 0, 0, (0, 0), false, []),
  (43, .aload_n 0, 0, [], 0, 0, (0, 0), false, []),
  (44, .getfield 17, 2, [6, 1, 27, 2], 0, 0, (0, 0), false, []),
  (47, .iload 4, 0, [], 0, 0, (0, 0), false, []),
  (49, .iaload, 3, [0], 0, 0, (0, 0), false, []),
  (50, .iload_n 2, 0, [], 0, 0, (0, 0), false, []),
  (51, .invokestatic 86, 6, [1, 3, 2, 1, 0, 6], 0, 0, (0, 0), false, []),
  (54, .istore 5, 0, [], 0, 0, (0, 0), false, []),
  (56, .aload_n 0, 0, [], 0, 0, (0, 0), false, []),
  (57, .getfield 17, 2, [6, 1, 27, 2], 0, 0, (0, 0), false, []),
  (60, .iload 4, 0, [], 0, 0, (0, 0), false, []),
  (62, .iload_n 3, 0, [], 0, 0, (0, 0), false, []),
  (63, .ifCond .eq 17, 1, [46], 0, 0, (0, 0), false, []),
  (66, .aload_n 0, 0, [], 0, 0, (0, 0), false, []),
  (67, .getfield 17, 2, [6, 1, 27, 2], 0, 0, (0, 0), false, []),
  (70, .iload 4, 0, [], 0, 0, (0, 0), false, []),
  (72, .iaload, 3, [0], 0, 0, (0, 0), false, []),
  (73, .iconst 1, 0, [], 1, 0, (0, 0), false, []),
  (74, .iload_n 2, 0, [], 0, 0, (0, 0), false, []),
  (75, .ishl, 0, [], 0, 0, (0, 0), false, []),
  (76, .ior, 0, [], 0, 0, (0, 0), false, []),
  (77, .goto 16, 1, [56], 0, 0, (0, 0), false, []),
  (80, .aload_n 0, 0, [], 0, 0, (0, 0), false, []),
  (81, .getfield 17, 2, [6, 1, 27, 2], 0, 0, (0, 0), false, []),
  (84, .iload 4, 0, [], 0, 0, (0, 0), false, []),
  (86, .iaload, 3, [0], 0, 0, (0, 0), false, []),
  (87, .iconst 1, 0, [], 1, 0, (0, 0), false, []),
  (88, .iload_n 2, 0, [], 0, 0, (0, 0), false, []),
  (89, .ishl, 0, [], 0, 0, (0, 0), false, []),
  (90, .iconst (-1), 0, [], (-1), 0, (0, 0), false, []),
  (91, .ixor, 0, [], 0, 0, (0, 0), false, []),
  (92, .iand, 0, [], 0, 0, (0, 0), false, []),
  (93, .iastore, 3, [0], 0, 0, (0, 0), false, []),
  (94, .aload_n 0, 0, [], 0, 0, (0, 0), false, []),
  (95, .invokevirtual 406, 6, [0, 4, 1, 0, 0, 6], 0, 0, (0, 0), false, []),
  (98, .iload 5, 0, [], 0, 0, (0, 0), false, []),
  (100, .ireturn, 5, [1], 0, 0, (0, 0), false, [])]
def eX6_setKey : List zm_M := [mX6_isRoom, mX6_passes, mX6_remember, mX6_has, mX6_cutWalk, mX6_isKey]
noncomputable def vX6_setKey : List (zm_M × zm_S) := [(mX6_isRoom, sX6_isRoom), (mX6_passes, sX6_passes), (mX6_remember, sX6_remember), (mX6_has, sX6_has), (mX6_cutWalk, sX6_cutWalk), (mX6_isKey, sX6_isKey)]
noncomputable def sX6_setKey : zm_S := zsem vX6_setKey rX6_setKey 6
set_option maxRecDepth 100000 in
theorem aX6_setKey : zall RX6 mX6_setKey eX6_setKey rX6_setKey = true := by decide +kernel
set_option maxRecDepth 100000 in
theorem wX6_setKey : ∀ w ∈ zwds RX6 mX6_setKey eX6_setKey rX6_setKey, w ∈ gT := zwd_of [1549, 1551, 69, 119, 1552, 1595, 1596, 119, 1597, 1312, 1314, 35, 119, 1315, 1503, 1505, 63, 119, 1506, 1227, 1463, 1464, 119, 1465, 1227, 1227, 1227, 1870, 1872, 108, 119, 1873] (by decide +kernel) (by decide +kernel) (z7_no (by decide +kernel))
set_option maxRecDepth 100000 in
theorem xX6_setKey : ∀ w ∈ zwxs RX6 mX6_setKey eX6_setKey rX6_setKey, zspc w = true ∧ w ∈ lw_tbl := by decide +kernel
theorem tX6_setKey {l : Launch} (hlt : l.stackTraces = false) : MetA l mX6_setKey sX6_setKey := zmet (M := mX6_setKey) (own := RX6) (envM := eX6_setKey) hlt rfl (by decide +kernel) (by decide +kernel) rfl (fun j q hq => by
  match j, hq with
  | 0, hq => cases hq; exact tX6_isRoom hlt
  | 1, hq => cases hq; exact tX6_passes hlt
  | 2, hq => cases hq; exact tX6_remember hlt
  | 3, hq => cases hq; exact tX6_has hlt
  | 4, hq => cases hq; exact tX6_cutWalk hlt
  | 5, hq => cases hq; exact tX6_isKey hlt
  | n + 6, hq => cases hq) aX6_setKey wX6_setKey xX6_setKey rfl
def mX6_setCoins : zm_M := (yX6_setCoins, cX6_setCoins, 4, (some .int), (4, 0, 0, 96), 2, [], (0, 0))
def rX6_setCoins : List zm_R := [(0, .aload_n 0, 0, [], 0, 0, (0, 0), false, []),
  (1, .aload_n 0, 0, [], 0, 0, (0, 0), false, []),
  (2, .iload_n 1, 0, [], 0, 0, (0, 0), false, []),
  (3, .invokevirtual 317, 6, [0, 0, 2, 1, 0, 6], 0, 0, (0, 0), false, []),
  (6, .iload_n 2, 0, [], 0, 0, (0, 0), false, []),
  (7, .i2l, 0, [], 0, 0, (0, 0), false, []),
  (8, .lconst 0, 0, [], 0, 0, (0, 0), false, []),
  (9, .ldc2_w 409, 9, [1], 0, 99, (0, 0), false, []),
  (12, .invokestatic 73, 6, [1, 1, 3, 1, 0, 6], 0, 0, (0, 0), false, []),
  (15, .invokevirtual 323, 6, [0, 2, 3, 1, 0, 6], 0, 0, (0, 0), false, []),
  (18, .ifCond .ne 5, 1, [13], 0, 0, (0, 0), false, []),
  (21, .iconst 0, 0, [], 0, 0, (0, 0), false, []),
  (22, .ireturn, 5, [0], 0, 0, (0, 0), false, []),
  (23, .aload_n 0, 0, [], 0, 0, (0, 0), false, []),
  (24, .invokevirtual 304, 6, [0, 3, 1, 0, 0, 6], 0, 0, (0, 0), false, []),
  (27, .aload_n 0, 0, [], 0, 0, (0, 0), false, []),
  (28, .iload_n 1, 0, [], 0, 0, (0, 0), false, []),
  (29, .iconst 1, 0, [], 1, 0, (0, 0), false, []),
  (30, .invokevirtual 90, 6, [0, 4, 3, 1, 0, 6], 0, 0, (0, 0), false, []),
  (33, .istore_n 3, 0, [], 0, 0, (0, 0), false, []),
  (34, .aload_n 0, 0, [], 0, 0, (0, 0), false, []),
  (35, .getfield 17, 2, [6, 1, 27, 2], 0, 0, (0, 0), false, []),
  (38, .bipush 16, 0, [], 16, 0, (0, 0), false, []),
  (40, .iconst 3, 0, [], 3, 0, (0, 0), false, []),
  (41, .iload_n 1, 0, [], 0, 0, (0, 0), false, []),
  (42, .imul, 0, [], 0, 0, (0, 0), false, []),
  (43, .iadd, 0, [], 0, 0, (0, 0), false, []),
  (44, .iconst 1, 0, [], 1, 0, (0, 0), false, []),
  (45, .iadd, 0, [], 0, 0, (0, 0), false, []),
  (46, .iload_n 2, 0, [], 0, 0, (0, 0), false, []),
  (47, .iastore, 3, [0], 0, 0, (0, 0), false, []),
  (48, .aload_n 0, 0, [], 0, 0, (0, 0), false, []),
  (49, .invokevirtual 406, 6, [0, 5, 1, 0, 0, 6], 0, 0, (0, 0), false, []),
  (52, .iload_n 3, 0, [], 0, 0, (0, 0), false, []),
  (53, .ireturn, 5, [0], 0, 0, (0, 0), false, [])]
def eX6_setCoins : List zm_M := [mX6_isRoom, mX6_in, mX6_passes2, mX6_remember, mX6_ofRoom, mX6_cutWalk]
noncomputable def vX6_setCoins : List (zm_M × zm_S) := [(mX6_isRoom, sX6_isRoom), (mX6_in, sX6_in), (mX6_passes2, sX6_passes2), (mX6_remember, sX6_remember), (mX6_ofRoom, sX6_ofRoom), (mX6_cutWalk, sX6_cutWalk)]
noncomputable def sX6_setCoins : zm_S := zsem vX6_setCoins rX6_setCoins 4
set_option maxRecDepth 100000 in
theorem aX6_setCoins : zall RX6 mX6_setCoins eX6_setCoins rX6_setCoins = true := by decide +kernel
set_option maxRecDepth 100000 in
theorem wX6_setCoins : ∀ w ∈ zwds RX6 mX6_setCoins eX6_setCoins rX6_setCoins, w ∈ gT := zwd_of [1549, 1551, 69, 119, 1552, 1878, 1328, 1329, 119, 1330, 1554, 1556, 70, 119, 1557, 1503, 1505, 63, 119, 1506, 1451, 1453, 51, 119, 1454, 1227, 1870, 1872, 108, 119, 1873] (by decide +kernel) (by decide +kernel) (z7_no (by decide +kernel))
set_option maxRecDepth 100000 in
theorem xX6_setCoins : ∀ w ∈ zwxs RX6 mX6_setCoins eX6_setCoins rX6_setCoins, zspc w = true ∧ w ∈ lw_tbl := by decide +kernel
theorem tX6_setCoins {l : Launch} (hlt : l.stackTraces = false) : MetA l mX6_setCoins sX6_setCoins := zmet (M := mX6_setCoins) (own := RX6) (envM := eX6_setCoins) hlt rfl (by decide +kernel) (by decide +kernel) rfl (fun j q hq => by
  match j, hq with
  | 0, hq => cases hq; exact tX6_isRoom hlt
  | 1, hq => cases hq; exact tX6_in hlt
  | 2, hq => cases hq; exact tX6_passes2 hlt
  | 3, hq => cases hq; exact tX6_remember hlt
  | 4, hq => cases hq; exact tX6_ofRoom hlt
  | 5, hq => cases hq; exact tX6_cutWalk hlt
  | n + 6, hq => cases hq) aX6_setCoins wX6_setCoins xX6_setCoins rfl
def mX6_isLock : zm_M := (yX6_isLock, cX6_isLock, 2, (some .boolean), (1, 0, 0, 25), 2, [], (0, 0))
def rX6_isLock : List zm_R := [(0, .iload_n 0, 0, [], 0, 0, (0, 0), false, []),
  (1, .i2l, 0, [], 0, 0, (0, 0), false, []),
  (2, .lconst 0, 0, [], 0, 0, (0, 0), false, []),
  (3, .ldc2_w 411, 9, [1], 0, 2, (0, 0), false, []),
  (6, .invokestatic 73, 6, [1, 0, 3, 1, 0, 6], 0, 0, (0, 0), false, []),
  (9, .ifCond .eq 38, 1, [23], 0, 0, (0, 0), false, []),
  (12, .iload_n 1, 0, [], 0, 0, (0, 0), false, []),
  (13, .i2l, 0, [], 0, 0, (0, 0), false, []),
  (14, .lconst 0, 0, [], 0, 0, (0, 0), false, []),
  (15, .iload_n 0, 0, [], 0, 0, (0, 0), false, []),
  (16, .ifCond .ne 7, 1, [13], 0, 0, (0, 0), false, []),
  (19, .lconst 0, 0, [], 0, 0, (0, 0), false, []),
  (20, .goto 17, 1, [19], 0, 0, (0, 0), false, []),
  (23, .iload_n 0, 0, [], 0, 0, (0, 0), false, []),
  (24, .iconst 1, 0, [], 1, 0, (0, 0), false, []),
  (25, .if_icmp .ne 9, 1, [18], 0, 0, (0, 0), false, []),
  (28, .ldc2_w 80, 9, [1], 0, 7, (0, 0), false, []),
  (31, .goto 6, 1, [19], 0, 0, (0, 0), false, []),
  (34, .ldc2_w 413, 9, [1], 0, 999, (0, 0), false, []),
  (37, .invokestatic 73, 6, [1, 0, 3, 1, 0, 6], 0, 0, (0, 0), false, []),
  (40, .ifCond .eq 7, 1, [23], 0, 0, (0, 0), false, []),
  (43, .iconst 1, 0, [], 1, 0, (0, 0), false, []),
  (44, .goto 4, 1, [24], 0, 0, (0, 0), false, []),
  (47, .iconst 0, 0, [], 0, 0, (0, 0), false, []),
  (48, .ireturn, 5, [1], 0, 0, (0, 0), false, [])]
def eX6_isLock : List zm_M := [mX6_in]
noncomputable def vX6_isLock : List (zm_M × zm_S) := [(mX6_in, sX6_in)]
noncomputable def sX6_isLock : zm_S := zsem vX6_isLock rX6_isLock 2
set_option maxRecDepth 100000 in
theorem aX6_isLock : zall RX6 mX6_isLock eX6_isLock rX6_isLock = true := by decide +kernel
set_option maxRecDepth 100000 in
theorem wX6_isLock : ∀ w ∈ zwds RX6 mX6_isLock eX6_isLock rX6_isLock, w ∈ gT := zwd_of [1886, 1328, 1329, 119, 1330, 1598, 1887, 1328, 1329, 119, 1330] (by decide +kernel) (by decide +kernel) (z7_no (by decide +kernel))
set_option maxRecDepth 100000 in
theorem xX6_isLock : ∀ w ∈ zwxs RX6 mX6_isLock eX6_isLock rX6_isLock, zspc w = true ∧ w ∈ lw_tbl := by decide +kernel
theorem tX6_isLock {l : Launch} (hlt : l.stackTraces = false) : MetA l mX6_isLock sX6_isLock := zmet (M := mX6_isLock) (own := RX6) (envM := eX6_isLock) hlt rfl (by decide +kernel) (by decide +kernel) rfl (fun j q hq => by
  match j, hq with
  | 0, hq => cases hq; exact tX6_in hlt
  | n + 1, hq => cases hq) aX6_isLock wX6_isLock xX6_isLock rfl
def mX6_setLock : zm_M := (yX6_setLock, cX6_setLock, 5, (some .int), (4, 0, 0, 96), 3, [], (0, 0))
def rX6_setLock : List zm_R := [(0, .aload_n 0, 0, [], 0, 0, (0, 0), false, []),
  (1, .aload_n 0, 0, [], 0, 0, (0, 0), false, []),
  (2, .iload_n 1, 0, [], 0, 0, (0, 0), false, []),
  (3, .invokevirtual 334, 6, [0, 0, 2, 1, 0, 6], 0, 0, (0, 0), false, []),
  (6, .iload_n 2, 0, [], 0, 0, (0, 0), false, []),
  (7, .iload_n 3, 0, [], 0, 0, (0, 0), false, []),
  (8, .invokestatic 415, 6, [1, 1, 2, 1, 0, 6], 0, 0, (0, 0), false, []),
  (11, .invokevirtual 323, 6, [0, 2, 3, 1, 0, 6], 0, 0, (0, 0), false, []),
  (14, .ifCond .ne 5, 1, [11], 0, 0, (0, 0), false, []),
  (17, .iconst 0, 0, [], 0, 0, (0, 0), false, []),
  (18, .ireturn, 5, [0], 0, 0, (0, 0), false, []),
  (19, .aload_n 0, 0, [], 0, 0, (0, 0), false, []),
  (20, .invokevirtual 304, 6, [0, 3, 1, 0, 0, 6], 0, 0, (0, 0), false, []),
  (23, .sipush 1000, 0, [], 1000, 0, (0, 0), false, []),
  (26, .aload_n 0, 0, [], 0, 0, (0, 0), false, []),
  (27, .iload_n 1, 0, [], 0, 0, (0, 0), false, []),
  (28, .iconst 2, 0, [], 2, 0, (0, 0), false, []),
  (29, .invokevirtual 94, 6, [0, 4, 3, 1, 0, 6], 0, 0, (0, 0), false, []),
  (32, .imul, 0, [], 0, 0, (0, 0), false, []),
  (33, .aload_n 0, 0, [], 0, 0, (0, 0), false, []),
  (34, .iload_n 1, 0, [], 0, 0, (0, 0), false, []),
  (35, .iconst 3, 0, [], 3, 0, (0, 0), false, []),
  (36, .invokevirtual 94, 6, [0, 4, 3, 1, 0, 6], 0, 0, (0, 0), false, []),
  (39, .iadd, 0, [], 0, 0, (0, 0), false, []),
  (40, .istore 4, 0, [], 0, 0, (0, 0), false, []),
  (42, .aload_n 0, 0, [], 0, 0, (0, 0), false, []),
  (43, .getfield 17, 2, [6, 1, 27, 2], 0, 0, (0, 0), false, []),
  (46, .bipush 49, 0, [], 49, 0, (0, 0), false, []),
  (48, .iconst 5, 0, [], 5, 0, (0, 0), false, []),
  (49, .iload_n 1, 0, [], 0, 0, (0, 0), false, []),
  (50, .imul, 0, [], 0, 0, (0, 0), false, []),
  (51, .iadd, 0, [], 0, 0, (0, 0), false, []),
  (52, .iconst 2, 0, [], 2, 0, (0, 0), false, []),
  (53, .iadd, 0, [], 0, 0, (0, 0), false, []),
  (54, .iload_n 2, 0, [], 0, 0, (0, 0), false, []),
  (55, .iastore, 3, [0], 0, 0, (0, 0), false, []),
  (56, .aload_n 0, 0, [], 0, 0, (0, 0), false, []),
  (57, .getfield 17, 2, [6, 1, 27, 2], 0, 0, (0, 0), false, []),
  (60, .bipush 49, 0, [], 49, 0, (0, 0), false, []),
  (62, .iconst 5, 0, [], 5, 0, (0, 0), false, []),
  (63, .iload_n 1, 0, [], 0, 0, (0, 0), false, []),
  (64, .imul, 0, [], 0, 0, (0, 0), false, []),
  (65, .iadd, 0, [], 0, 0, (0, 0), false, []),
  (66, .iconst 3, 0, [], 3, 0, (0, 0), false, []),
  (67, .iadd, 0, [], 0, 0, (0, 0), false, []),
  (68, .iload_n 3, 0, [], 0, 0, (0, 0), false, []),
  (69, .iastore, 3, [0], 0, 0, (0, 0), false, []),
  (70, .aload_n 0, 0, [], 0, 0, (0, 0), false, []),
  (71, .invokevirtual 406, 6, [0, 5, 1, 0, 0, 6], 0, 0, (0, 0), false, []),
  (74, .iload 4, 0, [], 0, 0, (0, 0), false, []),
  (76, .ireturn, 5, [0], 0, 0, (0, 0), false, [])]
def eX6_setLock : List zm_M := [mX6_isDoor, mX6_isLock, mX6_passes2, mX6_remember, mX6_ofDoor, mX6_cutWalk]
noncomputable def vX6_setLock : List (zm_M × zm_S) := [(mX6_isDoor, sX6_isDoor), (mX6_isLock, sX6_isLock), (mX6_passes2, sX6_passes2), (mX6_remember, sX6_remember), (mX6_ofDoor, sX6_ofDoor), (mX6_cutWalk, sX6_cutWalk)]
noncomputable def sX6_setLock : zm_S := zsem vX6_setLock rX6_setLock 5
set_option maxRecDepth 100000 in
theorem aX6_setLock : zall RX6 mX6_setLock eX6_setLock rX6_setLock = true := by decide +kernel
set_option maxRecDepth 100000 in
theorem wX6_setLock : ∀ w ∈ zwds RX6 mX6_setLock eX6_setLock rX6_setLock, w ∈ gT := zwd_of [1574, 1576, 74, 119, 1577, 1883, 1884, 119, 1885, 1554, 1556, 70, 119, 1557, 1503, 1505, 63, 119, 1506, 1562, 1564, 72, 119, 1565, 1562, 1564, 72, 119, 1565, 1227, 1227, 1870, 1872, 108, 119, 1873] (by decide +kernel) (by decide +kernel) (z7_no (by decide +kernel))
set_option maxRecDepth 100000 in
theorem xX6_setLock : ∀ w ∈ zwxs RX6 mX6_setLock eX6_setLock rX6_setLock, zspc w = true ∧ w ∈ lw_tbl := by decide +kernel
theorem tX6_setLock {l : Launch} (hlt : l.stackTraces = false) : MetA l mX6_setLock sX6_setLock := zmet (M := mX6_setLock) (own := RX6) (envM := eX6_setLock) hlt rfl (by decide +kernel) (by decide +kernel) rfl (fun j q hq => by
  match j, hq with
  | 0, hq => cases hq; exact tX6_isDoor hlt
  | 1, hq => cases hq; exact tX6_isLock hlt
  | 2, hq => cases hq; exact tX6_passes2 hlt
  | 3, hq => cases hq; exact tX6_remember hlt
  | 4, hq => cases hq; exact tX6_ofDoor hlt
  | 5, hq => cases hq; exact tX6_cutWalk hlt
  | n + 6, hq => cases hq) aX6_setLock wX6_setLock xX6_setLock rfl
def mX6_addDoor : zm_M := (yX6_addDoor, cX6_addDoor, 4, (some .int), (3, 0, 0, 68), 3, [], (0, 0))
def rX6_addDoor : List zm_R := [(0, .aload_n 0, 0, [], 0, 0, (0, 0), false, []),
  (1, .aload_n 0, 0, [], 0, 0, (0, 0), false, []),
  (2, .iload_n 1, 0, [], 0, 0, (0, 0), false, []),
  (3, .iload_n 2, 0, [], 0, 0, (0, 0), false, []),
  (4, .invokevirtual 394, 6, [0, 0, 3, 1, 0, 6], 0, 0, (0, 0), false, []),
  (7, .iload_n 1, 0, [], 0, 0, (0, 0), false, []),
  (8, .iload_n 2, 0, [], 0, 0, (0, 0), false, []),
  (9, .if_icmp .eq 7, 1, [10], 0, 0, (0, 0), false, []),
  (12, .iconst 1, 0, [], 1, 0, (0, 0), false, []),
  (13, .goto 4, 1, [11], 0, 0, (0, 0), false, []),
  (16, .iconst 0, 0, [], 0, 0, (0, 0), false, []),
  (17, .aload_n 0, 0, [], 0, 0, (0, 0), false, []),
  (18, .invokevirtual 77, 6, [0, 1, 1, 1, 0, 6], 0, 0, (0, 0), false, []),
  (21, .bipush 20, 0, [], 20, 0, (0, 0), false, []),
  (23, .if_icmp .ge 7, 1, [17], 0, 0, (0, 0), false, []),
  (26, .iconst 1, 0, [], 1, 0, (0, 0), false, []),
  (27, .goto 4, 1, [18], 0, 0, (0, 0), false, []),
  (30, .iconst 0, 0, [], 0, 0, (0, 0), false, []),
  (31, .invokevirtual 7, 6, [0, 2, 4, 1, 0, 6], 0, 0, (0, 0), false, []),
  (34, .ifCond .ne 5, 1, [22], 0, 0, (0, 0), false, []),
  (37, .iconst 0, 0, [], 0, 0, (0, 0), false, []),
  (38, .ireturn, 5, [0], 0, 0, (0, 0), false, []),
  (39, .aload_n 0, 0, [], 0, 0, (0, 0), false, []),
  (40, .invokevirtual 304, 6, [0, 3, 1, 0, 0, 6], 0, 0, (0, 0), false, []),
  (43, .aload_n 0, 0, [], 0, 0, (0, 0), false, []),
  (44, .iload_n 1, 0, [], 0, 0, (0, 0), false, []),
  (45, .iload_n 2, 0, [], 0, 0, (0, 0), false, []),
  (46, .iconst 0, 0, [], 0, 0, (0, 0), false, []),
  (47, .iconst 0, 0, [], 0, 0, (0, 0), false, []),
  (48, .iload_n 3, 0, [], 0, 0, (0, 0), false, []),
  (49, .invokevirtual 278, 6, [0, 4, 6, 0, 0, 6], 0, 0, (0, 0), false, []),
  (52, .aload_n 0, 0, [], 0, 0, (0, 0), false, []),
  (53, .invokevirtual 77, 6, [0, 1, 1, 1, 0, 6], 0, 0, (0, 0), false, []),
  (56, .iconst 1, 0, [], 1, 0, (0, 0), false, []),
  (57, .isub, 0, [], 0, 0, (0, 0), false, []),
  (58, .ireturn, 5, [0], 0, 0, (0, 0), false, [])]
def eX6_addDoor : List zm_M := [mX6_areTwo, mX6_doors, mX6_passes3, mX6_remember, mX6_addOne]
noncomputable def vX6_addDoor : List (zm_M × zm_S) := [(mX6_areTwo, sX6_areTwo), (mX6_doors, sX6_doors), (mX6_passes3, sX6_passes3), (mX6_remember, sX6_remember), (mX6_addOne, sX6_addOne)]
noncomputable def sX6_addDoor : zm_S := zsem vX6_addDoor rX6_addDoor 4
set_option maxRecDepth 100000 in
theorem aX6_addDoor : zall RX6 mX6_addDoor eX6_addDoor rX6_addDoor = true := by decide +kernel
set_option maxRecDepth 100000 in
theorem wX6_addDoor : ∀ w ∈ zwds RX6 mX6_addDoor eX6_addDoor rX6_addDoor, w ∈ gT := zwd_of [1806, 1808, 104, 119, 1809, 1482, 1484, 58, 119, 1485, 1316, 1318, 36, 119, 1319, 1503, 1505, 63, 119, 1506, 1491, 1493, 60, 119, 1494, 1482, 1484, 58, 119, 1485] (by decide +kernel) (by decide +kernel) (z7_no (by decide +kernel))
set_option maxRecDepth 100000 in
theorem xX6_addDoor : ∀ w ∈ zwxs RX6 mX6_addDoor eX6_addDoor rX6_addDoor, zspc w = true ∧ w ∈ lw_tbl := by decide +kernel
theorem tX6_addDoor {l : Launch} (hlt : l.stackTraces = false) : MetA l mX6_addDoor sX6_addDoor := zmet (M := mX6_addDoor) (own := RX6) (envM := eX6_addDoor) hlt rfl (by decide +kernel) (by decide +kernel) rfl (fun j q hq => by
  match j, hq with
  | 0, hq => cases hq; exact tX6_areTwo hlt
  | 1, hq => cases hq; exact tX6_doors hlt
  | 2, hq => cases hq; exact tX6_passes3 hlt
  | 3, hq => cases hq; exact tX6_remember hlt
  | 4, hq => cases hq; exact tX6_addOne hlt
  | n + 5, hq => cases hq) aX6_addDoor wX6_addDoor xX6_addDoor rfl
def mX6_removeDoor : zm_M := (yX6_removeDoor, cX6_removeDoor, 2, (some .int), (4, 0, 0, 96), 1, [], (0, 0))
def rX6_removeDoor : List zm_R := [(0, .aload_n 0, 0, [], 0, 0, (0, 0), false, []),
  (1, .aload_n 0, 0, [], 0, 0, (0, 0), false, []),
  (2, .iload_n 1, 0, [], 0, 0, (0, 0), false, []),
  (3, .invokevirtual 334, 6, [0, 0, 2, 1, 0, 6], 0, 0, (0, 0), false, []),
  (6, .invokevirtual 163, 6, [0, 1, 2, 1, 0, 6], 0, 0, (0, 0), false, []),
  (9, .ifCond .ne 5, 1, [8], 0, 0, (0, 0), false, []),
  (12, .iconst 0, 0, [], 0, 0, (0, 0), false, []),
  (13, .ireturn, 5, [0], 0, 0, (0, 0), false, []),
  (14, .aload_n 0, 0, [], 0, 0, (0, 0), false, []),
  (15, .invokevirtual 304, 6, [0, 2, 1, 0, 0, 6], 0, 0, (0, 0), false, []),
  (18, .aload_n 0, 0, [], 0, 0, (0, 0), false, []),
  (19, .iload_n 1, 0, [], 0, 0, (0, 0), false, []),
  (20, .invokevirtual 156, 6, [0, 3, 2, 0, 0, 6], 0, 0, (0, 0), false, []),
  (23, .aload_n 0, 0, [], 0, 0, (0, 0), false, []),
  (24, .invokevirtual 406, 6, [0, 4, 1, 0, 0, 6], 0, 0, (0, 0), false, []),
  (27, .aload_n 0, 0, [], 0, 0, (0, 0), false, []),
  (28, .invokevirtual 77, 6, [0, 5, 1, 1, 0, 6], 0, 0, (0, 0), false, []),
  (31, .ireturn, 5, [0], 0, 0, (0, 0), false, [])]
def eX6_removeDoor : List zm_M := [mX6_isDoor, mX6_passes, mX6_remember, mX6_dropDoor, mX6_cutWalk, mX6_doors]
noncomputable def vX6_removeDoor : List (zm_M × zm_S) := [(mX6_isDoor, sX6_isDoor), (mX6_passes, sX6_passes), (mX6_remember, sX6_remember), (mX6_dropDoor, sX6_dropDoor), (mX6_cutWalk, sX6_cutWalk), (mX6_doors, sX6_doors)]
noncomputable def sX6_removeDoor : zm_S := zsem vX6_removeDoor rX6_removeDoor 2
set_option maxRecDepth 100000 in
theorem aX6_removeDoor : zall RX6 mX6_removeDoor eX6_removeDoor rX6_removeDoor = true := by decide +kernel
set_option maxRecDepth 100000 in
theorem wX6_removeDoor : ∀ w ∈ zwds RX6 mX6_removeDoor eX6_removeDoor rX6_removeDoor, w ∈ gT := zwd_of [1574, 1576, 74, 119, 1577, 1312, 1314, 35, 119, 1315, 1503, 1505, 63, 119, 1506, 1779, 1781, 102, 119, 1782, 1870, 1872, 108, 119, 1873, 1482, 1484, 58, 119, 1485] (by decide +kernel) (by decide +kernel) (z7_no (by decide +kernel))
set_option maxRecDepth 100000 in
theorem xX6_removeDoor : ∀ w ∈ zwxs RX6 mX6_removeDoor eX6_removeDoor rX6_removeDoor, zspc w = true ∧ w ∈ lw_tbl := by decide +kernel
theorem tX6_removeDoor {l : Launch} (hlt : l.stackTraces = false) : MetA l mX6_removeDoor sX6_removeDoor := zmet (M := mX6_removeDoor) (own := RX6) (envM := eX6_removeDoor) hlt rfl (by decide +kernel) (by decide +kernel) rfl (fun j q hq => by
  match j, hq with
  | 0, hq => cases hq; exact tX6_isDoor hlt
  | 1, hq => cases hq; exact tX6_passes hlt
  | 2, hq => cases hq; exact tX6_remember hlt
  | 3, hq => cases hq; exact tX6_dropDoor hlt
  | 4, hq => cases hq; exact tX6_cutWalk hlt
  | 5, hq => cases hq; exact tX6_doors hlt
  | n + 6, hq => cases hq) aX6_removeDoor wX6_removeDoor xX6_removeDoor rfl
def mX6_setStart : zm_M := (yX6_setStart, cX6_setStart, 3, (some .int), (2, 0, 0, 46), 1, [], (0, 0))
def rX6_setStart : List zm_R := [(0, .aload_n 0, 0, [], 0, 0, (0, 0), false, []),
  (1, .aload_n 0, 0, [], 0, 0, (0, 0), false, []),
  (2, .iload_n 1, 0, [], 0, 0, (0, 0), false, []),
  (3, .invokevirtual 317, 6, [0, 0, 2, 1, 0, 6], 0, 0, (0, 0), false, []),
  (6, .invokevirtual 163, 6, [0, 1, 2, 1, 0, 6], 0, 0, (0, 0), false, []),
  (9, .ifCond .ne 5, 1, [8], 0, 0, (0, 0), false, []),
  (12, .iconst 0, 0, [], 0, 0, (0, 0), false, []),
  (13, .ireturn, 5, [0], 0, 0, (0, 0), false, []),
  (14, .aload_n 0, 0, [], 0, 0, (0, 0), false, []),
  (15, .invokevirtual 304, 6, [0, 2, 1, 0, 0, 6], 0, 0, (0, 0), false, []),
  (18, .aload_n 0, 0, [], 0, 0, (0, 0), false, []),
  (19, .getfield 17, 2, [6, 1, 27, 2], 0, 0, (0, 0), false, []),
  (22, .iconst 2, 0, [], 2, 0, (0, 0), false, []),
  (23, .iaload, 3, [0], 0, 0, (0, 0), false, []),
  (24, .istore_n 2, 0, [], 0, 0, (0, 0), false, []),
  (25, .aload_n 0, 0, [], 0, 0, (0, 0), false, []),
  (26, .getfield 17, 2, [6, 1, 27, 2], 0, 0, (0, 0), false, []),
  (29, .iconst 2, 0, [], 2, 0, (0, 0), false, []),
  (30, .iload_n 1, 0, [], 0, 0, (0, 0), false, []),
  (31, .iastore, 3, [0], 0, 0, (0, 0), false, []),
  (32, .iload_n 1, 0, [], 0, 0, (0, 0), false, []),
  (33, .iload_n 2, 0, [], 0, 0, (0, 0), false, []),
  (34, .if_icmp .eq 17, 1, [33], 0, 0, (0, 0), false, []),
  (37, .aload_n 0, 0, [], 0, 0, (0, 0), false, []),
  (38, .getfield 17, 2, [6, 1, 27, 2], 0, 0, (0, 0), false, []),
  (41, .iconst 4, 0, [], 4, 0, (0, 0), false, []),
  (42, .iconst 1, 0, [], 1, 0, (0, 0), false, []),
  (43, .iastore, 3, [0], 0, 0, (0, 0), false, []),
  (44, .aload_n 0, 0, [], 0, 0, (0, 0), false, []),
  (45, .getfield 17, 2, [6, 1, 27, 2], 0, 0, (0, 0), false, []),
  (48, .iconst 5, 0, [], 5, 0, (0, 0), false, []),
  (49, .iload_n 1, 0, [], 0, 0, (0, 0), false, []),
  (50, .iastore, 3, [0], 0, 0, (0, 0), false, []),
  (51, .iload_n 2, 0, [], 0, 0, (0, 0), false, []),
  (52, .ireturn, 5, [0], 0, 0, (0, 0), false, [])]
def eX6_setStart : List zm_M := [mX6_isRoom, mX6_passes, mX6_remember]
noncomputable def vX6_setStart : List (zm_M × zm_S) := [(mX6_isRoom, sX6_isRoom), (mX6_passes, sX6_passes), (mX6_remember, sX6_remember)]
noncomputable def sX6_setStart : zm_S := zsem vX6_setStart rX6_setStart 3
set_option maxRecDepth 100000 in
theorem aX6_setStart : zall RX6 mX6_setStart eX6_setStart rX6_setStart = true := by decide +kernel
set_option maxRecDepth 100000 in
theorem wX6_setStart : ∀ w ∈ zwds RX6 mX6_setStart eX6_setStart rX6_setStart, w ∈ gT := zwd_of [1549, 1551, 69, 119, 1552, 1312, 1314, 35, 119, 1315, 1503, 1505, 63, 119, 1506, 1227, 1227, 1227, 1227] (by decide +kernel) (by decide +kernel) (z7_no (by decide +kernel))
set_option maxRecDepth 100000 in
theorem xX6_setStart : ∀ w ∈ zwxs RX6 mX6_setStart eX6_setStart rX6_setStart, zspc w = true ∧ w ∈ lw_tbl := by decide +kernel
theorem tX6_setStart {l : Launch} (hlt : l.stackTraces = false) : MetA l mX6_setStart sX6_setStart := zmet (M := mX6_setStart) (own := RX6) (envM := eX6_setStart) hlt rfl (by decide +kernel) (by decide +kernel) rfl (fun j q hq => by
  match j, hq with
  | 0, hq => cases hq; exact tX6_isRoom hlt
  | 1, hq => cases hq; exact tX6_passes hlt
  | 2, hq => cases hq; exact tX6_remember hlt
  | n + 3, hq => cases hq) aX6_setStart wX6_setStart xX6_setStart rfl
def mX6_setEnd : zm_M := (yX6_setEnd, cX6_setEnd, 3, (some .int), (2, 0, 0, 46), 1, [], (0, 0))
def rX6_setEnd : List zm_R := [(0, .aload_n 0, 0, [], 0, 0, (0, 0), false, []),
  (1, .iload_n 1, 0, [], 0, 0, (0, 0), false, []),
  (2, .iconst (-1), 0, [], (-1), 0, (0, 0), false, []),
  (3, .if_icmp .eq 11, 1, [8], 0, 0, (0, 0), false, []),
  (6, .aload_n 0, 0, [], 0, 0, (0, 0), false, []),
  (7, .iload_n 1, 0, [], 0, 0, (0, 0), false, []),
  (8, .invokevirtual 317, 6, [0, 2, 2, 1, 0, 6], 0, 0, (0, 0), false, []),
  (11, .ifCond .eq 7, 1, [10], 0, 0, (0, 0), false, []),
  (14, .iconst 1, 0, [], 1, 0, (0, 0), false, []),
  (15, .goto 4, 1, [11], 0, 0, (0, 0), false, []),
  (18, .iconst 0, 0, [], 0, 0, (0, 0), false, []),
  (19, .invokevirtual 163, 6, [0, 0, 2, 1, 0, 6], 0, 0, (0, 0), false, []),
  (22, .ifCond .ne 5, 1, [15], 0, 0, (0, 0), false, []),
  (25, .iconst 0, 0, [], 0, 0, (0, 0), false, []),
  (26, .ireturn, 5, [0], 0, 0, (0, 0), false, []),
  (27, .aload_n 0, 0, [], 0, 0, (0, 0), false, []),
  (28, .invokevirtual 304, 6, [0, 1, 1, 0, 0, 6], 0, 0, (0, 0), false, []),
  (31, .aload_n 0, 0, [], 0, 0, (0, 0), false, []),
  (32, .getfield 17, 2, [6, 1, 27, 2], 0, 0, (0, 0), false, []),
  (35, .iconst 3, 0, [], 3, 0, (0, 0), false, []),
  (36, .iaload, 3, [0], 0, 0, (0, 0), false, []),
  (37, .istore_n 2, 0, [], 0, 0, (0, 0), false, []),
  (38, .aload_n 0, 0, [], 0, 0, (0, 0), false, []),
  (39, .getfield 17, 2, [6, 1, 27, 2], 0, 0, (0, 0), false, []),
  (42, .iconst 3, 0, [], 3, 0, (0, 0), false, []),
  (43, .iload_n 1, 0, [], 0, 0, (0, 0), false, []),
  (44, .iastore, 3, [0], 0, 0, (0, 0), false, []),
  (45, .iload_n 2, 0, [], 0, 0, (0, 0), false, []),
  (46, .ireturn, 5, [0], 0, 0, (0, 0), false, [])]
def eX6_setEnd : List zm_M := [mX6_passes, mX6_remember, mX6_isRoom]
noncomputable def vX6_setEnd : List (zm_M × zm_S) := [(mX6_passes, sX6_passes), (mX6_remember, sX6_remember), (mX6_isRoom, sX6_isRoom)]
noncomputable def sX6_setEnd : zm_S := zsem vX6_setEnd rX6_setEnd 3
set_option maxRecDepth 100000 in
theorem aX6_setEnd : zall RX6 mX6_setEnd eX6_setEnd rX6_setEnd = true := by decide +kernel
set_option maxRecDepth 100000 in
theorem wX6_setEnd : ∀ w ∈ zwds RX6 mX6_setEnd eX6_setEnd rX6_setEnd, w ∈ gT := zwd_of [1549, 1551, 69, 119, 1552, 1312, 1314, 35, 119, 1315, 1503, 1505, 63, 119, 1506, 1227, 1227] (by decide +kernel) (by decide +kernel) (z7_no (by decide +kernel))
set_option maxRecDepth 100000 in
theorem xX6_setEnd : ∀ w ∈ zwxs RX6 mX6_setEnd eX6_setEnd rX6_setEnd, zspc w = true ∧ w ∈ lw_tbl := by decide +kernel
theorem tX6_setEnd {l : Launch} (hlt : l.stackTraces = false) : MetA l mX6_setEnd sX6_setEnd := zmet (M := mX6_setEnd) (own := RX6) (envM := eX6_setEnd) hlt rfl (by decide +kernel) (by decide +kernel) rfl (fun j q hq => by
  match j, hq with
  | 0, hq => cases hq; exact tX6_passes hlt
  | 1, hq => cases hq; exact tX6_remember hlt
  | 2, hq => cases hq; exact tX6_isRoom hlt
  | n + 3, hq => cases hq) aX6_setEnd wX6_setEnd xX6_setEnd rfl
def mX6_isSlot : zm_M := (yX6_isSlot, cX6_isSlot, 1, (some .boolean), (1, 0, 0, 25), 1, [], (0, 0))
def rX6_isSlot : List zm_R := [(0, .iload_n 0, 0, [], 0, 0, (0, 0), false, []),
  (1, .i2l, 0, [], 0, 0, (0, 0), false, []),
  (2, .lconst 0, 0, [], 0, 0, (0, 0), false, []),
  (3, .lconst 1, 0, [], 0, 1, (0, 0), false, []),
  (4, .invokestatic 73, 6, [1, 0, 3, 1, 0, 6], 0, 0, (0, 0), false, []),
  (7, .ireturn, 5, [1], 0, 0, (0, 0), false, [])]
def eX6_isSlot : List zm_M := [mX6_in]
noncomputable def vX6_isSlot : List (zm_M × zm_S) := [(mX6_in, sX6_in)]
noncomputable def sX6_isSlot : zm_S := zsem vX6_isSlot rX6_isSlot 1
set_option maxRecDepth 100000 in
theorem aX6_isSlot : zall RX6 mX6_isSlot eX6_isSlot rX6_isSlot = true := by decide +kernel
set_option maxRecDepth 100000 in
theorem wX6_isSlot : ∀ w ∈ zwds RX6 mX6_isSlot eX6_isSlot rX6_isSlot, w ∈ gT := zwd_of [1328, 1329, 119, 1330] (by decide +kernel) (by decide +kernel) (z7_no (by decide +kernel))
set_option maxRecDepth 100000 in
theorem xX6_isSlot : ∀ w ∈ zwxs RX6 mX6_isSlot eX6_isSlot rX6_isSlot, zspc w = true ∧ w ∈ lw_tbl := by decide +kernel
theorem tX6_isSlot {l : Launch} (hlt : l.stackTraces = false) : MetA l mX6_isSlot sX6_isSlot := zmet (M := mX6_isSlot) (own := RX6) (envM := eX6_isSlot) hlt rfl (by decide +kernel) (by decide +kernel) rfl (fun j q hq => by
  match j, hq with
  | 0, hq => cases hq; exact tX6_in hlt
  | n + 1, hq => cases hq) aX6_isSlot wX6_isSlot xX6_isSlot rfl
def mX6_keep : zm_M := (yX6_keep, cX6_keep, 3, (some .int), (2, 0, 0, 45), 1, [], (0, 0))
def rX6_keep : List zm_R := [(0, .aload_n 0, 0, [], 0, 0, (0, 0), false, []),
  (1, .iload_n 1, 0, [], 0, 0, (0, 0), false, []),
  (2, .invokestatic 418, 6, [1, 0, 1, 1, 0, 6], 0, 0, (0, 0), false, []),
  (5, .invokevirtual 163, 6, [0, 1, 2, 1, 0, 6], 0, 0, (0, 0), false, []),
  (8, .ifCond .ne 5, 1, [7], 0, 0, (0, 0), false, []),
  (11, .iconst 0, 0, [], 0, 0, (0, 0), false, []),
  (12, .ireturn, 5, [0], 0, 0, (0, 0), false, []),
  (13, .iconst 0, 0, [], 0, 0, (0, 0), false, []),
  (14, .istore_n 2, 0, [], 0, 0, (0, 0), false, []),
  (15, .iload_n 2, 0, [], 0, 0, (0, 0), true, []),
  (16, .sipush 149, 0, [], 149, 0, (0, 0), false, []),
  (19, .if_icmp .ge 27, 1, [26], 0, 0, (0, 0), false, []),
  (22, .aload_n 0, 0, [], 0, 0, (0, 0), false, []),
  (23, .getfield 54, 2, [6, 21, 27, 2], 0, 0, (0, 0), false, []),
  (26, .sipush 149, 0, [], 149, 0, (0, 0), false, []),
  (29, .iload_n 1, 0, [], 0, 0, (0, 0), false, []),
  (30, .imul, 0, [], 0, 0, (0, 0), false, []),
  (31, .iload_n 2, 0, [], 0, 0, (0, 0), false, []),
  (32, .iadd, 0, [], 0, 0, (0, 0), false, []),
  (33, .aload_n 0, 0, [], 0, 0, (0, 0), false, []),
  (34, .getfield 17, 2, [6, 1, 27, 2], 0, 0, (0, 0), false, []),
  (37, .iload_n 2, 0, [], 0, 0, (0, 0), false, []),
  (38, .iaload, 3, [0], 0, 0, (0, 0), false, []),
  (39, .iastore, 3, [0], 0, 0, (0, 0), false, []),
  (40, .iinc 2 1, 0, [], 1, 0, (0, 0), false, []),
  (43, .goto (-28), 1, [9], 0, 0, (0, 0), false, []),
  (46, .aload_n 0, 0, [], 0, 0, (0, 0), false, []),
  (47, .getfield 57, 2, [6, 22, 27, 2], 0, 0, (0, 0), false, []),
  (50, .iload_n 1, 0, [], 0, 0, (0, 0), false, []),
  (51, .iconst 1, 0, [], 1, 0, (0, 0), false, []),
  (52, .bastore, 3, [3], 0, 0, (0, 0), false, []),
  (53, .aload_n 0, 0, [], 0, 0, (0, 0), false, []),
  (54, .getfield 17, 2, [6, 1, 27, 2], 0, 0, (0, 0), false, []),
  (57, .iconst 4, 0, [], 4, 0, (0, 0), false, []),
  (58, .iaload, 3, [0], 0, 0, (0, 0), false, []),
  (59, .ireturn, 5, [0], 0, 0, (0, 0), false, [])]
def eX6_keep : List zm_M := [mX6_isSlot, mX6_passes]
noncomputable def vX6_keep : List (zm_M × zm_S) := [(mX6_isSlot, sX6_isSlot), (mX6_passes, sX6_passes)]
noncomputable def sX6_keep : zm_S := zsem vX6_keep rX6_keep 3
set_option maxRecDepth 100000 in
theorem aX6_keep : zall RX6 mX6_keep eX6_keep rX6_keep = true := by decide +kernel
set_option maxRecDepth 100000 in
theorem wX6_keep : ∀ w ∈ zwds RX6 mX6_keep eX6_keep rX6_keep, w ∈ gT := zwd_of [1908, 1909, 119, 1910, 1312, 1314, 35, 119, 1315, 1247, 1227, 1248, 1227] (by decide +kernel) (by decide +kernel) (z7_no (by decide +kernel))
set_option maxRecDepth 100000 in
theorem xX6_keep : ∀ w ∈ zwxs RX6 mX6_keep eX6_keep rX6_keep, zspc w = true ∧ w ∈ lw_tbl := by decide +kernel
theorem tX6_keep {l : Launch} (hlt : l.stackTraces = false) : MetA l mX6_keep sX6_keep := zmet (M := mX6_keep) (own := RX6) (envM := eX6_keep) hlt rfl (by decide +kernel) (by decide +kernel) rfl (fun j q hq => by
  match j, hq with
  | 0, hq => cases hq; exact tX6_isSlot hlt
  | 1, hq => cases hq; exact tX6_passes hlt
  | n + 2, hq => cases hq) aX6_keep wX6_keep xX6_keep rfl
def mX6_restore : zm_M := (yX6_restore, cX6_restore, 3, (some .int), (2, 0, 0, 45), 1, [], (0, 0))
def rX6_restore : List zm_R := [(0, .aload_n 0, 0, [], 0, 0, (0, 0), false, []),
  (1, .iload_n 1, 0, [], 0, 0, (0, 0), false, []),
  (2, .invokestatic 418, 6, [1, 0, 1, 1, 0, 6], 0, 0, (0, 0), false, []),
  (5, .iload_n 1, 0, [], 0, 0, (0, 0), false, []),
  (6, .invokestatic 418, 6, [1, 0, 1, 1, 0, 6], 0, 0, (0, 0), false, []),
  (9, .ifCond .eq 12, 1, [11], 0, 0, (0, 0), false, []),
  (12, .aload_n 0, 0, [], 0, 0, (0, 0), false, []),
  (13, .getfield 57, 2, [6, 22, 27, 2], 0, 0, (0, 0), false, []),
  (16, .iload_n 1, 0, [], 0, 0, (0, 0), false, []),
  (17, .baload, 3, [3], 0, 0, (0, 0), false, []),
  (18, .ifCond .eq 7, 1, [13], 0, 0, (0, 0), false, []),
  (21, .iconst 1, 0, [], 1, 0, (0, 0), false, []),
  (22, .goto 4, 1, [14], 0, 0, (0, 0), false, []),
  (25, .iconst 0, 0, [], 0, 0, (0, 0), false, []),
  (26, .invokevirtual 323, 6, [0, 1, 3, 1, 0, 6], 0, 0, (0, 0), false, []),
  (29, .ifCond .ne 5, 1, [18], 0, 0, (0, 0), false, []),
  (32, .iconst 0, 0, [], 0, 0, (0, 0), false, []),
  (33, .ireturn, 5, [0], 0, 0, (0, 0), false, []),
  (34, .aload_n 0, 0, [], 0, 0, (0, 0), false, []),
  (35, .invokevirtual 304, 6, [0, 2, 1, 0, 0, 6], 0, 0, (0, 0), false, []),
  (38, .iconst 0, 0, [], 0, 0, (0, 0), false, []),
  (39, .istore_n 2, 0, [], 0, 0, (0, 0), false, []),
  (40, .iload_n 2, 0, [], 0, 0, (0, 0), true, []),
  (41, .sipush 149, 0, [], 149, 0, (0, 0), false, []),
  (44, .if_icmp .ge 27, 1, [39], 0, 0, (0, 0), false, []),
  (47, .aload_n 0, 0, [], 0, 0, (0, 0), false, []),
  (48, .getfield 17, 2, [6, 1, 27, 2], 0, 0, (0, 0), false, []),
  (51, .iload_n 2, 0, [], 0, 0, (0, 0), false, []),
  (52, .aload_n 0, 0, [], 0, 0, (0, 0), false, []),
  (53, .getfield 54, 2, [6, 21, 27, 2], 0, 0, (0, 0), false, []),
  (56, .sipush 149, 0, [], 149, 0, (0, 0), false, []),
  (59, .iload_n 1, 0, [], 0, 0, (0, 0), false, []),
  (60, .imul, 0, [], 0, 0, (0, 0), false, []),
  (61, .iload_n 2, 0, [], 0, 0, (0, 0), false, []),
  (62, .iadd, 0, [], 0, 0, (0, 0), false, []),
  (63, .iaload, 3, [0], 0, 0, (0, 0), false, []),
  (64, .iastore, 3, [0], 0, 0, (0, 0), false, []),
  (65, .iinc 2 1, 0, [], 1, 0, (0, 0), false, []),
  (68, .goto (-28), 1, [22], 0, 0, (0, 0), false, []),
  (71, .aload_n 0, 0, [], 0, 0, (0, 0), false, []),
  (72, .getfield 17, 2, [6, 1, 27, 2], 0, 0, (0, 0), false, []),
  (75, .iconst 4, 0, [], 4, 0, (0, 0), false, []),
  (76, .iaload, 3, [0], 0, 0, (0, 0), false, []),
  (77, .ireturn, 5, [0], 0, 0, (0, 0), false, [])]
def eX6_restore : List zm_M := [mX6_isSlot, mX6_passes2, mX6_remember]
noncomputable def vX6_restore : List (zm_M × zm_S) := [(mX6_isSlot, sX6_isSlot), (mX6_passes2, sX6_passes2), (mX6_remember, sX6_remember)]
noncomputable def sX6_restore : zm_S := zsem vX6_restore rX6_restore 3
set_option maxRecDepth 100000 in
theorem aX6_restore : zall RX6 mX6_restore eX6_restore rX6_restore = true := by decide +kernel
set_option maxRecDepth 100000 in
theorem wX6_restore : ∀ w ∈ zwds RX6 mX6_restore eX6_restore rX6_restore, w ∈ gT := zwd_of [1908, 1909, 119, 1910, 1908, 1909, 119, 1910, 1248, 1554, 1556, 70, 119, 1557, 1503, 1505, 63, 119, 1506, 1227, 1247, 1227] (by decide +kernel) (by decide +kernel) (z7_no (by decide +kernel))
set_option maxRecDepth 100000 in
theorem xX6_restore : ∀ w ∈ zwxs RX6 mX6_restore eX6_restore rX6_restore, zspc w = true ∧ w ∈ lw_tbl := by decide +kernel
theorem tX6_restore {l : Launch} (hlt : l.stackTraces = false) : MetA l mX6_restore sX6_restore := zmet (M := mX6_restore) (own := RX6) (envM := eX6_restore) hlt rfl (by decide +kernel) (by decide +kernel) rfl (fun j q hq => by
  match j, hq with
  | 0, hq => cases hq; exact tX6_isSlot hlt
  | 1, hq => cases hq; exact tX6_passes2 hlt
  | 2, hq => cases hq; exact tX6_remember hlt
  | n + 3, hq => cases hq) aX6_restore wX6_restore xX6_restore rfl
def mX6_undo : zm_M := (yX6_undo, cX6_undo, 2, (some .int), (2, 0, 0, 44), 0, [], (0, 0))
def rX6_undo : List zm_R := [(0, .aload_n 0, 0, [], 0, 0, (0, 0), false, []),
  (1, .aload_n 0, 0, [], 0, 0, (0, 0), false, []),
  (2, .getfield 421, 2, [6, 24, 27, 0], 0, 0, (0, 0), false, []),
  (5, .ifCond .le 7, 1, [6], 0, 0, (0, 0), false, []),
  (8, .iconst 1, 0, [], 1, 0, (0, 0), false, []),
  (9, .goto 4, 1, [7], 0, 0, (0, 0), false, []),
  (12, .iconst 0, 0, [], 0, 0, (0, 0), false, []),
  (13, .invokevirtual 163, 6, [0, 0, 2, 1, 0, 6], 0, 0, (0, 0), false, []),
  (16, .ifCond .ne 5, 1, [11], 0, 0, (0, 0), false, []),
  (19, .iconst 0, 0, [], 0, 0, (0, 0), false, []),
  (20, .ireturn, 5, [0], 0, 0, (0, 0), false, []),
  (21, .aload_n 0, 0, [], 0, 0, (0, 0), false, []),
  (22, .dup, 0, [], 0, 0, (0, 0), false, []),
  (23, .getfield 421, 2, [6, 24, 27, 0], 0, 0, (0, 0), false, []),
  (26, .iconst 1, 0, [], 1, 0, (0, 0), false, []),
  (27, .isub, 0, [], 0, 0, (0, 0), false, []),
  (28, .putfield 421, 2, [6, 24, 27, 0], 0, 0, (0, 0), false, []),
  (31, .iconst 0, 0, [], 0, 0, (0, 0), false, []),
  (32, .istore_n 1, 0, [], 0, 0, (0, 0), false, []),
  (33, .iload_n 1, 0, [], 0, 0, (0, 0), true, []),
  (34, .sipush 149, 0, [], 149, 0, (0, 0), false, []),
  (37, .if_icmp .ge 30, 1, [37], 0, 0, (0, 0), false, []),
  (40, .aload_n 0, 0, [], 0, 0, (0, 0), false, []),
  (41, .getfield 17, 2, [6, 1, 27, 2], 0, 0, (0, 0), false, []),
  (44, .iload_n 1, 0, [], 0, 0, (0, 0), false, []),
  (45, .aload_n 0, 0, [], 0, 0, (0, 0), false, []),
  (46, .getfield 60, 2, [6, 23, 27, 2], 0, 0, (0, 0), false, []),
  (49, .sipush 149, 0, [], 149, 0, (0, 0), false, []),
  (52, .aload_n 0, 0, [], 0, 0, (0, 0), false, []),
  (53, .getfield 421, 2, [6, 24, 27, 0], 0, 0, (0, 0), false, []),
  (56, .imul, 0, [], 0, 0, (0, 0), false, []),
  (57, .iload_n 1, 0, [], 0, 0, (0, 0), false, []),
  (58, .iadd, 0, [], 0, 0, (0, 0), false, []),
  (59, .iaload, 3, [0], 0, 0, (0, 0), false, []),
  (60, .iastore, 3, [0], 0, 0, (0, 0), false, []),
  (61, .iinc 1 1, 0, [], 1, 0, (0, 0), false, []),
  (64, .goto (-31), 1, [19], 0, 0, (0, 0), false, []),
  (67, .aload_n 0, 0, [], 0, 0, (0, 0), false, []),
  (68, .getfield 421, 2, [6, 24, 27, 0], 0, 0, (0, 0), false, []),
  (71, .ireturn, 5, [0], 0, 0, (0, 0), false, [])]
def eX6_undo : List zm_M := [mX6_passes]
noncomputable def vX6_undo : List (zm_M × zm_S) := [(mX6_passes, sX6_passes)]
noncomputable def sX6_undo : zm_S := zsem vX6_undo rX6_undo 2
set_option maxRecDepth 100000 in
theorem aX6_undo : zall RX6 mX6_undo eX6_undo rX6_undo = true := by decide +kernel
set_option maxRecDepth 100000 in
theorem wX6_undo : ∀ w ∈ zwds RX6 mX6_undo eX6_undo rX6_undo, w ∈ gT := zwd_of [1250, 1312, 1314, 35, 119, 1315, 1250, 1250, 1227, 1249, 1250, 1250] (by decide +kernel) (by decide +kernel) (z7_no (by decide +kernel))
set_option maxRecDepth 100000 in
theorem xX6_undo : ∀ w ∈ zwxs RX6 mX6_undo eX6_undo rX6_undo, zspc w = true ∧ w ∈ lw_tbl := by decide +kernel
theorem tX6_undo {l : Launch} (hlt : l.stackTraces = false) : MetA l mX6_undo sX6_undo := zmet (M := mX6_undo) (own := RX6) (envM := eX6_undo) hlt rfl (by decide +kernel) (by decide +kernel) rfl (fun j q hq => by
  match j, hq with
  | 0, hq => cases hq; exact tX6_passes hlt
  | n + 1, hq => cases hq) aX6_undo wX6_undo xX6_undo rfl
def mX6_undoCount : zm_M := (yX6_undoCount, cX6_undoCount, 1, (some .int), (0, 0, 0, 0), 0, [], (0, 0))
def rX6_undoCount : List zm_R := [(0, .aload_n 0, 0, [], 0, 0, (0, 0), false, []),
  (1, .iconst 0, 0, [], 0, 0, (0, 0), false, []),
  (2, .putfield 3, 2, [6, 0, 27, 0], 0, 0, (0, 0), false, []),
  (5, .aload_n 0, 0, [], 0, 0, (0, 0), false, []),
  (6, .getfield 421, 2, [6, 24, 27, 0], 0, 0, (0, 0), false, []),
  (9, .ireturn, 5, [0], 0, 0, (0, 0), false, [])]
def eX6_undoCount : List zm_M := []
noncomputable def vX6_undoCount : List (zm_M × zm_S) := []
noncomputable def sX6_undoCount : zm_S := zsem vX6_undoCount rX6_undoCount 1
set_option maxRecDepth 100000 in
theorem aX6_undoCount : zall RX6 mX6_undoCount eX6_undoCount rX6_undoCount = true := by decide +kernel
set_option maxRecDepth 100000 in
theorem wX6_undoCount : ∀ w ∈ zwds RX6 mX6_undoCount eX6_undoCount rX6_undoCount, w ∈ gT := zwd_of [1226, 1250] (by decide +kernel) (by decide +kernel) (z7_no (by decide +kernel))
set_option maxRecDepth 100000 in
theorem xX6_undoCount : ∀ w ∈ zwxs RX6 mX6_undoCount eX6_undoCount rX6_undoCount, zspc w = true ∧ w ∈ lw_tbl := by decide +kernel
theorem tX6_undoCount {l : Launch} (hlt : l.stackTraces = false) : MetA l mX6_undoCount sX6_undoCount := zmet (M := mX6_undoCount) (own := RX6) (envM := eX6_undoCount) hlt rfl (by decide +kernel) (by decide +kernel) rfl (fun j q hq => by cases hq) aX6_undoCount wX6_undoCount xX6_undoCount rfl
def mX6_write : zm_M := (yX6_write, cX6_write, 2, none, (0, 0, 0, 0), 1, [], (0, 0))
def rX6_write : List zm_R := [(0, .aload_n 0, 0, [], 0, 0, (0, 0), false, []),
  (1, .getfield 63, 2, [6, 25, 27, 2], 0, 0, (0, 0), false, []),
  (4, .aload_n 0, 0, [], 0, 0, (0, 0), false, []),
  (5, .getfield 424, 2, [6, 26, 27, 0], 0, 0, (0, 0), false, []),
  (8, .iload_n 1, 0, [], 0, 0, (0, 0), false, []),
  (9, .i2b, 0, [], 0, 0, (0, 0), false, []),
  (10, .bastore, 3, [2], 0, 0, (0, 0), false, []),
  (11, .aload_n 0, 0, [], 0, 0, (0, 0), false, []),
  (12, .dup, 0, [], 0, 0, (0, 0), false, []),
  (13, .getfield 424, 2, [6, 26, 27, 0], 0, 0, (0, 0), false, []),
  (16, .iconst 1, 0, [], 1, 0, (0, 0), false, []),
  (17, .iadd, 0, [], 0, 0, (0, 0), false, []),
  (18, .putfield 424, 2, [6, 26, 27, 0], 0, 0, (0, 0), false, []),
  (21, .return_, 5, [], 0, 0, (0, 0), false, [])]
def eX6_write : List zm_M := []
noncomputable def vX6_write : List (zm_M × zm_S) := []
noncomputable def sX6_write : zm_S := zsem vX6_write rX6_write 2
set_option maxRecDepth 100000 in
theorem aX6_write : zall RX6 mX6_write eX6_write rX6_write = true := by decide +kernel
set_option maxRecDepth 100000 in
theorem wX6_write : ∀ w ∈ zwds RX6 mX6_write eX6_write rX6_write, w ∈ gT := zwd_of [1251, 1252, 1252, 1252] (by decide +kernel) (by decide +kernel) (z7_no (by decide +kernel))
set_option maxRecDepth 100000 in
theorem xX6_write : ∀ w ∈ zwxs RX6 mX6_write eX6_write rX6_write, zspc w = true ∧ w ∈ lw_tbl := by decide +kernel
theorem tX6_write {l : Launch} (hlt : l.stackTraces = false) : MetA l mX6_write sX6_write := zmet (M := mX6_write) (own := RX6) (envM := eX6_write) hlt rfl (by decide +kernel) (by decide +kernel) rfl (fun j q hq => by cases hq) aX6_write wX6_write xX6_write rfl
def mX6_writeInt : zm_M := (yX6_writeInt, cX6_writeInt, 2, none, (1, 0, 0, 21), 1, [], (0, 0))
def rX6_writeInt : List zm_R := [(0, .iload_n 1, 0, [], 0, 0, (0, 0), false, []),
  (1, .bipush 99, 0, [], 99, 0, (0, 0), false, []),
  (3, .if_icmp .le 14, 1, [10], 0, 0, (0, 0), false, []),
  (6, .aload_n 0, 0, [], 0, 0, (0, 0), false, []),
  (7, .bipush 48, 0, [], 48, 0, (0, 0), false, []),
  (9, .iload_n 1, 0, [], 0, 0, (0, 0), false, []),
  (10, .bipush 100, 0, [], 100, 0, (0, 0), false, []),
  (12, .idiv, 11, [], 0, 0, (0, 0), false, []),
  (13, .iadd, 0, [], 0, 0, (0, 0), false, []),
  (14, .invokevirtual 427, 6, [0, 0, 2, 0, 0, 6], 0, 0, (0, 0), false, []),
  (17, .iload_n 1, 0, [], 0, 0, (0, 0), false, []),
  (18, .bipush 9, 0, [], 9, 0, (0, 0), false, []),
  (20, .if_icmp .le 17, 1, [22], 0, 0, (0, 0), false, []),
  (23, .aload_n 0, 0, [], 0, 0, (0, 0), false, []),
  (24, .bipush 48, 0, [], 48, 0, (0, 0), false, []),
  (26, .iload_n 1, 0, [], 0, 0, (0, 0), false, []),
  (27, .bipush 10, 0, [], 10, 0, (0, 0), false, []),
  (29, .idiv, 11, [], 0, 0, (0, 0), false, []),
  (30, .bipush 10, 0, [], 10, 0, (0, 0), false, []),
  (32, .irem, 11, [], 0, 0, (0, 0), false, []),
  (33, .iadd, 0, [], 0, 0, (0, 0), false, []),
  (34, .invokevirtual 427, 6, [0, 0, 2, 0, 0, 6], 0, 0, (0, 0), false, []),
  (37, .aload_n 0, 0, [], 0, 0, (0, 0), false, []),
  (38, .bipush 48, 0, [], 48, 0, (0, 0), false, []),
  (40, .iload_n 1, 0, [], 0, 0, (0, 0), false, []),
  (41, .bipush 10, 0, [], 10, 0, (0, 0), false, []),
  (43, .irem, 11, [], 0, 0, (0, 0), false, []),
  (44, .iadd, 0, [], 0, 0, (0, 0), false, []),
  (45, .invokevirtual 427, 6, [0, 0, 2, 0, 0, 6], 0, 0, (0, 0), false, []),
  (48, .return_, 5, [], 0, 0, (0, 0), false, [])]
def eX6_writeInt : List zm_M := [mX6_write]
noncomputable def vX6_writeInt : List (zm_M × zm_S) := [(mX6_write, sX6_write)]
noncomputable def sX6_writeInt : zm_S := zsem vX6_writeInt rX6_writeInt 2
set_option maxRecDepth 100000 in
theorem aX6_writeInt : zall RX6 mX6_writeInt eX6_writeInt rX6_writeInt = true := by decide +kernel
set_option maxRecDepth 100000 in
theorem wX6_writeInt : ∀ w ∈ zwds RX6 mX6_writeInt eX6_writeInt rX6_writeInt, w ∈ gT := zwd_of [1931, 1933, 110, 119, 1934, 1931, 1933, 110, 119, 1934, 1931, 1933, 110, 119, 1934] (by decide +kernel) (by decide +kernel) (z7_no (by decide +kernel))
set_option maxRecDepth 100000 in
theorem xX6_writeInt : ∀ w ∈ zwxs RX6 mX6_writeInt eX6_writeInt rX6_writeInt, zspc w = true ∧ w ∈ lw_tbl := by decide +kernel
theorem tX6_writeInt {l : Launch} (hlt : l.stackTraces = false) : MetA l mX6_writeInt sX6_writeInt := zmet (M := mX6_writeInt) (own := RX6) (envM := eX6_writeInt) hlt rfl (by decide +kernel) (by decide +kernel) rfl (fun j q hq => by
  match j, hq with
  | 0, hq => cases hq; exact tX6_write hlt
  | n + 1, hq => cases hq) aX6_writeInt wX6_writeInt xX6_writeInt rfl
def mX6_writeName : zm_M := (yX6_writeName, cX6_writeName, 5, none, (1, 0, 0, 22), 1, [], (0, 0))
def rX6_writeName : List zm_R := [(0, .aload_n 0, 0, [], 0, 0, (0, 0), false, []),
  (1, .iload_n 1, 0, [], 0, 0, (0, 0), false, []),
  (2, .iconst 2, 0, [], 2, 0, (0, 0), false, []),
  (3, .invokevirtual 90, 6, [0, 0, 3, 1, 0, 6], 0, 0, (0, 0), false, []),
  (6, .istore_n 2, 0, [], 0, 0, (0, 0), false, []),
  (7, .iconst 1, 0, [], 1, 0, (0, 0), false, []),
  (8, .istore_n 3, 0, [], 0, 0, (0, 0), false, []),
  (9, .iload_n 2, 0, [], 0, 0, (0, 0), true, [1, 4]),
  (10, .iload_n 3, 0, [], 0, 0, (0, 0), false, []),
  (11, .idiv, 11, [], 0, 0, (0, 0), false, []),
  (12, .bipush 27, 0, [], 27, 0, (0, 0), false, []),
  (14, .if_icmp .lt 11, 1, [17], 0, 0, (0, 0), false, []),
  (17, .iload_n 3, 0, [], 0, 0, (0, 0), false, []),
  (18, .bipush 27, 0, [], 27, 0, (0, 0), false, []),
  (20, .imul, 0, [], 0, 0, (0, 0), false, []),
  (21, .istore_n 3, 0, [], 0, 0, (0, 0), false, []),
  (22, .goto (-13), 1, [7], 0, 0, (0, 0), false, []),
  (25, .iload_n 3, 0, [], 0, 0, (0, 0), false, []),
  (26, .istore 4, 0, [], 0, 0, (0, 0), false, []),
  (28, .iload 4, 0, [], 0, 0, (0, 0), true, [1, 3]),
  (30, .ifCond .le 31, 1, [37], 0, 0, (0, 0), false, []),
  (33, .iload_n 2, 0, [], 0, 0, (0, 0), false, []),
  (34, .ifCond .le 27, 1, [37], 0, 0, (0, 0), false, []),
  (37, .aload_n 0, 0, [], 0, 0, (0, 0), false, []),
  (38, .bipush 96, 0, [], 96, 0, (0, 0), false, []),
  (40, .iload_n 2, 0, [], 0, 0, (0, 0), false, []),
  (41, .iload 4, 0, [], 0, 0, (0, 0), false, []),
  (43, .idiv, 11, [], 0, 0, (0, 0), false, []),
  (44, .bipush 27, 0, [], 27, 0, (0, 0), false, []),
  (46, .irem, 11, [], 0, 0, (0, 0), false, []),
  (47, .iadd, 0, [], 0, 0, (0, 0), false, []),
  (48, .invokevirtual 427, 6, [0, 1, 2, 0, 0, 6], 0, 0, (0, 0), false, []),
  (51, .iload 4, 0, [], 0, 0, (0, 0), false, []),
  (53, .bipush 27, 0, [], 27, 0, (0, 0), false, []),
  (55, .idiv, 11, [], 0, 0, (0, 0), false, []),
  (56, .istore 4, 0, [], 0, 0, (0, 0), false, []),
  (58, .goto (-30), 1, [19], 0, 0, (0, 0), false, []),
  (61, .return_, 5, [], 0, 0, (0, 0), false, [])]
def eX6_writeName : List zm_M := [mX6_ofRoom, mX6_write]
noncomputable def vX6_writeName : List (zm_M × zm_S) := [(mX6_ofRoom, sX6_ofRoom), (mX6_write, sX6_write)]
noncomputable def sX6_writeName : zm_S := zsem vX6_writeName rX6_writeName 5
set_option maxRecDepth 100000 in
theorem aX6_writeName : zall RX6 mX6_writeName eX6_writeName rX6_writeName = true := by decide +kernel
set_option maxRecDepth 100000 in
theorem wX6_writeName : ∀ w ∈ zwds RX6 mX6_writeName eX6_writeName rX6_writeName, w ∈ gT := zwd_of [1451, 1453, 51, 119, 1454, 1931, 1933, 110, 119, 1934] (by decide +kernel) (by decide +kernel) (z7_no (by decide +kernel))
set_option maxRecDepth 100000 in
theorem xX6_writeName : ∀ w ∈ zwxs RX6 mX6_writeName eX6_writeName rX6_writeName, zspc w = true ∧ w ∈ lw_tbl := by decide +kernel
theorem tX6_writeName {l : Launch} (hlt : l.stackTraces = false) : MetA l mX6_writeName sX6_writeName := zmet (M := mX6_writeName) (own := RX6) (envM := eX6_writeName) hlt rfl (by decide +kernel) (by decide +kernel) rfl (fun j q hq => by
  match j, hq with
  | 0, hq => cases hq; exact tX6_ofRoom hlt
  | 1, hq => cases hq; exact tX6_write hlt
  | n + 2, hq => cases hq) aX6_writeName wX6_writeName xX6_writeName rfl
def mX6_writePath : zm_M := (yX6_writePath, cX6_writePath, 3, none, (2, 0, 0, 46), 1, [], (0, 0))
def rX6_writePath : List zm_R := [(0, .aload_n 0, 0, [], 0, 0, (0, 0), false, []),
  (1, .iconst 0, 0, [], 0, 0, (0, 0), false, []),
  (2, .putfield 424, 2, [6, 26, 27, 0], 0, 0, (0, 0), false, []),
  (5, .iconst 0, 0, [], 0, 0, (0, 0), false, []),
  (6, .istore_n 2, 0, [], 0, 0, (0, 0), false, []),
  (7, .iload_n 2, 0, [], 0, 0, (0, 0), true, []),
  (8, .iload_n 1, 0, [], 0, 0, (0, 0), false, []),
  (9, .if_icmp .ge 29, 1, [21], 0, 0, (0, 0), false, []),
  (12, .iload_n 2, 0, [], 0, 0, (0, 0), false, []),
  (13, .ifCond .le 9, 1, [13], 0, 0, (0, 0), false, []),
  (16, .aload_n 0, 0, [], 0, 0, (0, 0), false, []),
  (17, .bipush 62, 0, [], 62, 0, (0, 0), false, []),
  (19, .invokevirtual 427, 6, [0, 1, 2, 0, 0, 6], 0, 0, (0, 0), false, []),
  (22, .aload_n 0, 0, [], 0, 0, (0, 0), false, []),
  (23, .aload_n 0, 0, [], 0, 0, (0, 0), false, []),
  (24, .getfield 41, 2, [6, 8, 27, 2], 0, 0, (0, 0), false, []),
  (27, .iload_n 2, 0, [], 0, 0, (0, 0), false, []),
  (28, .iaload, 3, [0], 0, 0, (0, 0), false, []),
  (29, .invokevirtual 430, 6, [0, 0, 2, 0, 0, 6], 0, 0, (0, 0), false, []),
  (32, .iinc 2 1, 0, [], 1, 0, (0, 0), false, []),
  (35, .goto (-28), 1, [5], 0, 0, (0, 0), false, []),
  (38, .return_, 5, [], 0, 0, (0, 0), false, [])]
def eX6_writePath : List zm_M := [mX6_writeName, mX6_write]
noncomputable def vX6_writePath : List (zm_M × zm_S) := [(mX6_writeName, sX6_writeName), (mX6_write, sX6_write)]
noncomputable def sX6_writePath : zm_S := zsem vX6_writePath rX6_writePath 3
set_option maxRecDepth 100000 in
theorem aX6_writePath : zall RX6 mX6_writePath eX6_writePath rX6_writePath = true := by decide +kernel
set_option maxRecDepth 100000 in
theorem wX6_writePath : ∀ w ∈ zwds RX6 mX6_writePath eX6_writePath rX6_writePath, w ∈ gT := zwd_of [1252, 1931, 1933, 110, 119, 1934, 1234, 1935, 1937, 111, 119, 1938] (by decide +kernel) (by decide +kernel) (z7_no (by decide +kernel))
set_option maxRecDepth 100000 in
theorem xX6_writePath : ∀ w ∈ zwxs RX6 mX6_writePath eX6_writePath rX6_writePath, zspc w = true ∧ w ∈ lw_tbl := by decide +kernel
theorem tX6_writePath {l : Launch} (hlt : l.stackTraces = false) : MetA l mX6_writePath sX6_writePath := zmet (M := mX6_writePath) (own := RX6) (envM := eX6_writePath) hlt rfl (by decide +kernel) (by decide +kernel) rfl (fun j q hq => by
  match j, hq with
  | 0, hq => cases hq; exact tX6_writeName hlt
  | 1, hq => cases hq; exact tX6_write hlt
  | n + 2, hq => cases hq) aX6_writePath wX6_writePath xX6_writePath rfl
def mX6_writeWalk : zm_M := (yX6_writeWalk, cX6_writeWalk, 1, (some .int), (6, 0, 0, 142), 0, [], (0, 0))
def rX6_writeWalk : List zm_R := [(0, .aload_n 0, 0, [], 0, 0, (0, 0), false, []),
  (1, .iconst 0, 0, [], 0, 0, (0, 0), false, []),
  (2, .putfield 3, 2, [6, 0, 27, 0], 0, 0, (0, 0), false, []),
  (5, .aload_n 0, 0, [], 0, 0, (0, 0), false, []),
  (6, .invokevirtual 400, 6, [0, 0, 1, 0, 0, 6], 0, 0, (0, 0), false, []),
  (9, .aload_n 0, 0, [], 0, 0, (0, 0), false, []),
  (10, .aload_n 0, 0, [], 0, 0, (0, 0), false, []),
  (11, .getfield 17, 2, [6, 1, 27, 2], 0, 0, (0, 0), false, []),
  (14, .iconst 4, 0, [], 4, 0, (0, 0), false, []),
  (15, .iaload, 3, [0], 0, 0, (0, 0), false, []),
  (16, .invokevirtual 433, 6, [0, 1, 2, 0, 0, 6], 0, 0, (0, 0), false, []),
  (19, .aload_n 0, 0, [], 0, 0, (0, 0), false, []),
  (20, .invokevirtual 351, 6, [0, 2, 1, 2, 0, 6], 0, 0, (0, 0), false, []),
  (23, .lconst 0, 0, [], 0, 0, (0, 0), false, []),
  (24, .lcmp, 0, [], 0, 0, (0, 0), false, []),
  (25, .ifCond .ne 9, 1, [19], 0, 0, (0, 0), false, []),
  (28, .aload_n 0, 0, [], 0, 0, (0, 0), false, []),
  (29, .bipush 33, 0, [], 33, 0, (0, 0), false, []),
  (31, .invokevirtual 427, 6, [0, 3, 2, 0, 0, 6], 0, 0, (0, 0), false, []),
  (34, .aload_n 0, 0, [], 0, 0, (0, 0), false, []),
  (35, .getfield 424, 2, [6, 26, 27, 0], 0, 0, (0, 0), false, []),
  (38, .ireturn, 5, [0], 0, 0, (0, 0), false, [])]
def eX6_writeWalk : List zm_M := [mX6_layWalk, mX6_writePath, mX6_completionsNow, mX6_write]
noncomputable def vX6_writeWalk : List (zm_M × zm_S) := [(mX6_layWalk, sX6_layWalk), (mX6_writePath, sX6_writePath), (mX6_completionsNow, sX6_completionsNow), (mX6_write, sX6_write)]
noncomputable def sX6_writeWalk : zm_S := zsem vX6_writeWalk rX6_writeWalk 1
set_option maxRecDepth 100000 in
theorem aX6_writeWalk : zall RX6 mX6_writeWalk eX6_writeWalk rX6_writeWalk = true := by decide +kernel
set_option maxRecDepth 100000 in
theorem wX6_writeWalk : ∀ w ∈ zwds RX6 mX6_writeWalk eX6_writeWalk rX6_writeWalk, w ∈ gT := zwd_of [1226, 1854, 1856, 106, 119, 1857, 1227, 1927, 1929, 109, 119, 1930, 1659, 1661, 88, 119, 1662, 1931, 1933, 110, 119, 1934, 1252] (by decide +kernel) (by decide +kernel) (z7_no (by decide +kernel))
set_option maxRecDepth 100000 in
theorem xX6_writeWalk : ∀ w ∈ zwxs RX6 mX6_writeWalk eX6_writeWalk rX6_writeWalk, zspc w = true ∧ w ∈ lw_tbl := by decide +kernel
theorem tX6_writeWalk {l : Launch} (hlt : l.stackTraces = false) : MetA l mX6_writeWalk sX6_writeWalk := zmet (M := mX6_writeWalk) (own := RX6) (envM := eX6_writeWalk) hlt rfl (by decide +kernel) (by decide +kernel) rfl (fun j q hq => by
  match j, hq with
  | 0, hq => cases hq; exact tX6_layWalk hlt
  | 1, hq => cases hq; exact tX6_writePath hlt
  | 2, hq => cases hq; exact tX6_completionsNow hlt
  | 3, hq => cases hq; exact tX6_write hlt
  | n + 4, hq => cases hq) aX6_writeWalk wX6_writeWalk xX6_writeWalk rfl
def mX6_writeTour : zm_M := (yX6_writeTour, cX6_writeTour, 3, (some .int), (6, 0, 0, 142), 1, [], (0, 0))
def rX6_writeTour : List zm_R := [(0, .aload_n 0, 0, [], 0, 0, (0, 0), false, []),
  (1, .aload_n 0, 0, [], 0, 0, (0, 0), false, []),
  (2, .lload_n 1, 0, [], 0, 0, (0, 0), false, []),
  (3, .invokevirtual 354, 6, [0, 0, 2, 1, 0, 6], 0, 0, (0, 0), false, []),
  (6, .invokevirtual 163, 6, [0, 1, 2, 1, 0, 6], 0, 0, (0, 0), false, []),
  (9, .ifCond .ne 5, 1, [8], 0, 0, (0, 0), false, []),
  (12, .iconst 0, 0, [], 0, 0, (0, 0), false, []),
  (13, .ireturn, 5, [0], 0, 0, (0, 0), false, []),
  (14, .aload_n 0, 0, [], 0, 0, (0, 0), false, []),
  (15, .invokevirtual 358, 6, [0, 2, 1, 0, 0, 6], 0, 0, (0, 0), false, []),
  (18, .aload_n 0, 0, [], 0, 0, (0, 0), false, []),
  (19, .iconst 1, 0, [], 1, 0, (0, 0), false, []),
  (20, .lload_n 1, 0, [], 0, 0, (0, 0), false, []),
  (21, .invokevirtual 361, 6, [0, 3, 3, 0, 0, 6], 0, 0, (0, 0), false, []),
  (24, .aload_n 0, 0, [], 0, 0, (0, 0), false, []),
  (25, .aload_n 0, 0, [], 0, 0, (0, 0), false, []),
  (26, .invokevirtual 69, 6, [0, 4, 1, 1, 0, 6], 0, 0, (0, 0), false, []),
  (29, .invokevirtual 433, 6, [0, 5, 2, 0, 0, 6], 0, 0, (0, 0), false, []),
  (32, .aload_n 0, 0, [], 0, 0, (0, 0), false, []),
  (33, .getfield 424, 2, [6, 26, 27, 0], 0, 0, (0, 0), false, []),
  (36, .ireturn, 5, [0], 0, 0, (0, 0), false, [])]
def eX6_writeTour : List zm_M := [mX6_isRank, mX6_passes, mX6_layStart, mX6_layTour, mX6_rooms, mX6_writePath]
noncomputable def vX6_writeTour : List (zm_M × zm_S) := [(mX6_isRank, sX6_isRank), (mX6_passes, sX6_passes), (mX6_layStart, sX6_layStart), (mX6_layTour, sX6_layTour), (mX6_rooms, sX6_rooms), (mX6_writePath, sX6_writePath)]
noncomputable def sX6_writeTour : zm_S := zsem vX6_writeTour rX6_writeTour 3
set_option maxRecDepth 100000 in
theorem aX6_writeTour : zall RX6 mX6_writeTour eX6_writeTour rX6_writeTour = true := by decide +kernel
set_option maxRecDepth 100000 in
theorem wX6_writeTour : ∀ w ∈ zwds RX6 mX6_writeTour eX6_writeTour rX6_writeTour, w ∈ gT := zwd_of [1679, 1681, 89, 119, 1682, 1312, 1314, 35, 119, 1315, 1683, 1685, 90, 119, 1686, 1687, 1689, 91, 119, 1690, 1421, 1423, 46, 119, 1424, 1927, 1929, 109, 119, 1930, 1252] (by decide +kernel) (by decide +kernel) (z7_no (by decide +kernel))
set_option maxRecDepth 100000 in
theorem xX6_writeTour : ∀ w ∈ zwxs RX6 mX6_writeTour eX6_writeTour rX6_writeTour, zspc w = true ∧ w ∈ lw_tbl := by decide +kernel
theorem tX6_writeTour {l : Launch} (hlt : l.stackTraces = false) : MetA l mX6_writeTour sX6_writeTour := zmet (M := mX6_writeTour) (own := RX6) (envM := eX6_writeTour) hlt rfl (by decide +kernel) (by decide +kernel) rfl (fun j q hq => by
  match j, hq with
  | 0, hq => cases hq; exact tX6_isRank hlt
  | 1, hq => cases hq; exact tX6_passes hlt
  | 2, hq => cases hq; exact tX6_layStart hlt
  | 3, hq => cases hq; exact tX6_layTour hlt
  | 4, hq => cases hq; exact tX6_rooms hlt
  | 5, hq => cases hq; exact tX6_writePath hlt
  | n + 6, hq => cases hq) aX6_writeTour wX6_writeTour xX6_writeTour rfl
def mX6_writeDoor : zm_M := (yX6_writeDoor, cX6_writeDoor, 2, (some .int), (2, 0, 0, 46), 1, [], (0, 0))
def rX6_writeDoor : List zm_R := [(0, .aload_n 0, 0, [], 0, 0, (0, 0), false, []),
  (1, .aload_n 0, 0, [], 0, 0, (0, 0), false, []),
  (2, .iload_n 1, 0, [], 0, 0, (0, 0), false, []),
  (3, .invokevirtual 334, 6, [0, 0, 2, 1, 0, 6], 0, 0, (0, 0), false, []),
  (6, .invokevirtual 163, 6, [0, 1, 2, 1, 0, 6], 0, 0, (0, 0), false, []),
  (9, .ifCond .ne 5, 1, [8], 0, 0, (0, 0), false, []),
  (12, .iconst 0, 0, [], 0, 0, (0, 0), false, []),
  (13, .ireturn, 5, [0], 0, 0, (0, 0), false, []),
  (14, .aload_n 0, 0, [], 0, 0, (0, 0), false, []),
  (15, .iconst 0, 0, [], 0, 0, (0, 0), false, []),
  (16, .putfield 424, 2, [6, 26, 27, 0], 0, 0, (0, 0), false, []),
  (19, .aload_n 0, 0, [], 0, 0, (0, 0), false, []),
  (20, .aload_n 0, 0, [], 0, 0, (0, 0), false, []),
  (21, .iload_n 1, 0, [], 0, 0, (0, 0), false, []),
  (22, .iconst 0, 0, [], 0, 0, (0, 0), false, []),
  (23, .invokevirtual 94, 6, [0, 2, 3, 1, 0, 6], 0, 0, (0, 0), false, []),
  (26, .invokevirtual 430, 6, [0, 3, 2, 0, 0, 6], 0, 0, (0, 0), false, []),
  (29, .aload_n 0, 0, [], 0, 0, (0, 0), false, []),
  (30, .aload_n 0, 0, [], 0, 0, (0, 0), false, []),
  (31, .iload_n 1, 0, [], 0, 0, (0, 0), false, []),
  (32, .iconst 4, 0, [], 4, 0, (0, 0), false, []),
  (33, .invokevirtual 94, 6, [0, 2, 3, 1, 0, 6], 0, 0, (0, 0), false, []),
  (36, .iconst 1, 0, [], 1, 0, (0, 0), false, []),
  (37, .if_icmp .ne 8, 1, [26], 0, 0, (0, 0), false, []),
  (40, .bipush 62, 0, [], 62, 0, (0, 0), false, []),
  (42, .goto 5, 1, [27], 0, 0, (0, 0), false, []),
  (45, .bipush 45, 0, [], 45, 0, (0, 0), false, []),
  (47, .invokevirtual 427, 6, [0, 4, 2, 0, 0, 6], 0, 0, (0, 0), false, []),
  (50, .aload_n 0, 0, [], 0, 0, (0, 0), false, []),
  (51, .aload_n 0, 0, [], 0, 0, (0, 0), false, []),
  (52, .iload_n 1, 0, [], 0, 0, (0, 0), false, []),
  (53, .iconst 1, 0, [], 1, 0, (0, 0), false, []),
  (54, .invokevirtual 94, 6, [0, 2, 3, 1, 0, 6], 0, 0, (0, 0), false, []),
  (57, .invokevirtual 430, 6, [0, 3, 2, 0, 0, 6], 0, 0, (0, 0), false, []),
  (60, .aload_n 0, 0, [], 0, 0, (0, 0), false, []),
  (61, .iload_n 1, 0, [], 0, 0, (0, 0), false, []),
  (62, .iconst 2, 0, [], 2, 0, (0, 0), false, []),
  (63, .invokevirtual 94, 6, [0, 2, 3, 1, 0, 6], 0, 0, (0, 0), false, []),
  (66, .ifCond .eq 40, 1, [59], 0, 0, (0, 0), false, []),
  (69, .aload_n 0, 0, [], 0, 0, (0, 0), false, []),
  (70, .bipush 32, 0, [], 32, 0, (0, 0), false, []),
  (72, .invokevirtual 427, 6, [0, 4, 2, 0, 0, 6], 0, 0, (0, 0), false, []),
  (75, .aload_n 0, 0, [], 0, 0, (0, 0), false, []),
  (76, .aload_n 0, 0, [], 0, 0, (0, 0), false, []),
  (77, .iload_n 1, 0, [], 0, 0, (0, 0), false, []),
  (78, .iconst 2, 0, [], 2, 0, (0, 0), false, []),
  (79, .invokevirtual 94, 6, [0, 2, 3, 1, 0, 6], 0, 0, (0, 0), false, []),
  (82, .iconst 1, 0, [], 1, 0, (0, 0), false, []),
  (83, .if_icmp .ne 8, 1, [51], 0, 0, (0, 0), false, []),
  (86, .bipush 107, 0, [], 107, 0, (0, 0), false, []),
  (88, .goto 5, 1, [52], 0, 0, (0, 0), false, []),
  (91, .bipush 116, 0, [], 116, 0, (0, 0), false, []),
  (93, .invokevirtual 427, 6, [0, 4, 2, 0, 0, 6], 0, 0, (0, 0), false, []),
  (96, .aload_n 0, 0, [], 0, 0, (0, 0), false, []),
  (97, .aload_n 0, 0, [], 0, 0, (0, 0), false, []),
  (98, .iload_n 1, 0, [], 0, 0, (0, 0), false, []),
  (99, .iconst 3, 0, [], 3, 0, (0, 0), false, []),
  (100, .invokevirtual 94, 6, [0, 2, 3, 1, 0, 6], 0, 0, (0, 0), false, []),
  (103, .invokevirtual 436, 6, [0, 5, 2, 0, 0, 6], 0, 0, (0, 0), false, []),
  (106, .aload_n 0, 0, [], 0, 0, (0, 0), false, []),
  (107, .getfield 424, 2, [6, 26, 27, 0], 0, 0, (0, 0), false, []),
  (110, .ireturn, 5, [0], 0, 0, (0, 0), false, [])]
def eX6_writeDoor : List zm_M := [mX6_isDoor, mX6_passes, mX6_ofDoor, mX6_writeName, mX6_write, mX6_writeInt]
noncomputable def vX6_writeDoor : List (zm_M × zm_S) := [(mX6_isDoor, sX6_isDoor), (mX6_passes, sX6_passes), (mX6_ofDoor, sX6_ofDoor), (mX6_writeName, sX6_writeName), (mX6_write, sX6_write), (mX6_writeInt, sX6_writeInt)]
noncomputable def sX6_writeDoor : zm_S := zsem vX6_writeDoor rX6_writeDoor 2
set_option maxRecDepth 100000 in
theorem aX6_writeDoor : zall RX6 mX6_writeDoor eX6_writeDoor rX6_writeDoor = true := by decide +kernel
set_option maxRecDepth 100000 in
theorem wX6_writeDoor : ∀ w ∈ zwds RX6 mX6_writeDoor eX6_writeDoor rX6_writeDoor, w ∈ gT := zwd_of [1574, 1576, 74, 119, 1577, 1312, 1314, 35, 119, 1315, 1252, 1562, 1564, 72, 119, 1565, 1935, 1937, 111, 119, 1938, 1562, 1564, 72, 119, 1565, 1931, 1933, 110, 119, 1934, 1562, 1564, 72, 119, 1565, 1935, 1937, 111, 119, 1938, 1562, 1564, 72, 119, 1565, 1931, 1933, 110, 119, 1934, 1562, 1564, 72, 119, 1565, 1931, 1933, 110, 119, 1934, 1562, 1564, 72, 119, 1565, 1947, 1949, 112, 119, 1950, 1252] (by decide +kernel) (by decide +kernel) (z7_no (by decide +kernel))
set_option maxRecDepth 100000 in
theorem xX6_writeDoor : ∀ w ∈ zwxs RX6 mX6_writeDoor eX6_writeDoor rX6_writeDoor, zspc w = true ∧ w ∈ lw_tbl := by decide +kernel
theorem tX6_writeDoor {l : Launch} (hlt : l.stackTraces = false) : MetA l mX6_writeDoor sX6_writeDoor := zmet (M := mX6_writeDoor) (own := RX6) (envM := eX6_writeDoor) hlt rfl (by decide +kernel) (by decide +kernel) rfl (fun j q hq => by
  match j, hq with
  | 0, hq => cases hq; exact tX6_isDoor hlt
  | 1, hq => cases hq; exact tX6_passes hlt
  | 2, hq => cases hq; exact tX6_ofDoor hlt
  | 3, hq => cases hq; exact tX6_writeName hlt
  | 4, hq => cases hq; exact tX6_write hlt
  | 5, hq => cases hq; exact tX6_writeInt hlt
  | n + 6, hq => cases hq) aX6_writeDoor wX6_writeDoor xX6_writeDoor rfl
def mX6_outputByte : zm_M := (yX6_outputByte, cX6_outputByte, 2, (some .int), (2, 0, 0, 44), 1, [], (0, 0))
def rX6_outputByte : List zm_R := [(0, .aload_n 0, 0, [], 0, 0, (0, 0), false, []),
  (1, .iload_n 1, 0, [], 0, 0, (0, 0), false, []),
  (2, .i2l, 0, [], 0, 0, (0, 0), false, []),
  (3, .lconst 0, 0, [], 0, 0, (0, 0), false, []),
  (4, .aload_n 0, 0, [], 0, 0, (0, 0), false, []),
  (5, .getfield 424, 2, [6, 26, 27, 0], 0, 0, (0, 0), false, []),
  (8, .iconst 1, 0, [], 1, 0, (0, 0), false, []),
  (9, .isub, 0, [], 0, 0, (0, 0), false, []),
  (10, .i2l, 0, [], 0, 0, (0, 0), false, []),
  (11, .invokestatic 73, 6, [1, 0, 3, 1, 0, 6], 0, 0, (0, 0), false, []),
  (14, .invokevirtual 163, 6, [0, 1, 2, 1, 0, 6], 0, 0, (0, 0), false, []),
  (17, .ifCond .eq 12, 1, [17], 0, 0, (0, 0), false, []),
  (20, .aload_n 0, 0, [], 0, 0, (0, 0), false, []),
  (21, .getfield 63, 2, [6, 25, 27, 2], 0, 0, (0, 0), false, []),
  (24, .iload_n 1, 0, [], 0, 0, (0, 0), false, []),
  (25, .baload, 3, [2], 0, 0, (0, 0), false, []),
  (26, .goto 4, 1, [18], 0, 0, (0, 0), false, []),
  (29, .iconst 0, 0, [], 0, 0, (0, 0), false, []),
  (30, .ireturn, 5, [0], 0, 0, (0, 0), false, [])]
def eX6_outputByte : List zm_M := [mX6_in, mX6_passes]
noncomputable def vX6_outputByte : List (zm_M × zm_S) := [(mX6_in, sX6_in), (mX6_passes, sX6_passes)]
noncomputable def sX6_outputByte : zm_S := zsem vX6_outputByte rX6_outputByte 2
set_option maxRecDepth 100000 in
theorem aX6_outputByte : zall RX6 mX6_outputByte eX6_outputByte rX6_outputByte = true := by decide +kernel
set_option maxRecDepth 100000 in
theorem wX6_outputByte : ∀ w ∈ zwds RX6 mX6_outputByte eX6_outputByte rX6_outputByte, w ∈ gT := zwd_of [1252, 1328, 1329, 119, 1330, 1312, 1314, 35, 119, 1315, 1251] (by decide +kernel) (by decide +kernel) (z7_no (by decide +kernel))
set_option maxRecDepth 100000 in
theorem xX6_outputByte : ∀ w ∈ zwxs RX6 mX6_outputByte eX6_outputByte rX6_outputByte, zspc w = true ∧ w ∈ lw_tbl := by decide +kernel
theorem tX6_outputByte {l : Launch} (hlt : l.stackTraces = false) : MetA l mX6_outputByte sX6_outputByte := zmet (M := mX6_outputByte) (own := RX6) (envM := eX6_outputByte) hlt rfl (by decide +kernel) (by decide +kernel) rfl (fun j q hq => by
  match j, hq with
  | 0, hq => cases hq; exact tX6_in hlt
  | 1, hq => cases hq; exact tX6_passes hlt
  | n + 2, hq => cases hq) aX6_outputByte wX6_outputByte xX6_outputByte rfl
