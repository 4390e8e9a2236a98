/-! ROWS: the bytecode of the methods as the abstract machine runs it, and their contracts (written by wip/whole/rows.py). -/
def mL_append : zm_M := (yL_append, cL_append, 8, (some .int), (7, 1, 6, 145), 7, [(0, 16, 19, 13)], (1, 6))
def rL_append : List zm_R := [(0, .aload 6, 0, [], 0, 0, (0, 0), false, []),
  (2, .iconst 0, 0, [], 0, 0, (0, 0), false, []),
  (3, .aload_n 0, 0, [], 0, 0, (0, 0), false, []),
  (4, .iload_n 1, 0, [], 0, 0, (0, 0), false, []),
  (5, .iload_n 2, 0, [], 0, 0, (0, 0), false, []),
  (6, .iload_n 3, 0, [], 0, 0, (0, 0), false, []),
  (7, .iload 4, 0, [], 0, 0, (0, 0), false, []),
  (9, .iload 5, 0, [], 0, 0, (0, 0), false, []),
  (11, .invokevirtual 7, 6, [0, 0, 6, 1, 2, 5, 0, 12, 7], 0, 0, (0, 0), false, []),
  (14, .i2l, 0, [], 0, 0, (0, 0), false, []),
  (15, .lastore, 3, [1], 0, 0, (0, 0), false, []),
  (16, .goto 7, 1, [15], 0, 0, (0, 0), false, []),
  (19, .astore 7, 0, [], 0, 0, (0, 0), false, []),
  (21, .iconst 1, 0, [], 1, 0, (1, 6), false, []),
  (22, .ireturn, 5, [0], 0, 0, (1, 6), false, []),
  (23, .iconst 0, 0, [], 0, 0, (0, 0), false, []),
  (24, .ireturn, 5, [0], 0, 0, (0, 0), false, [])]
def eL_append : List zm_M := [mX5_append]
noncomputable def vL_append : List (zm_M × zm_S) := [(mX5_append, sX5_append)]
noncomputable def sL_append : zm_S := zsem vL_append rL_append 8
set_option maxRecDepth 100000 in
theorem aL_append : zall RL mL_append eL_append rL_append = true := by decide +kernel
set_option maxRecDepth 100000 in
theorem wL_append : ∀ w ∈ zwds RL mL_append eL_append rL_append, w ∈ gT := zwd_of [832, 833, 834, 114, 835, 831] (by decide +kernel) (by decide +kernel) (z7_no (by decide +kernel))
set_option maxRecDepth 100000 in
theorem xL_append : ∀ w ∈ zwxs RL mL_append eL_append rL_append, zspc w = true ∧ w ∈ lw_tbl := by decide +kernel
theorem tL_append {l : Launch} (hlt : l.stackTraces = false) : MetA l mL_append sL_append := zmet (M := mL_append) (own := RL) (envM := eL_append) hlt rfl (by decide +kernel) (by decide +kernel) rfl (fun j q hq => by
  match j, hq with
  | 0, hq => cases hq; exact tX5_append hlt
  | n + 1, hq => cases hq) aL_append wL_append xL_append rfl
def mL_truncate : zm_M := (yL_truncate, cL_truncate, 3, (some .int), (7, 1, 6, 141), 2, [(0, 5, 8, 19)], (1, 6))
def rL_truncate : List zm_R := [(0, .aload_n 0, 0, [], 0, 0, (0, 0), false, []),
  (1, .iload_n 1, 0, [], 0, 0, (0, 0), false, []),
  (2, .invokevirtual 15, 6, [0, 0, 2, 0, 2, 5, 1, 4, 2], 0, 0, (0, 0), false, []),
  (5, .goto 6, 1, [7], 0, 0, (0, 0), false, []),
  (8, .astore_n 2, 0, [], 0, 0, (0, 0), false, []),
  (9, .iconst 1, 0, [], 1, 0, (1, 6), false, []),
  (10, .ireturn, 5, [0], 0, 0, (1, 6), false, []),
  (11, .iconst 0, 0, [], 0, 0, (0, 0), false, []),
  (12, .ireturn, 5, [0], 0, 0, (0, 0), false, [])]
def eL_truncate : List zm_M := [mX5_truncate]
noncomputable def vL_truncate : List (zm_M × zm_S) := [(mX5_truncate, sX5_truncate)]
noncomputable def sL_truncate : zm_S := zsem vL_truncate rL_truncate 3
set_option maxRecDepth 100000 in
theorem aL_truncate : zall RL mL_truncate eL_truncate rL_truncate = true := by decide +kernel
set_option maxRecDepth 100000 in
theorem wL_truncate : ∀ w ∈ zwds RL mL_truncate eL_truncate rL_truncate, w ∈ gT := zwd_of [860, 861, 862, 114, 863, 859] (by decide +kernel) (by decide +kernel) (z7_no (by decide +kernel))
set_option maxRecDepth 100000 in
theorem xL_truncate : ∀ w ∈ zwxs RL mL_truncate eL_truncate rL_truncate, zspc w = true ∧ w ∈ lw_tbl := by decide +kernel
theorem tL_truncate {l : Launch} (hlt : l.stackTraces = false) : MetA l mL_truncate sL_truncate := zmet (M := mL_truncate) (own := RL) (envM := eL_truncate) hlt rfl (by decide +kernel) (by decide +kernel) rfl (fun j q hq => by
  match j, hq with
  | 0, hq => cases hq; exact tX5_truncate hlt
  | n + 1, hq => cases hq) aL_truncate wL_truncate xL_truncate rfl
def mL_property : zm_M := (yL_property, cL_property, 4, (some .int), (7, 1, 6, 141), 3, [(0, 9, 12, 19)], (1, 6))
def rL_property : List zm_R := [(0, .aload_n 2, 0, [], 0, 0, (0, 0), false, []),
  (1, .iconst 0, 0, [], 0, 0, (0, 0), false, []),
  (2, .aload_n 0, 0, [], 0, 0, (0, 0), false, []),
  (3, .iload_n 1, 0, [], 0, 0, (0, 0), false, []),
  (4, .invokevirtual 21, 6, [0, 0, 2, 1, 2, 5, 1, 8, 3], 0, 0, (0, 0), false, []),
  (7, .i2l, 0, [], 0, 0, (0, 0), false, []),
  (8, .lastore, 3, [1], 0, 0, (0, 0), false, []),
  (9, .goto 6, 1, [11], 0, 0, (0, 0), false, []),
  (12, .astore_n 3, 0, [], 0, 0, (0, 0), false, []),
  (13, .iconst 1, 0, [], 1, 0, (1, 6), false, []),
  (14, .ireturn, 5, [0], 0, 0, (1, 6), false, []),
  (15, .iconst 0, 0, [], 0, 0, (0, 0), false, []),
  (16, .ireturn, 5, [0], 0, 0, (0, 0), false, [])]
def eL_property : List zm_M := [mX5_property]
noncomputable def vL_property : List (zm_M × zm_S) := [(mX5_property, sX5_property)]
noncomputable def sL_property : zm_S := zsem vL_property rL_property 4
set_option maxRecDepth 100000 in
theorem aL_property : zall RL mL_property eL_property rL_property = true := by decide +kernel
set_option maxRecDepth 100000 in
theorem wL_property : ∀ w ∈ zwds RL mL_property eL_property rL_property, w ∈ gT := zwd_of [883, 884, 885, 114, 886, 859] (by decide +kernel) (by decide +kernel) (z7_no (by decide +kernel))
set_option maxRecDepth 100000 in
theorem xL_property : ∀ w ∈ zwxs RL mL_property eL_property rL_property, zspc w = true ∧ w ∈ lw_tbl := by decide +kernel
theorem tL_property {l : Launch} (hlt : l.stackTraces = false) : MetA l mL_property sL_property := zmet (M := mL_property) (own := RL) (envM := eL_property) hlt rfl (by decide +kernel) (by decide +kernel) rfl (fun j q hq => by
  match j, hq with
  | 0, hq => cases hq; exact tX5_property hlt
  | n + 1, hq => cases hq) aL_property wL_property xL_property rfl
def mL_room : zm_M := (yL_room, cL_room, 5, (some .int), (8, 1, 6, 163), 4, [(0, 10, 13, 29), (0, 10, 17, 19)], (1, 6))
def rL_room : List zm_R := [(0, .aload_n 3, 0, [], 0, 0, (0, 0), false, []),
  (1, .iconst 0, 0, [], 0, 0, (0, 0), false, []),
  (2, .aload_n 0, 0, [], 0, 0, (0, 0), false, []),
  (3, .iload_n 1, 0, [], 0, 0, (0, 0), false, []),
  (4, .iload_n 2, 0, [], 0, 0, (0, 0), false, []),
  (5, .invokevirtual 25, 6, [0, 0, 3, 1, 2, 5, 2, 9, 4, 1, 12, 4], 0, 0, (0, 0), false, []),
  (8, .i2l, 0, [], 0, 0, (0, 0), false, []),
  (9, .lastore, 3, [1], 0, 0, (0, 0), false, []),
  (10, .goto 11, 1, [15], 0, 0, (0, 0), false, []),
  (13, .astore 4, 0, [], 0, 0, (0, 0), false, []),
  (15, .iconst 1, 0, [], 1, 0, (1, 6), false, []),
  (16, .ireturn, 5, [0], 0, 0, (1, 6), false, []),
  (17, .astore 4, 0, [], 0, 0, (0, 0), false, []),
  (19, .iconst 2, 0, [], 2, 0, (1, 6), false, []),
  (20, .ireturn, 5, [0], 0, 0, (1, 6), false, []),
  (21, .iconst 0, 0, [], 0, 0, (0, 0), false, []),
  (22, .ireturn, 5, [0], 0, 0, (0, 0), false, [])]
def eL_room : List zm_M := [mX5_room]
noncomputable def vL_room : List (zm_M × zm_S) := [(mX5_room, sX5_room)]
noncomputable def sL_room : zm_S := zsem vL_room rL_room 5
set_option maxRecDepth 100000 in
theorem aL_room : zall RL mL_room eL_room rL_room = true := by decide +kernel
set_option maxRecDepth 100000 in
theorem wL_room : ∀ w ∈ zwds RL mL_room eL_room rL_room, w ∈ gT := zwd_of [893, 894, 895, 114, 896, 892, 859] (by decide +kernel) (by decide +kernel) (z7_no (by decide +kernel))
set_option maxRecDepth 100000 in
theorem xL_room : ∀ w ∈ zwxs RL mL_room eL_room rL_room, zspc w = true ∧ w ∈ lw_tbl := by decide +kernel
theorem tL_room {l : Launch} (hlt : l.stackTraces = false) : MetA l mL_room sL_room := zmet (M := mL_room) (own := RL) (envM := eL_room) hlt rfl (by decide +kernel) (by decide +kernel) rfl (fun j q hq => by
  match j, hq with
  | 0, hq => cases hq; exact tX5_room hlt
  | n + 1, hq => cases hq) aL_room wL_room xL_room rfl
def mL_door : zm_M := (yL_door, cL_door, 5, (some .int), (8, 1, 6, 163), 4, [(0, 10, 13, 29), (0, 10, 17, 19)], (1, 6))
def rL_door : List zm_R := [(0, .aload_n 3, 0, [], 0, 0, (0, 0), false, []),
  (1, .iconst 0, 0, [], 0, 0, (0, 0), false, []),
  (2, .aload_n 0, 0, [], 0, 0, (0, 0), false, []),
  (3, .iload_n 1, 0, [], 0, 0, (0, 0), false, []),
  (4, .iload_n 2, 0, [], 0, 0, (0, 0), false, []),
  (5, .invokevirtual 31, 6, [0, 0, 3, 1, 2, 5, 2, 9, 4, 1, 12, 4], 0, 0, (0, 0), false, []),
  (8, .i2l, 0, [], 0, 0, (0, 0), false, []),
  (9, .lastore, 3, [1], 0, 0, (0, 0), false, []),
  (10, .goto 11, 1, [15], 0, 0, (0, 0), false, []),
  (13, .astore 4, 0, [], 0, 0, (0, 0), false, []),
  (15, .iconst 1, 0, [], 1, 0, (1, 6), false, []),
  (16, .ireturn, 5, [0], 0, 0, (1, 6), false, []),
  (17, .astore 4, 0, [], 0, 0, (0, 0), false, []),
  (19, .iconst 2, 0, [], 2, 0, (1, 6), false, []),
  (20, .ireturn, 5, [0], 0, 0, (1, 6), false, []),
  (21, .iconst 0, 0, [], 0, 0, (0, 0), false, []),
  (22, .ireturn, 5, [0], 0, 0, (0, 0), false, [])]
def eL_door : List zm_M := [mX5_door]
noncomputable def vL_door : List (zm_M × zm_S) := [(mX5_door, sX5_door)]
noncomputable def sL_door : zm_S := zsem vL_door rL_door 5
set_option maxRecDepth 100000 in
theorem aL_door : zall RL mL_door eL_door rL_door = true := by decide +kernel
set_option maxRecDepth 100000 in
theorem wL_door : ∀ w ∈ zwds RL mL_door eL_door rL_door, w ∈ gT := zwd_of [912, 913, 914, 114, 915, 892, 859] (by decide +kernel) (by decide +kernel) (z7_no (by decide +kernel))
set_option maxRecDepth 100000 in
theorem xL_door : ∀ w ∈ zwxs RL mL_door eL_door rL_door, zspc w = true ∧ w ∈ lw_tbl := by decide +kernel
theorem tL_door {l : Launch} (hlt : l.stackTraces = false) : MetA l mL_door sL_door := zmet (M := mL_door) (own := RL) (envM := eL_door) hlt rfl (by decide +kernel) (by decide +kernel) rfl (fun j q hq => by
  match j, hq with
  | 0, hq => cases hq; exact tX5_door hlt
  | n + 1, hq => cases hq) aL_door wL_door xL_door rfl
def mL_walked : zm_M := (yL_walked, cL_walked, 4, (some .int), (7, 1, 6, 141), 3, [(0, 9, 12, 37)], (1, 6))
def rL_walked : List zm_R := [(0, .aload_n 2, 0, [], 0, 0, (0, 0), false, []),
  (1, .iconst 0, 0, [], 0, 0, (0, 0), false, []),
  (2, .aload_n 0, 0, [], 0, 0, (0, 0), false, []),
  (3, .iload_n 1, 0, [], 0, 0, (0, 0), false, []),
  (4, .invokevirtual 34, 6, [0, 0, 2, 1, 2, 5, 3, 8, 3], 0, 0, (0, 0), false, []),
  (7, .i2l, 0, [], 0, 0, (0, 0), false, []),
  (8, .lastore, 3, [1], 0, 0, (0, 0), false, []),
  (9, .goto 6, 1, [11], 0, 0, (0, 0), false, []),
  (12, .astore_n 3, 0, [], 0, 0, (0, 0), false, []),
  (13, .iconst 1, 0, [], 1, 0, (1, 6), false, []),
  (14, .ireturn, 5, [0], 0, 0, (1, 6), false, []),
  (15, .iconst 0, 0, [], 0, 0, (0, 0), false, []),
  (16, .ireturn, 5, [0], 0, 0, (0, 0), false, [])]
def eL_walked : List zm_M := [mX5_walked]
noncomputable def vL_walked : List (zm_M × zm_S) := [(mX5_walked, sX5_walked)]
noncomputable def sL_walked : zm_S := zsem vL_walked rL_walked 4
set_option maxRecDepth 100000 in
theorem aL_walked : zall RL mL_walked eL_walked rL_walked = true := by decide +kernel
set_option maxRecDepth 100000 in
theorem wL_walked : ∀ w ∈ zwds RL mL_walked eL_walked rL_walked, w ∈ gT := zwd_of [924, 925, 926, 114, 927, 923] (by decide +kernel) (by decide +kernel) (z7_no (by decide +kernel))
set_option maxRecDepth 100000 in
theorem xL_walked : ∀ w ∈ zwxs RL mL_walked eL_walked rL_walked, zspc w = true ∧ w ∈ lw_tbl := by decide +kernel
theorem tL_walked {l : Launch} (hlt : l.stackTraces = false) : MetA l mL_walked sL_walked := zmet (M := mL_walked) (own := RL) (envM := eL_walked) hlt rfl (by decide +kernel) (by decide +kernel) rfl (fun j q hq => by
  match j, hq with
  | 0, hq => cases hq; exact tX5_walked hlt
  | n + 1, hq => cases hq) aL_walked wL_walked xL_walked rfl
def mL_foundAt : zm_M := (yL_foundAt, cL_foundAt, 4, (some .int), (8, 1, 6, 162), 3, [(0, 9, 12, 29)], (1, 6))
def rL_foundAt : List zm_R := [(0, .aload_n 2, 0, [], 0, 0, (0, 0), false, []),
  (1, .iconst 0, 0, [], 0, 0, (0, 0), false, []),
  (2, .aload_n 0, 0, [], 0, 0, (0, 0), false, []),
  (3, .iload_n 1, 0, [], 0, 0, (0, 0), false, []),
  (4, .invokevirtual 39, 6, [0, 0, 2, 1, 2, 5, 2, 8, 3], 0, 0, (0, 0), false, []),
  (7, .i2l, 0, [], 0, 0, (0, 0), false, []),
  (8, .lastore, 3, [1], 0, 0, (0, 0), false, []),
  (9, .goto 6, 1, [11], 0, 0, (0, 0), false, []),
  (12, .astore_n 3, 0, [], 0, 0, (0, 0), false, []),
  (13, .iconst 1, 0, [], 1, 0, (1, 6), false, []),
  (14, .ireturn, 5, [0], 0, 0, (1, 6), false, []),
  (15, .iconst 0, 0, [], 0, 0, (0, 0), false, []),
  (16, .ireturn, 5, [0], 0, 0, (0, 0), false, [])]
def eL_foundAt : List zm_M := [mX5_foundAt]
noncomputable def vL_foundAt : List (zm_M × zm_S) := [(mX5_foundAt, sX5_foundAt)]
noncomputable def sL_foundAt : zm_S := zsem vL_foundAt rL_foundAt 4
set_option maxRecDepth 100000 in
theorem aL_foundAt : zall RL mL_foundAt eL_foundAt rL_foundAt = true := by decide +kernel
set_option maxRecDepth 100000 in
theorem wL_foundAt : ∀ w ∈ zwds RL mL_foundAt eL_foundAt rL_foundAt, w ∈ gT := zwd_of [947, 948, 949, 114, 950, 892] (by decide +kernel) (by decide +kernel) (z7_no (by decide +kernel))
set_option maxRecDepth 100000 in
theorem xL_foundAt : ∀ w ∈ zwxs RL mL_foundAt eL_foundAt rL_foundAt, zspc w = true ∧ w ∈ lw_tbl := by decide +kernel
theorem tL_foundAt {l : Launch} (hlt : l.stackTraces = false) : MetA l mL_foundAt sL_foundAt := zmet (M := mL_foundAt) (own := RL) (envM := eL_foundAt) hlt rfl (by decide +kernel) (by decide +kernel) rfl (fun j q hq => by
  match j, hq with
  | 0, hq => cases hq; exact tX5_foundAt hlt
  | n + 1, hq => cases hq) aL_foundAt wL_foundAt xL_foundAt rfl
def mL_why : zm_M := (yL_why, cL_why, 4, (some .int), (8, 1, 6, 163), 3, [(0, 9, 12, 29)], (1, 6))
def rL_why : List zm_R := [(0, .aload_n 2, 0, [], 0, 0, (0, 0), false, []),
  (1, .iconst 0, 0, [], 0, 0, (0, 0), false, []),
  (2, .aload_n 0, 0, [], 0, 0, (0, 0), false, []),
  (3, .iload_n 1, 0, [], 0, 0, (0, 0), false, []),
  (4, .invokevirtual 42, 6, [0, 0, 2, 1, 2, 5, 2, 8, 3], 0, 0, (0, 0), false, []),
  (7, .i2l, 0, [], 0, 0, (0, 0), false, []),
  (8, .lastore, 3, [1], 0, 0, (0, 0), false, []),
  (9, .goto 6, 1, [11], 0, 0, (0, 0), false, []),
  (12, .astore_n 3, 0, [], 0, 0, (0, 0), false, []),
  (13, .iconst 1, 0, [], 1, 0, (1, 6), false, []),
  (14, .ireturn, 5, [0], 0, 0, (1, 6), false, []),
  (15, .iconst 0, 0, [], 0, 0, (0, 0), false, []),
  (16, .ireturn, 5, [0], 0, 0, (0, 0), false, [])]
def eL_why : List zm_M := [mX5_why]
noncomputable def vL_why : List (zm_M × zm_S) := [(mX5_why, sX5_why)]
noncomputable def sL_why : zm_S := zsem vL_why rL_why 4
set_option maxRecDepth 100000 in
theorem aL_why : zall RL mL_why eL_why rL_why = true := by decide +kernel
set_option maxRecDepth 100000 in
theorem wL_why : ∀ w ∈ zwds RL mL_why eL_why rL_why, w ∈ gT := zwd_of [954, 955, 956, 114, 957, 892] (by decide +kernel) (by decide +kernel) (z7_no (by decide +kernel))
set_option maxRecDepth 100000 in
theorem xL_why : ∀ w ∈ zwxs RL mL_why eL_why rL_why, zspc w = true ∧ w ∈ lw_tbl := by decide +kernel
theorem tL_why {l : Launch} (hlt : l.stackTraces = false) : MetA l mL_why sL_why := zmet (M := mL_why) (own := RL) (envM := eL_why) hlt rfl (by decide +kernel) (by decide +kernel) rfl (fun j q hq => by
  match j, hq with
  | 0, hq => cases hq; exact tX5_why hlt
  | n + 1, hq => cases hq) aL_why wL_why xL_why rfl
def mL_completionsBy : zm_M := (yL_completionsBy, cL_completionsBy, 4, (some .int), (8, 1, 6, 162), 3, [(0, 8, 11, 29)], (1, 6))
def rL_completionsBy : List zm_R := [(0, .aload_n 2, 0, [], 0, 0, (0, 0), false, []),
  (1, .iconst 0, 0, [], 0, 0, (0, 0), false, []),
  (2, .aload_n 0, 0, [], 0, 0, (0, 0), false, []),
  (3, .iload_n 1, 0, [], 0, 0, (0, 0), false, []),
  (4, .invokevirtual 45, 6, [0, 0, 2, 2, 2, 5, 2, 7, 3], 0, 0, (0, 0), false, []),
  (7, .lastore, 3, [1], 0, 0, (0, 0), false, []),
  (8, .goto 6, 1, [10], 0, 0, (0, 0), false, []),
  (11, .astore_n 3, 0, [], 0, 0, (0, 0), false, []),
  (12, .iconst 1, 0, [], 1, 0, (1, 6), false, []),
  (13, .ireturn, 5, [0], 0, 0, (1, 6), false, []),
  (14, .iconst 0, 0, [], 0, 0, (0, 0), false, []),
  (15, .ireturn, 5, [0], 0, 0, (0, 0), false, [])]
def eL_completionsBy : List zm_M := [mX5_completionsBy]
noncomputable def vL_completionsBy : List (zm_M × zm_S) := [(mX5_completionsBy, sX5_completionsBy)]
noncomputable def sL_completionsBy : zm_S := zsem vL_completionsBy rL_completionsBy 4
set_option maxRecDepth 100000 in
theorem aL_completionsBy : zall RL mL_completionsBy eL_completionsBy rL_completionsBy = true := by decide +kernel
set_option maxRecDepth 100000 in
theorem wL_completionsBy : ∀ w ∈ zwds RL mL_completionsBy eL_completionsBy rL_completionsBy, w ∈ gT := zwd_of [965, 606, 607, 114, 608, 892] (by decide +kernel) (by decide +kernel) (z7_no (by decide +kernel))
set_option maxRecDepth 100000 in
theorem xL_completionsBy : ∀ w ∈ zwxs RL mL_completionsBy eL_completionsBy rL_completionsBy, zspc w = true ∧ w ∈ lw_tbl := by decide +kernel
theorem tL_completionsBy {l : Launch} (hlt : l.stackTraces = false) : MetA l mL_completionsBy sL_completionsBy := zmet (M := mL_completionsBy) (own := RL) (envM := eL_completionsBy) hlt rfl (by decide +kernel) (by decide +kernel) rfl (fun j q hq => by
  match j, hq with
  | 0, hq => cases hq; exact tX5_completionsBy hlt
  | n + 1, hq => cases hq) aL_completionsBy wL_completionsBy xL_completionsBy rfl
def mL_tour : zm_M := (yL_tour, cL_tour, 6, (some .int), (8, 1, 6, 167), 4, [(0, 11, 14, 19)], (1, 6))
def rL_tour : List zm_R := [(0, .aload 4, 0, [], 0, 0, (0, 0), false, []),
  (2, .iconst 0, 0, [], 0, 0, (0, 0), false, []),
  (3, .aload_n 0, 0, [], 0, 0, (0, 0), false, []),
  (4, .lload_n 1, 0, [], 0, 0, (0, 0), false, []),
  (5, .iload_n 3, 0, [], 0, 0, (0, 0), false, []),
  (6, .invokevirtual 49, 6, [0, 0, 3, 1, 2, 5, 1, 9, 5], 0, 0, (0, 0), false, []),
  (9, .i2l, 0, [], 0, 0, (0, 0), false, []),
  (10, .lastore, 3, [1], 0, 0, (0, 0), false, []),
  (11, .goto 7, 1, [12], 0, 0, (0, 0), false, []),
  (14, .astore 5, 0, [], 0, 0, (0, 0), false, []),
  (16, .iconst 1, 0, [], 1, 0, (1, 6), false, []),
  (17, .ireturn, 5, [0], 0, 0, (1, 6), false, []),
  (18, .iconst 0, 0, [], 0, 0, (0, 0), false, []),
  (19, .ireturn, 5, [0], 0, 0, (0, 0), false, [])]
def eL_tour : List zm_M := [mX5_tour]
noncomputable def vL_tour : List (zm_M × zm_S) := [(mX5_tour, sX5_tour)]
noncomputable def sL_tour : zm_S := zsem vL_tour rL_tour 6
set_option maxRecDepth 100000 in
theorem aL_tour : zall RL mL_tour eL_tour rL_tour = true := by decide +kernel
set_option maxRecDepth 100000 in
theorem wL_tour : ∀ w ∈ zwds RL mL_tour eL_tour rL_tour, w ∈ gT := zwd_of [969, 970, 971, 114, 972, 859] (by decide +kernel) (by decide +kernel) (z7_no (by decide +kernel))
set_option maxRecDepth 100000 in
theorem xL_tour : ∀ w ∈ zwxs RL mL_tour eL_tour rL_tour, zspc w = true ∧ w ∈ lw_tbl := by decide +kernel
theorem tL_tour {l : Launch} (hlt : l.stackTraces = false) : MetA l mL_tour sL_tour := zmet (M := mL_tour) (own := RL) (envM := eL_tour) hlt rfl (by decide +kernel) (by decide +kernel) rfl (fun j q hq => by
  match j, hq with
  | 0, hq => cases hq; exact tX5_tour hlt
  | n + 1, hq => cases hq) aL_tour wL_tour xL_tour rfl
def mL_toursFrom : zm_M := (yL_toursFrom, cL_toursFrom, 4, (some .int), (8, 1, 6, 162), 3, [(0, 8, 11, 29)], (1, 6))
def rL_toursFrom : List zm_R := [(0, .aload_n 2, 0, [], 0, 0, (0, 0), false, []),
  (1, .iconst 0, 0, [], 0, 0, (0, 0), false, []),
  (2, .aload_n 0, 0, [], 0, 0, (0, 0), false, []),
  (3, .iload_n 1, 0, [], 0, 0, (0, 0), false, []),
  (4, .invokevirtual 53, 6, [0, 0, 2, 2, 2, 5, 2, 7, 3], 0, 0, (0, 0), false, []),
  (7, .lastore, 3, [1], 0, 0, (0, 0), false, []),
  (8, .goto 6, 1, [10], 0, 0, (0, 0), false, []),
  (11, .astore_n 3, 0, [], 0, 0, (0, 0), false, []),
  (12, .iconst 1, 0, [], 1, 0, (1, 6), false, []),
  (13, .ireturn, 5, [0], 0, 0, (1, 6), false, []),
  (14, .iconst 0, 0, [], 0, 0, (0, 0), false, []),
  (15, .ireturn, 5, [0], 0, 0, (0, 0), false, [])]
def eL_toursFrom : List zm_M := [mX5_toursFrom]
noncomputable def vL_toursFrom : List (zm_M × zm_S) := [(mX5_toursFrom, sX5_toursFrom)]
noncomputable def sL_toursFrom : zm_S := zsem vL_toursFrom rL_toursFrom 4
set_option maxRecDepth 100000 in
theorem aL_toursFrom : zall RL mL_toursFrom eL_toursFrom rL_toursFrom = true := by decide +kernel
set_option maxRecDepth 100000 in
theorem wL_toursFrom : ∀ w ∈ zwds RL mL_toursFrom eL_toursFrom rL_toursFrom, w ∈ gT := zwd_of [994, 729, 730, 114, 731, 892] (by decide +kernel) (by decide +kernel) (z7_no (by decide +kernel))
set_option maxRecDepth 100000 in
theorem xL_toursFrom : ∀ w ∈ zwxs RL mL_toursFrom eL_toursFrom rL_toursFrom, zspc w = true ∧ w ∈ lw_tbl := by decide +kernel
theorem tL_toursFrom {l : Launch} (hlt : l.stackTraces = false) : MetA l mL_toursFrom sL_toursFrom := zmet (M := mL_toursFrom) (own := RL) (envM := eL_toursFrom) hlt rfl (by decide +kernel) (by decide +kernel) rfl (fun j q hq => by
  match j, hq with
  | 0, hq => cases hq; exact tX5_toursFrom hlt
  | n + 1, hq => cases hq) aL_toursFrom wL_toursFrom xL_toursFrom rfl
def mL_toursTo : zm_M := (yL_toursTo, cL_toursTo, 4, (some .int), (8, 1, 6, 162), 3, [(0, 8, 11, 29)], (1, 6))
def rL_toursTo : List zm_R := [(0, .aload_n 2, 0, [], 0, 0, (0, 0), false, []),
  (1, .iconst 0, 0, [], 0, 0, (0, 0), false, []),
  (2, .aload_n 0, 0, [], 0, 0, (0, 0), false, []),
  (3, .iload_n 1, 0, [], 0, 0, (0, 0), false, []),
  (4, .invokevirtual 56, 6, [0, 0, 2, 2, 2, 5, 2, 7, 3], 0, 0, (0, 0), false, []),
  (7, .lastore, 3, [1], 0, 0, (0, 0), false, []),
  (8, .goto 6, 1, [10], 0, 0, (0, 0), false, []),
  (11, .astore_n 3, 0, [], 0, 0, (0, 0), false, []),
  (12, .iconst 1, 0, [], 1, 0, (1, 6), false, []),
  (13, .ireturn, 5, [0], 0, 0, (1, 6), false, []),
  (14, .iconst 0, 0, [], 0, 0, (0, 0), false, []),
  (15, .ireturn, 5, [0], 0, 0, (0, 0), false, [])]
def eL_toursTo : List zm_M := [mX5_toursTo]
noncomputable def vL_toursTo : List (zm_M × zm_S) := [(mX5_toursTo, sX5_toursTo)]
noncomputable def sL_toursTo : zm_S := zsem vL_toursTo rL_toursTo 4
set_option maxRecDepth 100000 in
theorem aL_toursTo : zall RL mL_toursTo eL_toursTo rL_toursTo = true := by decide +kernel
set_option maxRecDepth 100000 in
theorem wL_toursTo : ∀ w ∈ zwds RL mL_toursTo eL_toursTo rL_toursTo, w ∈ gT := zwd_of [998, 999, 1000, 114, 1001, 892] (by decide +kernel) (by decide +kernel) (z7_no (by decide +kernel))
set_option maxRecDepth 100000 in
theorem xL_toursTo : ∀ w ∈ zwxs RL mL_toursTo eL_toursTo rL_toursTo, zspc w = true ∧ w ∈ lw_tbl := by decide +kernel
theorem tL_toursTo {l : Launch} (hlt : l.stackTraces = false) : MetA l mL_toursTo sL_toursTo := zmet (M := mL_toursTo) (own := RL) (envM := eL_toursTo) hlt rfl (by decide +kernel) (by decide +kernel) rfl (fun j q hq => by
  match j, hq with
  | 0, hq => cases hq; exact tX5_toursTo hlt
  | n + 1, hq => cases hq) aL_toursTo wL_toursTo xL_toursTo rfl
def mL_without : zm_M := (yL_without, cL_without, 4, (some .int), (8, 1, 6, 162), 3, [(0, 8, 11, 29)], (1, 6))
def rL_without : List zm_R := [(0, .aload_n 2, 0, [], 0, 0, (0, 0), false, []),
  (1, .iconst 0, 0, [], 0, 0, (0, 0), false, []),
  (2, .aload_n 0, 0, [], 0, 0, (0, 0), false, []),
  (3, .iload_n 1, 0, [], 0, 0, (0, 0), false, []),
  (4, .invokevirtual 59, 6, [0, 0, 2, 2, 2, 5, 2, 7, 3], 0, 0, (0, 0), false, []),
  (7, .lastore, 3, [1], 0, 0, (0, 0), false, []),
  (8, .goto 6, 1, [10], 0, 0, (0, 0), false, []),
  (11, .astore_n 3, 0, [], 0, 0, (0, 0), false, []),
  (12, .iconst 1, 0, [], 1, 0, (1, 6), false, []),
  (13, .ireturn, 5, [0], 0, 0, (1, 6), false, []),
  (14, .iconst 0, 0, [], 0, 0, (0, 0), false, []),
  (15, .ireturn, 5, [0], 0, 0, (0, 0), false, [])]
def eL_without : List zm_M := [mX5_without]
noncomputable def vL_without : List (zm_M × zm_S) := [(mX5_without, sX5_without)]
noncomputable def sL_without : zm_S := zsem vL_without rL_without 4
set_option maxRecDepth 100000 in
theorem aL_without : zall RL mL_without eL_without rL_without = true := by decide +kernel
set_option maxRecDepth 100000 in
theorem wL_without : ∀ w ∈ zwds RL mL_without eL_without rL_without, w ∈ gT := zwd_of [1005, 754, 755, 114, 756, 892] (by decide +kernel) (by decide +kernel) (z7_no (by decide +kernel))
set_option maxRecDepth 100000 in
theorem xL_without : ∀ w ∈ zwxs RL mL_without eL_without rL_without, zspc w = true ∧ w ∈ lw_tbl := by decide +kernel
theorem tL_without {l : Launch} (hlt : l.stackTraces = false) : MetA l mL_without sL_without := zmet (M := mL_without) (own := RL) (envM := eL_without) hlt rfl (by decide +kernel) (by decide +kernel) rfl (fun j q hq => by
  match j, hq with
  | 0, hq => cases hq; exact tX5_without hlt
  | n + 1, hq => cases hq) aL_without wL_without xL_without rfl
def mL_toursWithout : zm_M := (yL_toursWithout, cL_toursWithout, 4, (some .int), (8, 1, 6, 162), 3, [(0, 8, 11, 29)], (1, 6))
def rL_toursWithout : List zm_R := [(0, .aload_n 2, 0, [], 0, 0, (0, 0), false, []),
  (1, .iconst 0, 0, [], 0, 0, (0, 0), false, []),
  (2, .aload_n 0, 0, [], 0, 0, (0, 0), false, []),
  (3, .iload_n 1, 0, [], 0, 0, (0, 0), false, []),
  (4, .invokevirtual 62, 6, [0, 0, 2, 2, 2, 5, 2, 7, 3], 0, 0, (0, 0), false, []),
  (7, .lastore, 3, [1], 0, 0, (0, 0), false, []),
  (8, .goto 6, 1, [10], 0, 0, (0, 0), false, []),
  (11, .astore_n 3, 0, [], 0, 0, (0, 0), false, []),
  (12, .iconst 1, 0, [], 1, 0, (1, 6), false, []),
  (13, .ireturn, 5, [0], 0, 0, (1, 6), false, []),
  (14, .iconst 0, 0, [], 0, 0, (0, 0), false, []),
  (15, .ireturn, 5, [0], 0, 0, (0, 0), false, [])]
def eL_toursWithout : List zm_M := [mX5_toursWithout]
noncomputable def vL_toursWithout : List (zm_M × zm_S) := [(mX5_toursWithout, sX5_toursWithout)]
noncomputable def sL_toursWithout : zm_S := zsem vL_toursWithout rL_toursWithout 4
set_option maxRecDepth 100000 in
theorem aL_toursWithout : zall RL mL_toursWithout eL_toursWithout rL_toursWithout = true := by decide +kernel
set_option maxRecDepth 100000 in
theorem wL_toursWithout : ∀ w ∈ zwds RL mL_toursWithout eL_toursWithout rL_toursWithout, w ∈ gT := zwd_of [1009, 766, 767, 114, 768, 892] (by decide +kernel) (by decide +kernel) (z7_no (by decide +kernel))
set_option maxRecDepth 100000 in
theorem xL_toursWithout : ∀ w ∈ zwxs RL mL_toursWithout eL_toursWithout rL_toursWithout, zspc w = true ∧ w ∈ lw_tbl := by decide +kernel
theorem tL_toursWithout {l : Launch} (hlt : l.stackTraces = false) : MetA l mL_toursWithout sL_toursWithout := zmet (M := mL_toursWithout) (own := RL) (envM := eL_toursWithout) hlt rfl (by decide +kernel) (by decide +kernel) rfl (fun j q hq => by
  match j, hq with
  | 0, hq => cases hq; exact tX5_toursWithout hlt
  | n + 1, hq => cases hq) aL_toursWithout wL_toursWithout xL_toursWithout rfl
def mL_toursIfOpen : zm_M := (yL_toursIfOpen, cL_toursIfOpen, 4, (some .int), (8, 1, 6, 162), 3, [(0, 8, 11, 29)], (1, 6))
def rL_toursIfOpen : List zm_R := [(0, .aload_n 2, 0, [], 0, 0, (0, 0), false, []),
  (1, .iconst 0, 0, [], 0, 0, (0, 0), false, []),
  (2, .aload_n 0, 0, [], 0, 0, (0, 0), false, []),
  (3, .iload_n 1, 0, [], 0, 0, (0, 0), false, []),
  (4, .invokevirtual 65, 6, [0, 0, 2, 2, 2, 5, 2, 7, 3], 0, 0, (0, 0), false, []),
  (7, .lastore, 3, [1], 0, 0, (0, 0), false, []),
  (8, .goto 6, 1, [10], 0, 0, (0, 0), false, []),
  (11, .astore_n 3, 0, [], 0, 0, (0, 0), false, []),
  (12, .iconst 1, 0, [], 1, 0, (1, 6), false, []),
  (13, .ireturn, 5, [0], 0, 0, (1, 6), false, []),
  (14, .iconst 0, 0, [], 0, 0, (0, 0), false, []),
  (15, .ireturn, 5, [0], 0, 0, (0, 0), false, [])]
def eL_toursIfOpen : List zm_M := [mX5_toursIfOpen]
noncomputable def vL_toursIfOpen : List (zm_M × zm_S) := [(mX5_toursIfOpen, sX5_toursIfOpen)]
noncomputable def sL_toursIfOpen : zm_S := zsem vL_toursIfOpen rL_toursIfOpen 4
set_option maxRecDepth 100000 in
theorem aL_toursIfOpen : zall RL mL_toursIfOpen eL_toursIfOpen rL_toursIfOpen = true := by decide +kernel
set_option maxRecDepth 100000 in
theorem wL_toursIfOpen : ∀ w ∈ zwds RL mL_toursIfOpen eL_toursIfOpen rL_toursIfOpen, w ∈ gT := zwd_of [1013, 783, 784, 114, 785, 892] (by decide +kernel) (by decide +kernel) (z7_no (by decide +kernel))
set_option maxRecDepth 100000 in
theorem xL_toursIfOpen : ∀ w ∈ zwxs RL mL_toursIfOpen eL_toursIfOpen rL_toursIfOpen, zspc w = true ∧ w ∈ lw_tbl := by decide +kernel
theorem tL_toursIfOpen {l : Launch} (hlt : l.stackTraces = false) : MetA l mL_toursIfOpen sL_toursIfOpen := zmet (M := mL_toursIfOpen) (own := RL) (envM := eL_toursIfOpen) hlt rfl (by decide +kernel) (by decide +kernel) rfl (fun j q hq => by
  match j, hq with
  | 0, hq => cases hq; exact tX5_toursIfOpen hlt
  | n + 1, hq => cases hq) aL_toursIfOpen wL_toursIfOpen xL_toursIfOpen rfl
def mL_ahead : zm_M := (yL_ahead, cL_ahead, 5, (some .int), (9, 1, 6, 189), 4, [(0, 9, 12, 29), (0, 9, 16, 19)], (1, 6))
def rL_ahead : List zm_R := [(0, .aload_n 3, 0, [], 0, 0, (0, 0), false, []),
  (1, .iconst 0, 0, [], 0, 0, (0, 0), false, []),
  (2, .aload_n 0, 0, [], 0, 0, (0, 0), false, []),
  (3, .iload_n 1, 0, [], 0, 0, (0, 0), false, []),
  (4, .iload_n 2, 0, [], 0, 0, (0, 0), false, []),
  (5, .invokevirtual 68, 6, [0, 0, 3, 2, 2, 5, 2, 8, 4, 1, 11, 4], 0, 0, (0, 0), false, []),
  (8, .lastore, 3, [1], 0, 0, (0, 0), false, []),
  (9, .goto 11, 1, [14], 0, 0, (0, 0), false, []),
  (12, .astore 4, 0, [], 0, 0, (0, 0), false, []),
  (14, .iconst 1, 0, [], 1, 0, (1, 6), false, []),
  (15, .ireturn, 5, [0], 0, 0, (1, 6), false, []),
  (16, .astore 4, 0, [], 0, 0, (0, 0), false, []),
  (18, .iconst 2, 0, [], 2, 0, (1, 6), false, []),
  (19, .ireturn, 5, [0], 0, 0, (1, 6), false, []),
  (20, .iconst 0, 0, [], 0, 0, (0, 0), false, []),
  (21, .ireturn, 5, [0], 0, 0, (0, 0), false, [])]
def eL_ahead : List zm_M := [mX5_ahead]
noncomputable def vL_ahead : List (zm_M × zm_S) := [(mX5_ahead, sX5_ahead)]
noncomputable def sL_ahead : zm_S := zsem vL_ahead rL_ahead 5
set_option maxRecDepth 100000 in
theorem aL_ahead : zall RL mL_ahead eL_ahead rL_ahead = true := by decide +kernel
set_option maxRecDepth 100000 in
theorem wL_ahead : ∀ w ∈ zwds RL mL_ahead eL_ahead rL_ahead, w ∈ gT := zwd_of [1017, 1018, 1019, 114, 1020, 892, 859] (by decide +kernel) (by decide +kernel) (z7_no (by decide +kernel))
set_option maxRecDepth 100000 in
theorem xL_ahead : ∀ w ∈ zwxs RL mL_ahead eL_ahead rL_ahead, zspc w = true ∧ w ∈ lw_tbl := by decide +kernel
theorem tL_ahead {l : Launch} (hlt : l.stackTraces = false) : MetA l mL_ahead sL_ahead := zmet (M := mL_ahead) (own := RL) (envM := eL_ahead) hlt rfl (by decide +kernel) (by decide +kernel) rfl (fun j q hq => by
  match j, hq with
  | 0, hq => cases hq; exact tX5_ahead hlt
  | n + 1, hq => cases hq) aL_ahead wL_ahead xL_ahead rfl
def mL_atPlace : zm_M := (yL_atPlace, cL_atPlace, 5, (some .int), (8, 1, 6, 167), 4, [(0, 9, 12, 29), (0, 9, 16, 19)], (1, 6))
def rL_atPlace : List zm_R := [(0, .aload_n 3, 0, [], 0, 0, (0, 0), false, []),
  (1, .iconst 0, 0, [], 0, 0, (0, 0), false, []),
  (2, .aload_n 0, 0, [], 0, 0, (0, 0), false, []),
  (3, .iload_n 1, 0, [], 0, 0, (0, 0), false, []),
  (4, .iload_n 2, 0, [], 0, 0, (0, 0), false, []),
  (5, .invokevirtual 72, 6, [0, 0, 3, 2, 2, 5, 2, 8, 4, 1, 11, 4], 0, 0, (0, 0), false, []),
  (8, .lastore, 3, [1], 0, 0, (0, 0), false, []),
  (9, .goto 11, 1, [14], 0, 0, (0, 0), false, []),
  (12, .astore 4, 0, [], 0, 0, (0, 0), false, []),
  (14, .iconst 1, 0, [], 1, 0, (1, 6), false, []),
  (15, .ireturn, 5, [0], 0, 0, (1, 6), false, []),
  (16, .astore 4, 0, [], 0, 0, (0, 0), false, []),
  (18, .iconst 2, 0, [], 2, 0, (1, 6), false, []),
  (19, .ireturn, 5, [0], 0, 0, (1, 6), false, []),
  (20, .iconst 0, 0, [], 0, 0, (0, 0), false, []),
  (21, .ireturn, 5, [0], 0, 0, (0, 0), false, [])]
def eL_atPlace : List zm_M := [mX5_atPlace]
noncomputable def vL_atPlace : List (zm_M × zm_S) := [(mX5_atPlace, sX5_atPlace)]
noncomputable def sL_atPlace : zm_S := zsem vL_atPlace rL_atPlace 5
set_option maxRecDepth 100000 in
theorem aL_atPlace : zall RL mL_atPlace eL_atPlace rL_atPlace = true := by decide +kernel
set_option maxRecDepth 100000 in
theorem wL_atPlace : ∀ w ∈ zwds RL mL_atPlace eL_atPlace rL_atPlace, w ∈ gT := zwd_of [1033, 1034, 1035, 114, 1036, 892, 859] (by decide +kernel) (by decide +kernel) (z7_no (by decide +kernel))
set_option maxRecDepth 100000 in
theorem xL_atPlace : ∀ w ∈ zwxs RL mL_atPlace eL_atPlace rL_atPlace, zspc w = true ∧ w ∈ lw_tbl := by decide +kernel
theorem tL_atPlace {l : Launch} (hlt : l.stackTraces = false) : MetA l mL_atPlace sL_atPlace := zmet (M := mL_atPlace) (own := RL) (envM := eL_atPlace) hlt rfl (by decide +kernel) (by decide +kernel) rfl (fun j q hq => by
  match j, hq with
  | 0, hq => cases hq; exact tX5_atPlace hlt
  | n + 1, hq => cases hq) aL_atPlace wL_atPlace xL_atPlace rfl
def mL_behind : zm_M := (yL_behind, cL_behind, 5, (some .int), (9, 1, 6, 189), 4, [(0, 9, 12, 29), (0, 9, 16, 19)], (1, 6))
def rL_behind : List zm_R := [(0, .aload_n 3, 0, [], 0, 0, (0, 0), false, []),
  (1, .iconst 0, 0, [], 0, 0, (0, 0), false, []),
  (2, .aload_n 0, 0, [], 0, 0, (0, 0), false, []),
  (3, .iload_n 1, 0, [], 0, 0, (0, 0), false, []),
  (4, .iload_n 2, 0, [], 0, 0, (0, 0), false, []),
  (5, .invokevirtual 75, 6, [0, 0, 3, 2, 2, 5, 2, 8, 4, 1, 11, 4], 0, 0, (0, 0), false, []),
  (8, .lastore, 3, [1], 0, 0, (0, 0), false, []),
  (9, .goto 11, 1, [14], 0, 0, (0, 0), false, []),
  (12, .astore 4, 0, [], 0, 0, (0, 0), false, []),
  (14, .iconst 1, 0, [], 1, 0, (1, 6), false, []),
  (15, .ireturn, 5, [0], 0, 0, (1, 6), false, []),
  (16, .astore 4, 0, [], 0, 0, (0, 0), false, []),
  (18, .iconst 2, 0, [], 2, 0, (1, 6), false, []),
  (19, .ireturn, 5, [0], 0, 0, (1, 6), false, []),
  (20, .iconst 0, 0, [], 0, 0, (0, 0), false, []),
  (21, .ireturn, 5, [0], 0, 0, (0, 0), false, [])]
def eL_behind : List zm_M := [mX5_behind]
noncomputable def vL_behind : List (zm_M × zm_S) := [(mX5_behind, sX5_behind)]
noncomputable def sL_behind : zm_S := zsem vL_behind rL_behind 5
set_option maxRecDepth 100000 in
theorem aL_behind : zall RL mL_behind eL_behind rL_behind = true := by decide +kernel
set_option maxRecDepth 100000 in
theorem wL_behind : ∀ w ∈ zwds RL mL_behind eL_behind rL_behind, w ∈ gT := zwd_of [1041, 1042, 1043, 114, 1044, 892, 859] (by decide +kernel) (by decide +kernel) (z7_no (by decide +kernel))
set_option maxRecDepth 100000 in
theorem xL_behind : ∀ w ∈ zwxs RL mL_behind eL_behind rL_behind, zspc w = true ∧ w ∈ lw_tbl := by decide +kernel
theorem tL_behind {l : Launch} (hlt : l.stackTraces = false) : MetA l mL_behind sL_behind := zmet (M := mL_behind) (own := RL) (envM := eL_behind) hlt rfl (by decide +kernel) (by decide +kernel) rfl (fun j q hq => by
  match j, hq with
  | 0, hq => cases hq; exact tX5_behind hlt
  | n + 1, hq => cases hq) aL_behind wL_behind xL_behind rfl
def mL_share : zm_M := (yL_share, cL_share, 5, (some .int), (9, 1, 6, 193), 4, [(0, 9, 12, 29), (0, 9, 16, 19)], (1, 6))
def rL_share : List zm_R := [(0, .aload_n 3, 0, [], 0, 0, (0, 0), false, []),
  (1, .iconst 0, 0, [], 0, 0, (0, 0), false, []),
  (2, .aload_n 0, 0, [], 0, 0, (0, 0), false, []),
  (3, .iload_n 1, 0, [], 0, 0, (0, 0), false, []),
  (4, .iload_n 2, 0, [], 0, 0, (0, 0), false, []),
  (5, .invokevirtual 78, 6, [0, 0, 3, 4, 2, 5, 2, 8, 4, 1, 11, 4], 0, 0, (0, 0), false, []),
  (8, .dastore, 3, [4], 0, 0, (0, 0), false, []),
  (9, .goto 11, 1, [14], 0, 0, (0, 0), false, []),
  (12, .astore 4, 0, [], 0, 0, (0, 0), false, []),
  (14, .iconst 1, 0, [], 1, 0, (1, 6), false, []),
  (15, .ireturn, 5, [0], 0, 0, (1, 6), false, []),
  (16, .astore 4, 0, [], 0, 0, (0, 0), false, []),
  (18, .iconst 2, 0, [], 2, 0, (1, 6), false, []),
  (19, .ireturn, 5, [0], 0, 0, (1, 6), false, []),
  (20, .iconst 0, 0, [], 0, 0, (0, 0), false, []),
  (21, .ireturn, 5, [0], 0, 0, (0, 0), false, [])]
def eL_share : List zm_M := [mX5_share]
noncomputable def vL_share : List (zm_M × zm_S) := [(mX5_share, sX5_share)]
noncomputable def sL_share : zm_S := zsem vL_share rL_share 5
set_option maxRecDepth 100000 in
theorem aL_share : zall RL mL_share eL_share rL_share = true := by decide +kernel
set_option maxRecDepth 100000 in
theorem wL_share : ∀ w ∈ zwds RL mL_share eL_share rL_share, w ∈ gT := zwd_of [1052, 1053, 1054, 114, 1055, 892, 859] (by decide +kernel) (by decide +kernel) (z7_no (by decide +kernel))
set_option maxRecDepth 100000 in
theorem xL_share : ∀ w ∈ zwxs RL mL_share eL_share rL_share, zspc w = true ∧ w ∈ lw_tbl := by decide +kernel
theorem tL_share {l : Launch} (hlt : l.stackTraces = false) : MetA l mL_share sL_share := zmet (M := mL_share) (own := RL) (envM := eL_share) hlt rfl (by decide +kernel) (by decide +kernel) rfl (fun j q hq => by
  match j, hq with
  | 0, hq => cases hq; exact tX5_share hlt
  | n + 1, hq => cases hq) aL_share wL_share xL_share rfl
def mL_go : zm_M := (yL_go, cL_go, 4, (some .int), (9, 1, 6, 184), 3, [(0, 8, 11, 29), (0, 8, 14, 13)], (1, 6))
def rL_go : List zm_R := [(0, .aload_n 2, 0, [], 0, 0, (0, 0), false, []),
  (1, .iconst 0, 0, [], 0, 0, (0, 0), false, []),
  (2, .aload_n 0, 0, [], 0, 0, (0, 0), false, []),
  (3, .iload_n 1, 0, [], 0, 0, (0, 0), false, []),
  (4, .invokevirtual 82, 6, [0, 0, 2, 2, 2, 5, 2, 7, 3, 0, 10, 3], 0, 0, (0, 0), false, []),
  (7, .lastore, 3, [1], 0, 0, (0, 0), false, []),
  (8, .goto 9, 1, [13], 0, 0, (0, 0), false, []),
  (11, .astore_n 3, 0, [], 0, 0, (0, 0), false, []),
  (12, .iconst 1, 0, [], 1, 0, (1, 6), false, []),
  (13, .ireturn, 5, [0], 0, 0, (1, 6), false, []),
  (14, .astore_n 3, 0, [], 0, 0, (0, 0), false, []),
  (15, .iconst 2, 0, [], 2, 0, (1, 6), false, []),
  (16, .ireturn, 5, [0], 0, 0, (1, 6), false, []),
  (17, .iconst 0, 0, [], 0, 0, (0, 0), false, []),
  (18, .ireturn, 5, [0], 0, 0, (0, 0), false, [])]
def eL_go : List zm_M := [mX5_go]
noncomputable def vL_go : List (zm_M × zm_S) := [(mX5_go, sX5_go)]
noncomputable def sL_go : zm_S := zsem vL_go rL_go 4
set_option maxRecDepth 100000 in
theorem aL_go : zall RL mL_go eL_go rL_go = true := by decide +kernel
set_option maxRecDepth 100000 in
theorem wL_go : ∀ w ∈ zwds RL mL_go eL_go rL_go, w ∈ gT := zwd_of [1060, 1061, 1062, 114, 1063, 892, 831] (by decide +kernel) (by decide +kernel) (z7_no (by decide +kernel))
set_option maxRecDepth 100000 in
theorem xL_go : ∀ w ∈ zwxs RL mL_go eL_go rL_go, zspc w = true ∧ w ∈ lw_tbl := by decide +kernel
theorem tL_go {l : Launch} (hlt : l.stackTraces = false) : MetA l mL_go sL_go := zmet (M := mL_go) (own := RL) (envM := eL_go) hlt rfl (by decide +kernel) (by decide +kernel) rfl (fun j q hq => by
  match j, hq with
  | 0, hq => cases hq; exact tX5_go hlt
  | n + 1, hq => cases hq) aL_go wL_go xL_go rfl
def mL_back : zm_M := (yL_back, cL_back, 4, (some .int), (7, 1, 6, 141), 3, [(0, 9, 12, 19)], (1, 6))
def rL_back : List zm_R := [(0, .aload_n 2, 0, [], 0, 0, (0, 0), false, []),
  (1, .iconst 0, 0, [], 0, 0, (0, 0), false, []),
  (2, .aload_n 0, 0, [], 0, 0, (0, 0), false, []),
  (3, .iload_n 1, 0, [], 0, 0, (0, 0), false, []),
  (4, .invokevirtual 85, 6, [0, 0, 2, 1, 2, 5, 1, 8, 3], 0, 0, (0, 0), false, []),
  (7, .i2l, 0, [], 0, 0, (0, 0), false, []),
  (8, .lastore, 3, [1], 0, 0, (0, 0), false, []),
  (9, .goto 6, 1, [11], 0, 0, (0, 0), false, []),
  (12, .astore_n 3, 0, [], 0, 0, (0, 0), false, []),
  (13, .iconst 1, 0, [], 1, 0, (1, 6), false, []),
  (14, .ireturn, 5, [0], 0, 0, (1, 6), false, []),
  (15, .iconst 0, 0, [], 0, 0, (0, 0), false, []),
  (16, .ireturn, 5, [0], 0, 0, (0, 0), false, [])]
def eL_back : List zm_M := [mX5_back]
noncomputable def vL_back : List (zm_M × zm_S) := [(mX5_back, sX5_back)]
noncomputable def sL_back : zm_S := zsem vL_back rL_back 4
set_option maxRecDepth 100000 in
theorem aL_back : zall RL mL_back eL_back rL_back = true := by decide +kernel
set_option maxRecDepth 100000 in
theorem wL_back : ∀ w ∈ zwds RL mL_back eL_back rL_back, w ∈ gT := zwd_of [1073, 1074, 1075, 114, 1076, 859] (by decide +kernel) (by decide +kernel) (z7_no (by decide +kernel))
set_option maxRecDepth 100000 in
theorem xL_back : ∀ w ∈ zwxs RL mL_back eL_back rL_back, zspc w = true ∧ w ∈ lw_tbl := by decide +kernel
theorem tL_back {l : Launch} (hlt : l.stackTraces = false) : MetA l mL_back sL_back := zmet (M := mL_back) (own := RL) (envM := eL_back) hlt rfl (by decide +kernel) (by decide +kernel) rfl (fun j q hq => by
  match j, hq with
  | 0, hq => cases hq; exact tX5_back hlt
  | n + 1, hq => cases hq) aL_back wL_back xL_back rfl
def mL_complete : zm_M := (yL_complete, cL_complete, 3, (some .int), (7, 1, 6, 157), 2, [(0, 8, 11, 13)], (1, 6))
def rL_complete : List zm_R := [(0, .aload_n 1, 0, [], 0, 0, (0, 0), false, []),
  (1, .iconst 0, 0, [], 0, 0, (0, 0), false, []),
  (2, .aload_n 0, 0, [], 0, 0, (0, 0), false, []),
  (3, .invokevirtual 88, 6, [0, 0, 1, 1, 2, 5, 0, 7, 2], 0, 0, (0, 0), false, []),
  (6, .i2l, 0, [], 0, 0, (0, 0), false, []),
  (7, .lastore, 3, [1], 0, 0, (0, 0), false, []),
  (8, .goto 6, 1, [10], 0, 0, (0, 0), false, []),
  (11, .astore_n 2, 0, [], 0, 0, (0, 0), false, []),
  (12, .iconst 1, 0, [], 1, 0, (1, 6), false, []),
  (13, .ireturn, 5, [0], 0, 0, (1, 6), false, []),
  (14, .iconst 0, 0, [], 0, 0, (0, 0), false, []),
  (15, .ireturn, 5, [0], 0, 0, (0, 0), false, [])]
def eL_complete : List zm_M := [mX5_complete]
noncomputable def vL_complete : List (zm_M × zm_S) := [(mX5_complete, sX5_complete)]
noncomputable def sL_complete : zm_S := zsem vL_complete rL_complete 3
set_option maxRecDepth 100000 in
theorem aL_complete : zall RL mL_complete eL_complete rL_complete = true := by decide +kernel
set_option maxRecDepth 100000 in
theorem wL_complete : ∀ w ∈ zwds RL mL_complete eL_complete rL_complete, w ∈ gT := zwd_of [1081, 1082, 1083, 114, 1084, 831] (by decide +kernel) (by decide +kernel) (z7_no (by decide +kernel))
set_option maxRecDepth 100000 in
theorem xL_complete : ∀ w ∈ zwxs RL mL_complete eL_complete rL_complete, zspc w = true ∧ w ∈ lw_tbl := by decide +kernel
theorem tL_complete {l : Launch} (hlt : l.stackTraces = false) : MetA l mL_complete sL_complete := zmet (M := mL_complete) (own := RL) (envM := eL_complete) hlt rfl (by decide +kernel) (by decide +kernel) rfl (fun j q hq => by
  match j, hq with
  | 0, hq => cases hq; exact tX5_complete hlt
  | n + 1, hq => cases hq) aL_complete wL_complete xL_complete rfl
def mL_walk : zm_M := (yL_walk, cL_walk, 5, (some .int), (8, 1, 6, 166), 3, [(0, 9, 12, 19)], (1, 6))
def rL_walk : List zm_R := [(0, .aload_n 3, 0, [], 0, 0, (0, 0), false, []),
  (1, .iconst 0, 0, [], 0, 0, (0, 0), false, []),
  (2, .aload_n 0, 0, [], 0, 0, (0, 0), false, []),
  (3, .lload_n 1, 0, [], 0, 0, (0, 0), false, []),
  (4, .invokevirtual 92, 6, [0, 0, 2, 1, 2, 5, 1, 8, 4], 0, 0, (0, 0), false, []),
  (7, .i2l, 0, [], 0, 0, (0, 0), false, []),
  (8, .lastore, 3, [1], 0, 0, (0, 0), false, []),
  (9, .goto 7, 1, [11], 0, 0, (0, 0), false, []),
  (12, .astore 4, 0, [], 0, 0, (0, 0), false, []),
  (14, .iconst 1, 0, [], 1, 0, (1, 6), false, []),
  (15, .ireturn, 5, [0], 0, 0, (1, 6), false, []),
  (16, .iconst 0, 0, [], 0, 0, (0, 0), false, []),
  (17, .ireturn, 5, [0], 0, 0, (0, 0), false, [])]
def eL_walk : List zm_M := [mX5_walk]
noncomputable def vL_walk : List (zm_M × zm_S) := [(mX5_walk, sX5_walk)]
noncomputable def sL_walk : zm_S := zsem vL_walk rL_walk 5
set_option maxRecDepth 100000 in
theorem aL_walk : zall RL mL_walk eL_walk rL_walk = true := by decide +kernel
set_option maxRecDepth 100000 in
theorem wL_walk : ∀ w ∈ zwds RL mL_walk eL_walk rL_walk, w ∈ gT := zwd_of [1089, 1090, 1091, 114, 1092, 859] (by decide +kernel) (by decide +kernel) (z7_no (by decide +kernel))
set_option maxRecDepth 100000 in
theorem xL_walk : ∀ w ∈ zwxs RL mL_walk eL_walk rL_walk, zspc w = true ∧ w ∈ lw_tbl := by decide +kernel
theorem tL_walk {l : Launch} (hlt : l.stackTraces = false) : MetA l mL_walk sL_walk := zmet (M := mL_walk) (own := RL) (envM := eL_walk) hlt rfl (by decide +kernel) (by decide +kernel) rfl (fun j q hq => by
  match j, hq with
  | 0, hq => cases hq; exact tX5_walk hlt
  | n + 1, hq => cases hq) aL_walk wL_walk xL_walk rfl
def mL_setKey : zm_M := (yL_setKey, cL_setKey, 6, (some .int), (8, 1, 6, 165), 5, [(0, 19, 22, 29)], (1, 6))
def rL_setKey : List zm_R := [(0, .aload 4, 0, [], 0, 0, (0, 0), false, []),
  (2, .iconst 0, 0, [], 0, 0, (0, 0), false, []),
  (3, .aload_n 0, 0, [], 0, 0, (0, 0), false, []),
  (4, .iload_n 1, 0, [], 0, 0, (0, 0), false, []),
  (5, .iload_n 2, 0, [], 0, 0, (0, 0), false, []),
  (6, .iload_n 3, 0, [], 0, 0, (0, 0), false, []),
  (7, .invokevirtual 96, 6, [0, 0, 4, 1, 2, 5, 2, 13, 5], 0, 0, (0, 0), false, []),
  (10, .ifCond .eq 7, 1, [10], 0, 0, (0, 0), false, []),
  (13, .lconst 1, 0, [], 0, 1, (0, 0), false, []),
  (14, .goto 4, 1, [11], 0, 0, (0, 0), false, []),
  (17, .lconst 0, 0, [], 0, 0, (0, 0), false, []),
  (18, .lastore, 3, [1], 0, 0, (0, 0), false, []),
  (19, .goto 7, 1, [16], 0, 0, (0, 0), false, []),
  (22, .astore 5, 0, [], 0, 0, (0, 0), false, []),
  (24, .iconst 1, 0, [], 1, 0, (1, 6), false, []),
  (25, .ireturn, 5, [0], 0, 0, (1, 6), false, []),
  (26, .iconst 0, 0, [], 0, 0, (0, 0), false, []),
  (27, .ireturn, 5, [0], 0, 0, (0, 0), false, [])]
def eL_setKey : List zm_M := [mX5_setKey]
noncomputable def vL_setKey : List (zm_M × zm_S) := [(mX5_setKey, sX5_setKey)]
noncomputable def sL_setKey : zm_S := zsem vL_setKey rL_setKey 6
set_option maxRecDepth 100000 in
theorem aL_setKey : zall RL mL_setKey eL_setKey rL_setKey = true := by decide +kernel
set_option maxRecDepth 100000 in
theorem wL_setKey : ∀ w ∈ zwds RL mL_setKey eL_setKey rL_setKey, w ∈ gT := zwd_of [1097, 1098, 1099, 114, 1100, 892] (by decide +kernel) (by decide +kernel) (z7_no (by decide +kernel))
set_option maxRecDepth 100000 in
theorem xL_setKey : ∀ w ∈ zwxs RL mL_setKey eL_setKey rL_setKey, zspc w = true ∧ w ∈ lw_tbl := by decide +kernel
theorem tL_setKey {l : Launch} (hlt : l.stackTraces = false) : MetA l mL_setKey sL_setKey := zmet (M := mL_setKey) (own := RL) (envM := eL_setKey) hlt rfl (by decide +kernel) (by decide +kernel) rfl (fun j q hq => by
  match j, hq with
  | 0, hq => cases hq; exact tX5_setKey hlt
  | n + 1, hq => cases hq) aL_setKey wL_setKey xL_setKey rfl
def mL_setCoins : zm_M := (yL_setCoins, cL_setCoins, 5, (some .int), (8, 1, 6, 164), 4, [(0, 10, 13, 29), (0, 10, 17, 19)], (1, 6))
def rL_setCoins : List zm_R := [(0, .aload_n 3, 0, [], 0, 0, (0, 0), false, []),
  (1, .iconst 0, 0, [], 0, 0, (0, 0), false, []),
  (2, .aload_n 0, 0, [], 0, 0, (0, 0), false, []),
  (3, .iload_n 1, 0, [], 0, 0, (0, 0), false, []),
  (4, .iload_n 2, 0, [], 0, 0, (0, 0), false, []),
  (5, .invokevirtual 100, 6, [0, 0, 3, 1, 2, 5, 2, 9, 4, 1, 12, 4], 0, 0, (0, 0), false, []),
  (8, .i2l, 0, [], 0, 0, (0, 0), false, []),
  (9, .lastore, 3, [1], 0, 0, (0, 0), false, []),
  (10, .goto 11, 1, [15], 0, 0, (0, 0), false, []),
  (13, .astore 4, 0, [], 0, 0, (0, 0), false, []),
  (15, .iconst 1, 0, [], 1, 0, (1, 6), false, []),
  (16, .ireturn, 5, [0], 0, 0, (1, 6), false, []),
  (17, .astore 4, 0, [], 0, 0, (0, 0), false, []),
  (19, .iconst 2, 0, [], 2, 0, (1, 6), false, []),
  (20, .ireturn, 5, [0], 0, 0, (1, 6), false, []),
  (21, .iconst 0, 0, [], 0, 0, (0, 0), false, []),
  (22, .ireturn, 5, [0], 0, 0, (0, 0), false, [])]
def eL_setCoins : List zm_M := [mX5_setCoins]
noncomputable def vL_setCoins : List (zm_M × zm_S) := [(mX5_setCoins, sX5_setCoins)]
noncomputable def sL_setCoins : zm_S := zsem vL_setCoins rL_setCoins 5
set_option maxRecDepth 100000 in
theorem aL_setCoins : zall RL mL_setCoins eL_setCoins rL_setCoins = true := by decide +kernel
set_option maxRecDepth 100000 in
theorem wL_setCoins : ∀ w ∈ zwds RL mL_setCoins eL_setCoins rL_setCoins, w ∈ gT := zwd_of [1109, 1110, 1111, 114, 1112, 892, 859] (by decide +kernel) (by decide +kernel) (z7_no (by decide +kernel))
set_option maxRecDepth 100000 in
theorem xL_setCoins : ∀ w ∈ zwxs RL mL_setCoins eL_setCoins rL_setCoins, zspc w = true ∧ w ∈ lw_tbl := by decide +kernel
theorem tL_setCoins {l : Launch} (hlt : l.stackTraces = false) : MetA l mL_setCoins sL_setCoins := zmet (M := mL_setCoins) (own := RL) (envM := eL_setCoins) hlt rfl (by decide +kernel) (by decide +kernel) rfl (fun j q hq => by
  match j, hq with
  | 0, hq => cases hq; exact tX5_setCoins hlt
  | n + 1, hq => cases hq) aL_setCoins wL_setCoins xL_setCoins rfl
def mL_setLock : zm_M := (yL_setLock, cL_setLock, 6, (some .int), (8, 1, 6, 165), 5, [(0, 12, 15, 29), (0, 12, 19, 19)], (1, 6))
def rL_setLock : List zm_R := [(0, .aload 4, 0, [], 0, 0, (0, 0), false, []),
  (2, .iconst 0, 0, [], 0, 0, (0, 0), false, []),
  (3, .aload_n 0, 0, [], 0, 0, (0, 0), false, []),
  (4, .iload_n 1, 0, [], 0, 0, (0, 0), false, []),
  (5, .iload_n 2, 0, [], 0, 0, (0, 0), false, []),
  (6, .iload_n 3, 0, [], 0, 0, (0, 0), false, []),
  (7, .invokevirtual 103, 6, [0, 0, 4, 1, 2, 5, 2, 10, 5, 1, 13, 5], 0, 0, (0, 0), false, []),
  (10, .i2l, 0, [], 0, 0, (0, 0), false, []),
  (11, .lastore, 3, [1], 0, 0, (0, 0), false, []),
  (12, .goto 11, 1, [16], 0, 0, (0, 0), false, []),
  (15, .astore 5, 0, [], 0, 0, (0, 0), false, []),
  (17, .iconst 1, 0, [], 1, 0, (1, 6), false, []),
  (18, .ireturn, 5, [0], 0, 0, (1, 6), false, []),
  (19, .astore 5, 0, [], 0, 0, (0, 0), false, []),
  (21, .iconst 2, 0, [], 2, 0, (1, 6), false, []),
  (22, .ireturn, 5, [0], 0, 0, (1, 6), false, []),
  (23, .iconst 0, 0, [], 0, 0, (0, 0), false, []),
  (24, .ireturn, 5, [0], 0, 0, (0, 0), false, [])]
def eL_setLock : List zm_M := [mX5_setLock]
noncomputable def vL_setLock : List (zm_M × zm_S) := [(mX5_setLock, sX5_setLock)]
noncomputable def sL_setLock : zm_S := zsem vL_setLock rL_setLock 6
set_option maxRecDepth 100000 in
theorem aL_setLock : zall RL mL_setLock eL_setLock rL_setLock = true := by decide +kernel
set_option maxRecDepth 100000 in
theorem wL_setLock : ∀ w ∈ zwds RL mL_setLock eL_setLock rL_setLock, w ∈ gT := zwd_of [1117, 1118, 1119, 114, 1120, 892, 859] (by decide +kernel) (by decide +kernel) (z7_no (by decide +kernel))
set_option maxRecDepth 100000 in
theorem xL_setLock : ∀ w ∈ zwxs RL mL_setLock eL_setLock rL_setLock, zspc w = true ∧ w ∈ lw_tbl := by decide +kernel
theorem tL_setLock {l : Launch} (hlt : l.stackTraces = false) : MetA l mL_setLock sL_setLock := zmet (M := mL_setLock) (own := RL) (envM := eL_setLock) hlt rfl (by decide +kernel) (by decide +kernel) rfl (fun j q hq => by
  match j, hq with
  | 0, hq => cases hq; exact tX5_setLock hlt
  | n + 1, hq => cases hq) aL_setLock wL_setLock xL_setLock rfl
def mL_addDoor : zm_M := (yL_addDoor, cL_addDoor, 6, (some .int), (9, 1, 6, 187), 5, [(0, 12, 15, 29), (0, 12, 19, 19), (0, 12, 23, 13)], (1, 6))
def rL_addDoor : List zm_R := [(0, .aload 4, 0, [], 0, 0, (0, 0), false, []),
  (2, .iconst 0, 0, [], 0, 0, (0, 0), false, []),
  (3, .aload_n 0, 0, [], 0, 0, (0, 0), false, []),
  (4, .iload_n 1, 0, [], 0, 0, (0, 0), false, []),
  (5, .iload_n 2, 0, [], 0, 0, (0, 0), false, []),
  (6, .iload_n 3, 0, [], 0, 0, (0, 0), false, []),
  (7, .invokevirtual 107, 6, [0, 0, 4, 1, 2, 5, 2, 10, 5, 1, 13, 5, 0, 16, 5], 0, 0, (0, 0), false, []),
  (10, .i2l, 0, [], 0, 0, (0, 0), false, []),
  (11, .lastore, 3, [1], 0, 0, (0, 0), false, []),
  (12, .goto 15, 1, [19], 0, 0, (0, 0), false, []),
  (15, .astore 5, 0, [], 0, 0, (0, 0), false, []),
  (17, .iconst 1, 0, [], 1, 0, (1, 6), false, []),
  (18, .ireturn, 5, [0], 0, 0, (1, 6), false, []),
  (19, .astore 5, 0, [], 0, 0, (0, 0), false, []),
  (21, .iconst 2, 0, [], 2, 0, (1, 6), false, []),
  (22, .ireturn, 5, [0], 0, 0, (1, 6), false, []),
  (23, .astore 5, 0, [], 0, 0, (0, 0), false, []),
  (25, .iconst 3, 0, [], 3, 0, (1, 6), false, []),
  (26, .ireturn, 5, [0], 0, 0, (1, 6), false, []),
  (27, .iconst 0, 0, [], 0, 0, (0, 0), false, []),
  (28, .ireturn, 5, [0], 0, 0, (0, 0), false, [])]
def eL_addDoor : List zm_M := [mX5_addDoor]
noncomputable def vL_addDoor : List (zm_M × zm_S) := [(mX5_addDoor, sX5_addDoor)]
noncomputable def sL_addDoor : zm_S := zsem vL_addDoor rL_addDoor 6
set_option maxRecDepth 100000 in
theorem aL_addDoor : zall RL mL_addDoor eL_addDoor rL_addDoor = true := by decide +kernel
set_option maxRecDepth 100000 in
theorem wL_addDoor : ∀ w ∈ zwds RL mL_addDoor eL_addDoor rL_addDoor, w ∈ gT := zwd_of [1127, 1128, 1129, 114, 1130, 892, 859, 831] (by decide +kernel) (by decide +kernel) (z7_no (by decide +kernel))
set_option maxRecDepth 100000 in
theorem xL_addDoor : ∀ w ∈ zwxs RL mL_addDoor eL_addDoor rL_addDoor, zspc w = true ∧ w ∈ lw_tbl := by decide +kernel
theorem tL_addDoor {l : Launch} (hlt : l.stackTraces = false) : MetA l mL_addDoor sL_addDoor := zmet (M := mL_addDoor) (own := RL) (envM := eL_addDoor) hlt rfl (by decide +kernel) (by decide +kernel) rfl (fun j q hq => by
  match j, hq with
  | 0, hq => cases hq; exact tX5_addDoor hlt
  | n + 1, hq => cases hq) aL_addDoor wL_addDoor xL_addDoor rfl
def mL_removeDoor : zm_M := (yL_removeDoor, cL_removeDoor, 4, (some .int), (8, 1, 6, 162), 3, [(0, 9, 12, 29)], (1, 6))
def rL_removeDoor : List zm_R := [(0, .aload_n 2, 0, [], 0, 0, (0, 0), false, []),
  (1, .iconst 0, 0, [], 0, 0, (0, 0), false, []),
  (2, .aload_n 0, 0, [], 0, 0, (0, 0), false, []),
  (3, .iload_n 1, 0, [], 0, 0, (0, 0), false, []),
  (4, .invokevirtual 111, 6, [0, 0, 2, 1, 2, 5, 2, 8, 3], 0, 0, (0, 0), false, []),
  (7, .i2l, 0, [], 0, 0, (0, 0), false, []),
  (8, .lastore, 3, [1], 0, 0, (0, 0), false, []),
  (9, .goto 6, 1, [11], 0, 0, (0, 0), false, []),
  (12, .astore_n 3, 0, [], 0, 0, (0, 0), false, []),
  (13, .iconst 1, 0, [], 1, 0, (1, 6), false, []),
  (14, .ireturn, 5, [0], 0, 0, (1, 6), false, []),
  (15, .iconst 0, 0, [], 0, 0, (0, 0), false, []),
  (16, .ireturn, 5, [0], 0, 0, (0, 0), false, [])]
def eL_removeDoor : List zm_M := [mX5_removeDoor]
noncomputable def vL_removeDoor : List (zm_M × zm_S) := [(mX5_removeDoor, sX5_removeDoor)]
noncomputable def sL_removeDoor : zm_S := zsem vL_removeDoor rL_removeDoor 4
set_option maxRecDepth 100000 in
theorem aL_removeDoor : zall RL mL_removeDoor eL_removeDoor rL_removeDoor = true := by decide +kernel
set_option maxRecDepth 100000 in
theorem wL_removeDoor : ∀ w ∈ zwds RL mL_removeDoor eL_removeDoor rL_removeDoor, w ∈ gT := zwd_of [1136, 1137, 1138, 114, 1139, 892] (by decide +kernel) (by decide +kernel) (z7_no (by decide +kernel))
set_option maxRecDepth 100000 in
theorem xL_removeDoor : ∀ w ∈ zwxs RL mL_removeDoor eL_removeDoor rL_removeDoor, zspc w = true ∧ w ∈ lw_tbl := by decide +kernel
theorem tL_removeDoor {l : Launch} (hlt : l.stackTraces = false) : MetA l mL_removeDoor sL_removeDoor := zmet (M := mL_removeDoor) (own := RL) (envM := eL_removeDoor) hlt rfl (by decide +kernel) (by decide +kernel) rfl (fun j q hq => by
  match j, hq with
  | 0, hq => cases hq; exact tX5_removeDoor hlt
  | n + 1, hq => cases hq) aL_removeDoor wL_removeDoor xL_removeDoor rfl
def mL_setStart : zm_M := (yL_setStart, cL_setStart, 4, (some .int), (8, 1, 6, 163), 3, [(0, 9, 12, 29)], (1, 6))
def rL_setStart : List zm_R := [(0, .aload_n 2, 0, [], 0, 0, (0, 0), false, []),
  (1, .iconst 0, 0, [], 0, 0, (0, 0), false, []),
  (2, .aload_n 0, 0, [], 0, 0, (0, 0), false, []),
  (3, .iload_n 1, 0, [], 0, 0, (0, 0), false, []),
  (4, .invokevirtual 114, 6, [0, 0, 2, 1, 2, 5, 2, 8, 3], 0, 0, (0, 0), false, []),
  (7, .i2l, 0, [], 0, 0, (0, 0), false, []),
  (8, .lastore, 3, [1], 0, 0, (0, 0), false, []),
  (9, .goto 6, 1, [11], 0, 0, (0, 0), false, []),
  (12, .astore_n 3, 0, [], 0, 0, (0, 0), false, []),
  (13, .iconst 1, 0, [], 1, 0, (1, 6), false, []),
  (14, .ireturn, 5, [0], 0, 0, (1, 6), false, []),
  (15, .iconst 0, 0, [], 0, 0, (0, 0), false, []),
  (16, .ireturn, 5, [0], 0, 0, (0, 0), false, [])]
def eL_setStart : List zm_M := [mX5_setStart]
noncomputable def vL_setStart : List (zm_M × zm_S) := [(mX5_setStart, sX5_setStart)]
noncomputable def sL_setStart : zm_S := zsem vL_setStart rL_setStart 4
set_option maxRecDepth 100000 in
theorem aL_setStart : zall RL mL_setStart eL_setStart rL_setStart = true := by decide +kernel
set_option maxRecDepth 100000 in
theorem wL_setStart : ∀ w ∈ zwds RL mL_setStart eL_setStart rL_setStart, w ∈ gT := zwd_of [1143, 1144, 1145, 114, 1146, 892] (by decide +kernel) (by decide +kernel) (z7_no (by decide +kernel))
set_option maxRecDepth 100000 in
theorem xL_setStart : ∀ w ∈ zwxs RL mL_setStart eL_setStart rL_setStart, zspc w = true ∧ w ∈ lw_tbl := by decide +kernel
theorem tL_setStart {l : Launch} (hlt : l.stackTraces = false) : MetA l mL_setStart sL_setStart := zmet (M := mL_setStart) (own := RL) (envM := eL_setStart) hlt rfl (by decide +kernel) (by decide +kernel) rfl (fun j q hq => by
  match j, hq with
  | 0, hq => cases hq; exact tX5_setStart hlt
  | n + 1, hq => cases hq) aL_setStart wL_setStart xL_setStart rfl
def mL_setEnd : zm_M := (yL_setEnd, cL_setEnd, 4, (some .int), (8, 1, 6, 163), 3, [(0, 9, 12, 29)], (1, 6))
def rL_setEnd : List zm_R := [(0, .aload_n 2, 0, [], 0, 0, (0, 0), false, []),
  (1, .iconst 0, 0, [], 0, 0, (0, 0), false, []),
  (2, .aload_n 0, 0, [], 0, 0, (0, 0), false, []),
  (3, .iload_n 1, 0, [], 0, 0, (0, 0), false, []),
  (4, .invokevirtual 117, 6, [0, 0, 2, 1, 2, 5, 2, 8, 3], 0, 0, (0, 0), false, []),
  (7, .i2l, 0, [], 0, 0, (0, 0), false, []),
  (8, .lastore, 3, [1], 0, 0, (0, 0), false, []),
  (9, .goto 6, 1, [11], 0, 0, (0, 0), false, []),
  (12, .astore_n 3, 0, [], 0, 0, (0, 0), false, []),
  (13, .iconst 1, 0, [], 1, 0, (1, 6), false, []),
  (14, .ireturn, 5, [0], 0, 0, (1, 6), false, []),
  (15, .iconst 0, 0, [], 0, 0, (0, 0), false, []),
  (16, .ireturn, 5, [0], 0, 0, (0, 0), false, [])]
def eL_setEnd : List zm_M := [mX5_setEnd]
noncomputable def vL_setEnd : List (zm_M × zm_S) := [(mX5_setEnd, sX5_setEnd)]
noncomputable def sL_setEnd : zm_S := zsem vL_setEnd rL_setEnd 4
set_option maxRecDepth 100000 in
theorem aL_setEnd : zall RL mL_setEnd eL_setEnd rL_setEnd = true := by decide +kernel
set_option maxRecDepth 100000 in
theorem wL_setEnd : ∀ w ∈ zwds RL mL_setEnd eL_setEnd rL_setEnd, w ∈ gT := zwd_of [1151, 1152, 1153, 114, 1154, 892] (by decide +kernel) (by decide +kernel) (z7_no (by decide +kernel))
set_option maxRecDepth 100000 in
theorem xL_setEnd : ∀ w ∈ zwxs RL mL_setEnd eL_setEnd rL_setEnd, zspc w = true ∧ w ∈ lw_tbl := by decide +kernel
theorem tL_setEnd {l : Launch} (hlt : l.stackTraces = false) : MetA l mL_setEnd sL_setEnd := zmet (M := mL_setEnd) (own := RL) (envM := eL_setEnd) hlt rfl (by decide +kernel) (by decide +kernel) rfl (fun j q hq => by
  match j, hq with
  | 0, hq => cases hq; exact tX5_setEnd hlt
  | n + 1, hq => cases hq) aL_setEnd wL_setEnd xL_setEnd rfl
def mL_keep : zm_M := (yL_keep, cL_keep, 4, (some .int), (8, 1, 6, 161), 3, [(0, 9, 12, 29)], (1, 6))
def rL_keep : List zm_R := [(0, .aload_n 2, 0, [], 0, 0, (0, 0), false, []),
  (1, .iconst 0, 0, [], 0, 0, (0, 0), false, []),
  (2, .aload_n 0, 0, [], 0, 0, (0, 0), false, []),
  (3, .iload_n 1, 0, [], 0, 0, (0, 0), false, []),
  (4, .invokevirtual 120, 6, [0, 0, 2, 1, 2, 5, 2, 8, 3], 0, 0, (0, 0), false, []),
  (7, .i2l, 0, [], 0, 0, (0, 0), false, []),
  (8, .lastore, 3, [1], 0, 0, (0, 0), false, []),
  (9, .goto 6, 1, [11], 0, 0, (0, 0), false, []),
  (12, .astore_n 3, 0, [], 0, 0, (0, 0), false, []),
  (13, .iconst 1, 0, [], 1, 0, (1, 6), false, []),
  (14, .ireturn, 5, [0], 0, 0, (1, 6), false, []),
  (15, .iconst 0, 0, [], 0, 0, (0, 0), false, []),
  (16, .ireturn, 5, [0], 0, 0, (0, 0), false, [])]
def eL_keep : List zm_M := [mX5_keep]
noncomputable def vL_keep : List (zm_M × zm_S) := [(mX5_keep, sX5_keep)]
noncomputable def sL_keep : zm_S := zsem vL_keep rL_keep 4
set_option maxRecDepth 100000 in
theorem aL_keep : zall RL mL_keep eL_keep rL_keep = true := by decide +kernel
set_option maxRecDepth 100000 in
theorem wL_keep : ∀ w ∈ zwds RL mL_keep eL_keep rL_keep, w ∈ gT := zwd_of [1158, 1159, 1160, 114, 1161, 892] (by decide +kernel) (by decide +kernel) (z7_no (by decide +kernel))
set_option maxRecDepth 100000 in
theorem xL_keep : ∀ w ∈ zwxs RL mL_keep eL_keep rL_keep, zspc w = true ∧ w ∈ lw_tbl := by decide +kernel
theorem tL_keep {l : Launch} (hlt : l.stackTraces = false) : MetA l mL_keep sL_keep := zmet (M := mL_keep) (own := RL) (envM := eL_keep) hlt rfl (by decide +kernel) (by decide +kernel) rfl (fun j q hq => by
  match j, hq with
  | 0, hq => cases hq; exact tX5_keep hlt
  | n + 1, hq => cases hq) aL_keep wL_keep xL_keep rfl
def mL_restore : zm_M := (yL_restore, cL_restore, 4, (some .int), (8, 1, 6, 161), 3, [(0, 9, 12, 29), (0, 9, 15, 13)], (1, 6))
def rL_restore : List zm_R := [(0, .aload_n 2, 0, [], 0, 0, (0, 0), false, []),
  (1, .iconst 0, 0, [], 0, 0, (0, 0), false, []),
  (2, .aload_n 0, 0, [], 0, 0, (0, 0), false, []),
  (3, .iload_n 1, 0, [], 0, 0, (0, 0), false, []),
  (4, .invokevirtual 123, 6, [0, 0, 2, 1, 2, 5, 2, 8, 3, 0, 11, 3], 0, 0, (0, 0), false, []),
  (7, .i2l, 0, [], 0, 0, (0, 0), false, []),
  (8, .lastore, 3, [1], 0, 0, (0, 0), false, []),
  (9, .goto 9, 1, [14], 0, 0, (0, 0), false, []),
  (12, .astore_n 3, 0, [], 0, 0, (0, 0), false, []),
  (13, .iconst 1, 0, [], 1, 0, (1, 6), false, []),
  (14, .ireturn, 5, [0], 0, 0, (1, 6), false, []),
  (15, .astore_n 3, 0, [], 0, 0, (0, 0), false, []),
  (16, .iconst 2, 0, [], 2, 0, (1, 6), false, []),
  (17, .ireturn, 5, [0], 0, 0, (1, 6), false, []),
  (18, .iconst 0, 0, [], 0, 0, (0, 0), false, []),
  (19, .ireturn, 5, [0], 0, 0, (0, 0), false, [])]
def eL_restore : List zm_M := [mX5_restore]
noncomputable def vL_restore : List (zm_M × zm_S) := [(mX5_restore, sX5_restore)]
noncomputable def sL_restore : zm_S := zsem vL_restore rL_restore 4
set_option maxRecDepth 100000 in
theorem aL_restore : zall RL mL_restore eL_restore rL_restore = true := by decide +kernel
set_option maxRecDepth 100000 in
theorem wL_restore : ∀ w ∈ zwds RL mL_restore eL_restore rL_restore, w ∈ gT := zwd_of [1169, 1170, 1171, 114, 1172, 892, 831] (by decide +kernel) (by decide +kernel) (z7_no (by decide +kernel))
set_option maxRecDepth 100000 in
theorem xL_restore : ∀ w ∈ zwxs RL mL_restore eL_restore rL_restore, zspc w = true ∧ w ∈ lw_tbl := by decide +kernel
theorem tL_restore {l : Launch} (hlt : l.stackTraces = false) : MetA l mL_restore sL_restore := zmet (M := mL_restore) (own := RL) (envM := eL_restore) hlt rfl (by decide +kernel) (by decide +kernel) rfl (fun j q hq => by
  match j, hq with
  | 0, hq => cases hq; exact tX5_restore hlt
  | n + 1, hq => cases hq) aL_restore wL_restore xL_restore rfl
def mL_undo : zm_M := (yL_undo, cL_undo, 3, (some .int), (7, 1, 6, 140), 2, [(0, 8, 11, 13)], (1, 6))
def rL_undo : List zm_R := [(0, .aload_n 1, 0, [], 0, 0, (0, 0), false, []),
  (1, .iconst 0, 0, [], 0, 0, (0, 0), false, []),
  (2, .aload_n 0, 0, [], 0, 0, (0, 0), false, []),
  (3, .invokevirtual 126, 6, [0, 0, 1, 1, 2, 5, 0, 7, 2], 0, 0, (0, 0), false, []),
  (6, .i2l, 0, [], 0, 0, (0, 0), false, []),
  (7, .lastore, 3, [1], 0, 0, (0, 0), false, []),
  (8, .goto 6, 1, [10], 0, 0, (0, 0), false, []),
  (11, .astore_n 2, 0, [], 0, 0, (0, 0), false, []),
  (12, .iconst 1, 0, [], 1, 0, (1, 6), false, []),
  (13, .ireturn, 5, [0], 0, 0, (1, 6), false, []),
  (14, .iconst 0, 0, [], 0, 0, (0, 0), false, []),
  (15, .ireturn, 5, [0], 0, 0, (0, 0), false, [])]
def eL_undo : List zm_M := [mX5_undo]
noncomputable def vL_undo : List (zm_M × zm_S) := [(mX5_undo, sX5_undo)]
noncomputable def sL_undo : zm_S := zsem vL_undo rL_undo 3
set_option maxRecDepth 100000 in
theorem aL_undo : zall RL mL_undo eL_undo rL_undo = true := by decide +kernel
set_option maxRecDepth 100000 in
theorem wL_undo : ∀ w ∈ zwds RL mL_undo eL_undo rL_undo, w ∈ gT := zwd_of [1177, 1178, 1179, 114, 1180, 831] (by decide +kernel) (by decide +kernel) (z7_no (by decide +kernel))
set_option maxRecDepth 100000 in
theorem xL_undo : ∀ w ∈ zwxs RL mL_undo eL_undo rL_undo, zspc w = true ∧ w ∈ lw_tbl := by decide +kernel
theorem tL_undo {l : Launch} (hlt : l.stackTraces = false) : MetA l mL_undo sL_undo := zmet (M := mL_undo) (own := RL) (envM := eL_undo) hlt rfl (by decide +kernel) (by decide +kernel) rfl (fun j q hq => by
  match j, hq with
  | 0, hq => cases hq; exact tX5_undo hlt
  | n + 1, hq => cases hq) aL_undo wL_undo xL_undo rfl
def mL_writeTour : zm_M := (yL_writeTour, cL_writeTour, 5, (some .int), (8, 1, 6, 166), 3, [(0, 9, 12, 19)], (1, 6))
def rL_writeTour : List zm_R := [(0, .aload_n 3, 0, [], 0, 0, (0, 0), false, []),
  (1, .iconst 0, 0, [], 0, 0, (0, 0), false, []),
  (2, .aload_n 0, 0, [], 0, 0, (0, 0), false, []),
  (3, .lload_n 1, 0, [], 0, 0, (0, 0), false, []),
  (4, .invokevirtual 129, 6, [0, 0, 2, 1, 2, 5, 1, 8, 4], 0, 0, (0, 0), false, []),
  (7, .i2l, 0, [], 0, 0, (0, 0), false, []),
  (8, .lastore, 3, [1], 0, 0, (0, 0), false, []),
  (9, .goto 7, 1, [11], 0, 0, (0, 0), false, []),
  (12, .astore 4, 0, [], 0, 0, (0, 0), false, []),
  (14, .iconst 1, 0, [], 1, 0, (1, 6), false, []),
  (15, .ireturn, 5, [0], 0, 0, (1, 6), false, []),
  (16, .iconst 0, 0, [], 0, 0, (0, 0), false, []),
  (17, .ireturn, 5, [0], 0, 0, (0, 0), false, [])]
def eL_writeTour : List zm_M := [mX5_writeTour]
noncomputable def vL_writeTour : List (zm_M × zm_S) := [(mX5_writeTour, sX5_writeTour)]
noncomputable def sL_writeTour : zm_S := zsem vL_writeTour rL_writeTour 5
set_option maxRecDepth 100000 in
theorem aL_writeTour : zall RL mL_writeTour eL_writeTour rL_writeTour = true := by decide +kernel
set_option maxRecDepth 100000 in
theorem wL_writeTour : ∀ w ∈ zwds RL mL_writeTour eL_writeTour rL_writeTour, w ∈ gT := zwd_of [1189, 1190, 1191, 114, 1192, 859] (by decide +kernel) (by decide +kernel) (z7_no (by decide +kernel))
set_option maxRecDepth 100000 in
theorem xL_writeTour : ∀ w ∈ zwxs RL mL_writeTour eL_writeTour rL_writeTour, zspc w = true ∧ w ∈ lw_tbl := by decide +kernel
theorem tL_writeTour {l : Launch} (hlt : l.stackTraces = false) : MetA l mL_writeTour sL_writeTour := zmet (M := mL_writeTour) (own := RL) (envM := eL_writeTour) hlt rfl (by decide +kernel) (by decide +kernel) rfl (fun j q hq => by
  match j, hq with
  | 0, hq => cases hq; exact tX5_writeTour hlt
  | n + 1, hq => cases hq) aL_writeTour wL_writeTour xL_writeTour rfl
def mL_writeDoor : zm_M := (yL_writeDoor, cL_writeDoor, 4, (some .int), (8, 1, 6, 162), 3, [(0, 9, 12, 29)], (1, 6))
def rL_writeDoor : List zm_R := [(0, .aload_n 2, 0, [], 0, 0, (0, 0), false, []),
  (1, .iconst 0, 0, [], 0, 0, (0, 0), false, []),
  (2, .aload_n 0, 0, [], 0, 0, (0, 0), false, []),
  (3, .iload_n 1, 0, [], 0, 0, (0, 0), false, []),
  (4, .invokevirtual 132, 6, [0, 0, 2, 1, 2, 5, 2, 8, 3], 0, 0, (0, 0), false, []),
  (7, .i2l, 0, [], 0, 0, (0, 0), false, []),
  (8, .lastore, 3, [1], 0, 0, (0, 0), false, []),
  (9, .goto 6, 1, [11], 0, 0, (0, 0), false, []),
  (12, .astore_n 3, 0, [], 0, 0, (0, 0), false, []),
  (13, .iconst 1, 0, [], 1, 0, (1, 6), false, []),
  (14, .ireturn, 5, [0], 0, 0, (1, 6), false, []),
  (15, .iconst 0, 0, [], 0, 0, (0, 0), false, []),
  (16, .ireturn, 5, [0], 0, 0, (0, 0), false, [])]
def eL_writeDoor : List zm_M := [mX5_writeDoor]
noncomputable def vL_writeDoor : List (zm_M × zm_S) := [(mX5_writeDoor, sX5_writeDoor)]
noncomputable def sL_writeDoor : zm_S := zsem vL_writeDoor rL_writeDoor 4
set_option maxRecDepth 100000 in
theorem aL_writeDoor : zall RL mL_writeDoor eL_writeDoor rL_writeDoor = true := by decide +kernel
set_option maxRecDepth 100000 in
theorem wL_writeDoor : ∀ w ∈ zwds RL mL_writeDoor eL_writeDoor rL_writeDoor, w ∈ gT := zwd_of [1196, 1197, 1198, 114, 1199, 892] (by decide +kernel) (by decide +kernel) (z7_no (by decide +kernel))
set_option maxRecDepth 100000 in
theorem xL_writeDoor : ∀ w ∈ zwxs RL mL_writeDoor eL_writeDoor rL_writeDoor, zspc w = true ∧ w ∈ lw_tbl := by decide +kernel
theorem tL_writeDoor {l : Launch} (hlt : l.stackTraces = false) : MetA l mL_writeDoor sL_writeDoor := zmet (M := mL_writeDoor) (own := RL) (envM := eL_writeDoor) hlt rfl (by decide +kernel) (by decide +kernel) rfl (fun j q hq => by
  match j, hq with
  | 0, hq => cases hq; exact tX5_writeDoor hlt
  | n + 1, hq => cases hq) aL_writeDoor wL_writeDoor xL_writeDoor rfl
def mL_outputByte : zm_M := (yL_outputByte, cL_outputByte, 4, (some .int), (7, 1, 6, 141), 3, [(0, 9, 12, 37)], (1, 6))
def rL_outputByte : List zm_R := [(0, .aload_n 2, 0, [], 0, 0, (0, 0), false, []),
  (1, .iconst 0, 0, [], 0, 0, (0, 0), false, []),
  (2, .aload_n 0, 0, [], 0, 0, (0, 0), false, []),
  (3, .iload_n 1, 0, [], 0, 0, (0, 0), false, []),
  (4, .invokevirtual 135, 6, [0, 0, 2, 1, 2, 5, 3, 8, 3], 0, 0, (0, 0), false, []),
  (7, .i2l, 0, [], 0, 0, (0, 0), false, []),
  (8, .lastore, 3, [1], 0, 0, (0, 0), false, []),
  (9, .goto 6, 1, [11], 0, 0, (0, 0), false, []),
  (12, .astore_n 3, 0, [], 0, 0, (0, 0), false, []),
  (13, .iconst 1, 0, [], 1, 0, (1, 6), false, []),
  (14, .ireturn, 5, [0], 0, 0, (1, 6), false, []),
  (15, .iconst 0, 0, [], 0, 0, (0, 0), false, []),
  (16, .ireturn, 5, [0], 0, 0, (0, 0), false, [])]
def eL_outputByte : List zm_M := [mX5_outputByte]
noncomputable def vL_outputByte : List (zm_M × zm_S) := [(mX5_outputByte, sX5_outputByte)]
noncomputable def sL_outputByte : zm_S := zsem vL_outputByte rL_outputByte 4
set_option maxRecDepth 100000 in
theorem aL_outputByte : zall RL mL_outputByte eL_outputByte rL_outputByte = true := by decide +kernel
set_option maxRecDepth 100000 in
theorem wL_outputByte : ∀ w ∈ zwds RL mL_outputByte eL_outputByte rL_outputByte, w ∈ gT := zwd_of [1207, 1208, 1209, 114, 1210, 923] (by decide +kernel) (by decide +kernel) (z7_no (by decide +kernel))
set_option maxRecDepth 100000 in
theorem xL_outputByte : ∀ w ∈ zwxs RL mL_outputByte eL_outputByte rL_outputByte, zspc w = true ∧ w ∈ lw_tbl := by decide +kernel
theorem tL_outputByte {l : Launch} (hlt : l.stackTraces = false) : MetA l mL_outputByte sL_outputByte := zmet (M := mL_outputByte) (own := RL) (envM := eL_outputByte) hlt rfl (by decide +kernel) (by decide +kernel) rfl (fun j q hq => by
  match j, hq with
  | 0, hq => cases hq; exact tX5_outputByte hlt
  | n + 1, hq => cases hq) aL_outputByte wL_outputByte xL_outputByte rfl
