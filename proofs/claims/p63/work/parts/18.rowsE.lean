/-! ROWS: the bytecode of the methods as the abstract machine runs it, and their contracts (written by wip/p63/emit.py). -/
def mJ0_coder_7d493 : zm_M := (yJ0_coder_7d493, cJ0_coder_7d493, 1, (some .byte), (0, 0, 0, 0), 0, [], (0, 0))
set_option maxRecDepth 100000 in
def rJ0_coder_7d493 : List zm_R := [(0, .getstatic 38, 14, [0], 0, 0, (0, 0), false, []),
  (3, .ifCond .eq 10, 1, [5], 0, 0, (0, 0), false, []),
  (6, .aload_n 0, 0, [], 0, 0, (0, 0), false, []),
  (7, .getfield 15, 14, [1], 0, 0, (0, 0), false, []),
  (10, .goto 4, 1, [6], 0, 0, (0, 0), false, []),
  (13, .iconst 1, 0, [], 1, 0, (0, 0), false, []),
  (14, .ireturn, 5, [2], 0, 0, (0, 0), false, [])]
def eJ0_coder_7d493 : List zm_M := []
noncomputable def vJ0_coder_7d493 : List (zm_M × zm_S) := []
noncomputable def sJ0_coder_7d493 : zm_S := zsem vJ0_coder_7d493 rJ0_coder_7d493 1
set_option maxRecDepth 100000 in
theorem aJ0_coder_7d493 : zall RJ0 mJ0_coder_7d493 eJ0_coder_7d493 rJ0_coder_7d493 = true := by decide +kernel
set_option maxRecDepth 100000 in
theorem wJ0_coder_7d493 : ∀ w ∈ zwds RJ0 mJ0_coder_7d493 eJ0_coder_7d493 rJ0_coder_7d493, w ∈ gT := zwd_of [579, 731] (by decide +kernel) (by decide +kernel) (z7_no (by decide +kernel))
set_option maxRecDepth 100000 in
theorem xJ0_coder_7d493 : ∀ w ∈ zwxs RJ0 mJ0_coder_7d493 eJ0_coder_7d493 rJ0_coder_7d493, zspc w = true ∧ w ∈ lw_tbl := by decide +kernel
theorem tJ0_coder_7d493 {sc : Nat × (Nat → Int32)} {l : Launch} (hlt : l.stackTraces = false) : MetA sc l mJ0_coder_7d493 (sJ0_coder_7d493) := zmet (M := mJ0_coder_7d493) (own := RJ0) (envM := eJ0_coder_7d493) hlt rfl (by decide +kernel) (by decide +kernel) rfl (fun j q hq => by cases hq) aJ0_coder_7d493 wJ0_coder_7d493 xJ0_coder_7d493 rfl
def mJ0_length_8abf5 : zm_M := (yJ0_length_8abf5, cJ0_length_8abf5, 1, (some .int), (1, 0, 0, 20), 0, [], (0, 0))
set_option maxRecDepth 100000 in
def rJ0_length_8abf5 : List zm_R := [(0, .aload_n 0, 0, [], 0, 0, (0, 0), false, []),
  (1, .getfield 9, 14, [0], 0, 0, (0, 0), false, []),
  (4, .arraylength, 14, [22], 0, 0, (0, 0), false, []),
  (5, .aload_n 0, 0, [], 0, 0, (0, 0), false, []),
  (6, .invokevirtual 335, 6, [6, 0, 1, 1, 0, 7], 0, 0, (0, 0), false, []),
  (9, .ishr, 0, [], 0, 0, (0, 0), false, []),
  (10, .ireturn, 5, [0], 0, 0, (0, 0), false, [])]
def eJ0_length_8abf5 : List zm_M := [mJ0_coder_7d493]
noncomputable def vJ0_length_8abf5 : List (zm_M × zm_S) := [(mJ0_coder_7d493, sJ0_coder_7d493)]
noncomputable def sJ0_length_8abf5 : zm_S := zsem vJ0_length_8abf5 rJ0_length_8abf5 1
set_option maxRecDepth 100000 in
theorem aJ0_length_8abf5 : zall RJ0 mJ0_length_8abf5 eJ0_length_8abf5 rJ0_length_8abf5 = true := by decide +kernel
set_option maxRecDepth 100000 in
theorem wJ0_length_8abf5 : ∀ w ∈ zwds RJ0 mJ0_length_8abf5 eJ0_length_8abf5 rJ0_length_8abf5, w ∈ gT := zwd_of [730, 575, 576, 577, 45, 578] (by decide +kernel) (by decide +kernel) (z7_no (by decide +kernel))
set_option maxRecDepth 100000 in
theorem xJ0_length_8abf5 : ∀ w ∈ zwxs RJ0 mJ0_length_8abf5 eJ0_length_8abf5 rJ0_length_8abf5, zspc w = true ∧ w ∈ lw_tbl := by decide +kernel
theorem tJ0_length_8abf5 {sc : Nat × (Nat → Int32)} {l : Launch} (hlt : l.stackTraces = false) : MetA sc l mJ0_length_8abf5 (sJ0_length_8abf5) := zmet (M := mJ0_length_8abf5) (own := RJ0) (envM := eJ0_length_8abf5) hlt rfl (by decide +kernel) (by decide +kernel) rfl (fun j q hq => by
  match j, hq with
  | 0, hq => cases hq; exact tJ0_coder_7d493 hlt
  | n + 1, hq => cases hq) aJ0_length_8abf5 wJ0_length_8abf5 xJ0_length_8abf5 rfl
def mJ0_isLatin1_aae02 : zm_M := (yJ0_isLatin1_aae02, cJ0_isLatin1_aae02, 1, (some .boolean), (0, 0, 0, 0), 0, [], (0, 0))
set_option maxRecDepth 100000 in
def rJ0_isLatin1_aae02 : List zm_R := [(0, .getstatic 38, 14, [0], 0, 0, (0, 0), false, []),
  (3, .ifCond .eq 14, 1, [7], 0, 0, (0, 0), false, []),
  (6, .aload_n 0, 0, [], 0, 0, (0, 0), false, []),
  (7, .getfield 15, 14, [1], 0, 0, (0, 0), false, []),
  (10, .ifCond .ne 7, 1, [7], 0, 0, (0, 0), false, []),
  (13, .iconst 1, 0, [], 1, 0, (0, 0), false, []),
  (14, .goto 4, 1, [8], 0, 0, (0, 0), false, []),
  (17, .iconst 0, 0, [], 0, 0, (0, 0), false, []),
  (18, .ireturn, 5, [1], 0, 0, (0, 0), false, [])]
def eJ0_isLatin1_aae02 : List zm_M := []
noncomputable def vJ0_isLatin1_aae02 : List (zm_M × zm_S) := []
noncomputable def sJ0_isLatin1_aae02 : zm_S := zsem vJ0_isLatin1_aae02 rJ0_isLatin1_aae02 1
set_option maxRecDepth 100000 in
theorem aJ0_isLatin1_aae02 : zall RJ0 mJ0_isLatin1_aae02 eJ0_isLatin1_aae02 rJ0_isLatin1_aae02 = true := by decide +kernel
set_option maxRecDepth 100000 in
theorem wJ0_isLatin1_aae02 : ∀ w ∈ zwds RJ0 mJ0_isLatin1_aae02 eJ0_isLatin1_aae02 rJ0_isLatin1_aae02, w ∈ gT := zwd_of [579, 731] (by decide +kernel) (by decide +kernel) (z7_no (by decide +kernel))
set_option maxRecDepth 100000 in
theorem xJ0_isLatin1_aae02 : ∀ w ∈ zwxs RJ0 mJ0_isLatin1_aae02 eJ0_isLatin1_aae02 rJ0_isLatin1_aae02, zspc w = true ∧ w ∈ lw_tbl := by decide +kernel
theorem tJ0_isLatin1_aae02 {sc : Nat × (Nat → Int32)} {l : Launch} (hlt : l.stackTraces = false) : MetA sc l mJ0_isLatin1_aae02 (sJ0_isLatin1_aae02) := zmet (M := mJ0_isLatin1_aae02) (own := RJ0) (envM := eJ0_isLatin1_aae02) hlt rfl (by decide +kernel) (by decide +kernel) rfl (fun j q hq => by cases hq) aJ0_isLatin1_aae02 wJ0_isLatin1_aae02 xJ0_isLatin1_aae02 rfl
def mJ1_charAt_3b067 : zm_M := (yJ1_charAt_3b067, cJ1_charAt_3b067, 2, (some .char), (3, 0, 0, 81), 2, [], (0, 0))
set_option maxRecDepth 100000 in
def rJ1_charAt_3b067 : List zm_R := [(0, .iload_n 1, 0, [], 0, 0, (0, 0), false, []),
  (1, .aload_n 0, 0, [], 0, 0, (0, 0), false, []),
  (2, .arraylength, 3, [2], 0, 0, (0, 0), false, []),
  (3, .invokestatic 9, 6, [1, 0, 2, 0, 0, 7], 0, 0, (0, 0), false, []),
  (6, .aload_n 0, 0, [], 0, 0, (0, 0), false, []),
  (7, .iload_n 1, 0, [], 0, 0, (0, 0), false, []),
  (8, .baload, 3, [2], 0, 0, (0, 0), false, []),
  (9, .sipush 255, 0, [], 255, 0, (0, 0), false, []),
  (12, .iand, 0, [], 0, 0, (0, 0), false, []),
  (13, .i2c, 0, [], 0, 0, (0, 0), false, []),
  (14, .ireturn, 5, [3], 0, 0, (0, 0), false, [])]
def eJ1_charAt_3b067 : List zm_M := [mJ0_checkIndex_df160]
noncomputable def vJ1_charAt_3b067 : List (zm_M × zm_S) := [(mJ0_checkIndex_df160, sJ0_checkIndex_df160)]
noncomputable def sJ1_charAt_3b067 : zm_S := zsem vJ1_charAt_3b067 rJ1_charAt_3b067 2
set_option maxRecDepth 100000 in
theorem aJ1_charAt_3b067 : zall RJ1 mJ1_charAt_3b067 eJ1_charAt_3b067 rJ1_charAt_3b067 = true := by decide +kernel
set_option maxRecDepth 100000 in
theorem wJ1_charAt_3b067 : ∀ w ∈ zwds RJ1 mJ1_charAt_3b067 eJ1_charAt_3b067 rJ1_charAt_3b067, w ∈ gT := zwd_of [759, 634, 45, 635] (by decide +kernel) (by decide +kernel) (z7_no (by decide +kernel))
set_option maxRecDepth 100000 in
theorem xJ1_charAt_3b067 : ∀ w ∈ zwxs RJ1 mJ1_charAt_3b067 eJ1_charAt_3b067 rJ1_charAt_3b067, zspc w = true ∧ w ∈ lw_tbl := by decide +kernel
theorem tJ1_charAt_3b067 {sc : Nat × (Nat → Int32)} {l : Launch} (hlt : l.stackTraces = false) : MetA sc l mJ1_charAt_3b067 (sJ1_charAt_3b067) := zmet (M := mJ1_charAt_3b067) (own := RJ1) (envM := eJ1_charAt_3b067) hlt rfl (by decide +kernel) (by decide +kernel) rfl (fun j q hq => by
  match j, hq with
  | 0, hq => cases hq; exact tJ0_checkIndex_df160 hlt
  | n + 1, hq => cases hq) aJ1_charAt_3b067 wJ1_charAt_3b067 xJ1_charAt_3b067 rfl
def mJ0_charAt_5068e : zm_M := (yJ0_charAt_5068e, cJ0_charAt_5068e, 2, (some .char), (4, 0, 0, 102), 1, [], (0, 0))
set_option maxRecDepth 100000 in
def rJ0_charAt_5068e : List zm_R := [(0, .aload_n 0, 0, [], 0, 0, (0, 0), false, []),
  (1, .invokevirtual 492, 6, [6, 0, 1, 1, 0, 7], 0, 0, (0, 0), false, []),
  (4, .ifCond .eq 12, 1, [8], 0, 0, (0, 0), false, []),
  (7, .aload_n 0, 0, [], 0, 0, (0, 0), false, []),
  (8, .getfield 9, 14, [0], 0, 0, (0, 0), false, []),
  (11, .iload_n 1, 0, [], 0, 0, (0, 0), false, []),
  (12, .invokestatic 495, 6, [1, 1, 2, 1, 0, 0], 0, 0, (0, 0), false, []),
  (15, .ireturn, 5, [3], 0, 0, (0, 0), false, []),
  (16, .aload_n 0, 0, [], 0, 0, (0, 0), false, []),
  (17, .getfield 9, 14, [0], 0, 0, (0, 0), false, []),
  (20, .iload_n 1, 0, [], 0, 0, (0, 0), false, []),
  (21, .invokestatic 498, 12, [], 0, 0, (0, 0), false, []),
  (24, .ireturn, 12, [], 0, 0, (0, 0), false, [])]
def eJ0_charAt_5068e : List zm_M := [mJ0_isLatin1_aae02, mJ1_charAt_3b067]
noncomputable def vJ0_charAt_5068e : List (zm_M × zm_S) := [(mJ0_isLatin1_aae02, sJ0_isLatin1_aae02), (mJ1_charAt_3b067, sJ1_charAt_3b067)]
noncomputable def sJ0_charAt_5068e : zm_S := zsem vJ0_charAt_5068e rJ0_charAt_5068e 2
set_option maxRecDepth 100000 in
theorem aJ0_charAt_5068e : zall RJ0 mJ0_charAt_5068e eJ0_charAt_5068e rJ0_charAt_5068e = true := by decide +kernel
set_option maxRecDepth 100000 in
theorem wJ0_charAt_5068e : ∀ w ∈ zwds RJ0 mJ0_charAt_5068e eJ0_charAt_5068e rJ0_charAt_5068e, w ∈ gT := zwd_of [752, 753, 754, 45, 755, 730, 756, 757, 52, 758, 730] (by decide +kernel) (by decide +kernel) (z7_no (by decide +kernel))
set_option maxRecDepth 100000 in
theorem xJ0_charAt_5068e : ∀ w ∈ zwxs RJ0 mJ0_charAt_5068e eJ0_charAt_5068e rJ0_charAt_5068e, zspc w = true ∧ w ∈ lw_tbl := by decide +kernel
theorem tJ0_charAt_5068e {sc : Nat × (Nat → Int32)} {l : Launch} (hlt : l.stackTraces = false) : MetA sc l mJ0_charAt_5068e (sJ0_charAt_5068e) := zmet (M := mJ0_charAt_5068e) (own := RJ0) (envM := eJ0_charAt_5068e) hlt rfl (by decide +kernel) (by decide +kernel) rfl (fun j q hq => by
  match j, hq with
  | 0, hq => cases hq; exact tJ0_isLatin1_aae02 hlt
  | 1, hq => cases hq; exact tJ1_charAt_3b067 hlt
  | n + 2, hq => cases hq) aJ0_charAt_5068e wJ0_charAt_5068e xJ0_charAt_5068e rfl
def mJ5_init_d00df : zm_M := (yJ5_init_d00df, cJ5_init_d00df, 2, none, (1, 1, 16, 12), 1, [], (1, 16))
set_option maxRecDepth 100000 in
def rJ5_init_d00df : List zm_R := [(0, .aload_n 0, 0, [], 0, 0, (0, 0), false, []),
  (1, .invokespecial 3, 10, [], 0, 0, (0, 0), false, []),
  (4, .getstatic 18, 14, [0], 0, 0, (0, 0), false, []),
  (7, .ifCond .eq 18, 1, [12], 0, 0, (0, 0), false, []),
  (10, .aload_n 0, 0, [], 0, 0, (0, 0), false, []),
  (11, .iload_n 1, 0, [], 0, 0, (0, 0), false, []),
  (12, .newarray .byte, 4, [2, 16], 0, 0, (0, 0), false, []),
  (14, .putfield 15, 2, [6, 0, 4, 2], 0, 0, (1, 16), false, []),
  (17, .aload_n 0, 0, [], 0, 0, (1, 16), false, []),
  (18, .iconst 0, 0, [], 0, 0, (1, 16), false, []),
  (19, .putfield 22, 2, [6, 1, 4, 4], 0, 0, (1, 16), false, []),
  (22, .goto 16, 1, [19], 0, 0, (1, 16), false, []),
  (25, .aload_n 0, 0, [], 0, 0, (0, 0), false, []),
  (26, .iload_n 1, 0, [], 0, 0, (0, 0), false, []),
  (27, .invokestatic 26, 12, [], 0, 0, (0, 0), false, []),
  (30, .putfield 15, 12, [], 0, 0, (0, 0), false, []),
  (33, .aload_n 0, 12, [], 0, 0, (0, 0), false, []),
  (34, .iconst 1, 12, [], 0, 0, (0, 0), false, []),
  (35, .putfield 22, 12, [], 0, 0, (0, 0), false, []),
  (38, .return_, 5, [], 0, 0, (1, 16), false, [])]
def eJ5_init_d00df : List zm_M := []
noncomputable def vJ5_init_d00df : List (zm_M × zm_S) := []
noncomputable def sJ5_init_d00df : zm_S := zsem vJ5_init_d00df rJ5_init_d00df 2
set_option maxRecDepth 100000 in
theorem aJ5_init_d00df : zall RJ5 mJ5_init_d00df eJ5_init_d00df rJ5_init_d00df = true := by decide +kernel
set_option maxRecDepth 100000 in
theorem wJ5_init_d00df : ∀ w ∈ zwds RJ5 mJ5_init_d00df eJ5_init_d00df rJ5_init_d00df, w ∈ gT := zwd_of [472, 69, 70, 473, 339, 482, 483] (by decide +kernel) (by decide +kernel) (z7_no (by decide +kernel))
set_option maxRecDepth 100000 in
theorem xJ5_init_d00df : ∀ w ∈ zwxs RJ5 mJ5_init_d00df eJ5_init_d00df rJ5_init_d00df, zspc w = true ∧ w ∈ lw_tbl := by decide +kernel
theorem tJ5_init_d00df {sc : Nat × (Nat → Int32)} {l : Launch} (hlt : l.stackTraces = false) : MetA sc l mJ5_init_d00df (sJ5_init_d00df) := zmet (M := mJ5_init_d00df) (own := RJ5) (envM := eJ5_init_d00df) hlt rfl (by decide +kernel) (by decide +kernel) rfl (fun j q hq => by cases hq) aJ5_init_d00df wJ5_init_d00df xJ5_init_d00df rfl
def mJ4_init_da8c8 : zm_M := (yJ4_init_da8c8, cJ4_init_da8c8, 1, none, (2, 1, 16, 33), 0, [], (1, 16))
set_option maxRecDepth 100000 in
def rJ4_init_da8c8 : List zm_R := [(0, .aload_n 0, 0, [], 0, 0, (0, 0), false, []),
  (1, .bipush 16, 0, [], 16, 0, (0, 0), false, []),
  (3, .invokespecial 1, 6, [2, 0, 2, 0, 0, 0], 0, 0, (0, 0), false, []),
  (6, .return_, 5, [], 0, 0, (1, 16), false, [])]
def eJ4_init_da8c8 : List zm_M := [mJ5_init_d00df]
noncomputable def vJ4_init_da8c8 : List (zm_M × zm_S) := [(mJ5_init_d00df, sJ5_init_d00df)]
noncomputable def sJ4_init_da8c8 : zm_S := zsem vJ4_init_da8c8 rJ4_init_da8c8 1
set_option maxRecDepth 100000 in
theorem aJ4_init_da8c8 : zall RJ4 mJ4_init_da8c8 eJ4_init_da8c8 rJ4_init_da8c8 = true := by decide +kernel
set_option maxRecDepth 100000 in
theorem wJ4_init_da8c8 : ∀ w ∈ zwds RJ4 mJ4_init_da8c8 eJ4_init_da8c8 rJ4_init_da8c8, w ∈ gT := zwd_of [469, 470, 43, 471] (by decide +kernel) (by decide +kernel) (z7_no (by decide +kernel))
set_option maxRecDepth 100000 in
theorem xJ4_init_da8c8 : ∀ w ∈ zwxs RJ4 mJ4_init_da8c8 eJ4_init_da8c8 rJ4_init_da8c8, zspc w = true ∧ w ∈ lw_tbl := by decide +kernel
theorem tJ4_init_da8c8 {sc : Nat × (Nat → Int32)} {l : Launch} (hlt : l.stackTraces = false) : MetA sc l mJ4_init_da8c8 (sJ4_init_da8c8) := zmet (M := mJ4_init_da8c8) (own := RJ4) (envM := eJ4_init_da8c8) hlt rfl (by decide +kernel) (by decide +kernel) rfl (fun j q hq => by
  match j, hq with
  | 0, hq => cases hq; exact tJ5_init_d00df hlt
  | n + 1, hq => cases hq) aJ4_init_da8c8 wJ4_init_da8c8 xJ4_init_da8c8 rfl
def mJ5_getValue_6d5f1 : zm_M := (yJ5_getValue_6d5f1, cJ5_getValue_6d5f1, 1, (some (.array .byte)), (0, 0, 0, 0), 0, [], (0, 0))
set_option maxRecDepth 100000 in
def rJ5_getValue_6d5f1 : List zm_R := [(0, .aload_n 0, 0, [], 0, 0, (0, 0), false, []),
  (1, .getfield 15, 2, [6, 0, 4, 2], 0, 0, (0, 0), false, []),
  (4, .areturn, 5, [], 0, 0, (0, 0), false, [])]
def eJ5_getValue_6d5f1 : List zm_M := []
noncomputable def vJ5_getValue_6d5f1 : List (zm_M × zm_S) := []
noncomputable def sJ5_getValue_6d5f1 : zm_S := zsem vJ5_getValue_6d5f1 rJ5_getValue_6d5f1 1
set_option maxRecDepth 100000 in
theorem aJ5_getValue_6d5f1 : zall RJ5 mJ5_getValue_6d5f1 eJ5_getValue_6d5f1 rJ5_getValue_6d5f1 = true := by decide +kernel
set_option maxRecDepth 100000 in
theorem wJ5_getValue_6d5f1 : ∀ w ∈ zwds RJ5 mJ5_getValue_6d5f1 eJ5_getValue_6d5f1 rJ5_getValue_6d5f1, w ∈ gT := zwd_of [482] (by decide +kernel) (by decide +kernel) (z7_no (by decide +kernel))
set_option maxRecDepth 100000 in
theorem xJ5_getValue_6d5f1 : ∀ w ∈ zwxs RJ5 mJ5_getValue_6d5f1 eJ5_getValue_6d5f1 rJ5_getValue_6d5f1, zspc w = true ∧ w ∈ lw_tbl := by decide +kernel
theorem tJ5_getValue_6d5f1 {sc : Nat × (Nat → Int32)} {l : Launch} (hlt : l.stackTraces = false) : MetA sc l mJ5_getValue_6d5f1 (sJ5_getValue_6d5f1) := zmet (M := mJ5_getValue_6d5f1) (own := RJ5) (envM := eJ5_getValue_6d5f1) hlt rfl (by decide +kernel) (by decide +kernel) rfl (fun j q hq => by cases hq) aJ5_getValue_6d5f1 wJ5_getValue_6d5f1 xJ5_getValue_6d5f1 rfl
def mJ5_length_8abf5 : zm_M := (yJ5_length_8abf5, cJ5_length_8abf5, 1, (some .int), (0, 0, 0, 0), 0, [], (0, 0))
set_option maxRecDepth 100000 in
def rJ5_length_8abf5 : List zm_R := [(0, .aload_n 0, 0, [], 0, 0, (0, 0), false, []),
  (1, .getfield 79, 2, [6, 3, 4, 0], 0, 0, (0, 0), false, []),
  (4, .ireturn, 5, [0], 0, 0, (0, 0), false, [])]
def eJ5_length_8abf5 : List zm_M := []
noncomputable def vJ5_length_8abf5 : List (zm_M × zm_S) := []
noncomputable def sJ5_length_8abf5 : zm_S := zsem vJ5_length_8abf5 rJ5_length_8abf5 1
set_option maxRecDepth 100000 in
theorem aJ5_length_8abf5 : zall RJ5 mJ5_length_8abf5 eJ5_length_8abf5 rJ5_length_8abf5 = true := by decide +kernel
set_option maxRecDepth 100000 in
theorem wJ5_length_8abf5 : ∀ w ∈ zwds RJ5 mJ5_length_8abf5 eJ5_length_8abf5 rJ5_length_8abf5, w ∈ gT := zwd_of [485] (by decide +kernel) (by decide +kernel) (z7_no (by decide +kernel))
set_option maxRecDepth 100000 in
theorem xJ5_length_8abf5 : ∀ w ∈ zwxs RJ5 mJ5_length_8abf5 eJ5_length_8abf5 rJ5_length_8abf5, zspc w = true ∧ w ∈ lw_tbl := by decide +kernel
theorem tJ5_length_8abf5 {sc : Nat × (Nat → Int32)} {l : Launch} (hlt : l.stackTraces = false) : MetA sc l mJ5_length_8abf5 (sJ5_length_8abf5) := zmet (M := mJ5_length_8abf5) (own := RJ5) (envM := eJ5_length_8abf5) hlt rfl (by decide +kernel) (by decide +kernel) rfl (fun j q hq => by cases hq) aJ5_length_8abf5 wJ5_length_8abf5 xJ5_length_8abf5 rfl
def mJ4_length_8abf5 : zm_M := (yJ4_length_8abf5, cJ4_length_8abf5, 1, (some .int), (1, 0, 0, 20), 0, [], (0, 0))
set_option maxRecDepth 100000 in
def rJ4_length_8abf5 : List zm_R := [(0, .aload_n 0, 0, [], 0, 0, (0, 0), false, []),
  (1, .invokespecial 343, 6, [7, 0, 1, 1, 0, 6], 0, 0, (0, 0), false, []),
  (4, .ireturn, 5, [0], 0, 0, (0, 0), false, [])]
def eJ4_length_8abf5 : List zm_M := [mJ5_length_8abf5]
noncomputable def vJ4_length_8abf5 : List (zm_M × zm_S) := [(mJ5_length_8abf5, sJ5_length_8abf5)]
noncomputable def sJ4_length_8abf5 : zm_S := zsem vJ4_length_8abf5 rJ4_length_8abf5 1
set_option maxRecDepth 100000 in
theorem aJ4_length_8abf5 : zall RJ4 mJ4_length_8abf5 eJ4_length_8abf5 rJ4_length_8abf5 = true := by decide +kernel
set_option maxRecDepth 100000 in
theorem wJ4_length_8abf5 : ∀ w ∈ zwds RJ4 mJ4_length_8abf5 eJ4_length_8abf5 rJ4_length_8abf5, w ∈ gT := zwd_of [697, 693, 494, 692, 43, 698] (by decide +kernel) (by decide +kernel) (z7_no (by decide +kernel))
set_option maxRecDepth 100000 in
theorem xJ4_length_8abf5 : ∀ w ∈ zwxs RJ4 mJ4_length_8abf5 eJ4_length_8abf5 rJ4_length_8abf5, zspc w = true ∧ w ∈ lw_tbl := by decide +kernel
theorem tJ4_length_8abf5 {sc : Nat × (Nat → Int32)} {l : Launch} (hlt : l.stackTraces = false) : MetA sc l mJ4_length_8abf5 (sJ4_length_8abf5) := zmet (M := mJ4_length_8abf5) (own := RJ4) (envM := eJ4_length_8abf5) hlt rfl (by decide +kernel) (by decide +kernel) rfl (fun j q hq => by
  match j, hq with
  | 0, hq => cases hq; exact tJ5_length_8abf5 hlt
  | n + 1, hq => cases hq) aJ4_length_8abf5 wJ4_length_8abf5 xJ4_length_8abf5 rfl
def mJ5_isLatin1_aae02 : zm_M := (yJ5_isLatin1_aae02, cJ5_isLatin1_aae02, 1, (some .boolean), (0, 0, 0, 0), 0, [], (0, 0))
set_option maxRecDepth 100000 in
def rJ5_isLatin1_aae02 : List zm_R := [(0, .getstatic 18, 14, [0], 0, 0, (0, 0), false, []),
  (3, .ifCond .eq 14, 1, [7], 0, 0, (0, 0), false, []),
  (6, .aload_n 0, 0, [], 0, 0, (0, 0), false, []),
  (7, .getfield 22, 2, [6, 1, 4, 0], 0, 0, (0, 0), false, []),
  (10, .ifCond .ne 7, 1, [7], 0, 0, (0, 0), false, []),
  (13, .iconst 1, 0, [], 1, 0, (0, 0), false, []),
  (14, .goto 4, 1, [8], 0, 0, (0, 0), false, []),
  (17, .iconst 0, 0, [], 0, 0, (0, 0), false, []),
  (18, .ireturn, 5, [1], 0, 0, (0, 0), false, [])]
def eJ5_isLatin1_aae02 : List zm_M := []
noncomputable def vJ5_isLatin1_aae02 : List (zm_M × zm_S) := []
noncomputable def sJ5_isLatin1_aae02 : zm_S := zsem vJ5_isLatin1_aae02 rJ5_isLatin1_aae02 1
set_option maxRecDepth 100000 in
theorem aJ5_isLatin1_aae02 : zall RJ5 mJ5_isLatin1_aae02 eJ5_isLatin1_aae02 rJ5_isLatin1_aae02 = true := by decide +kernel
set_option maxRecDepth 100000 in
theorem wJ5_isLatin1_aae02 : ∀ w ∈ zwds RJ5 mJ5_isLatin1_aae02 eJ5_isLatin1_aae02 rJ5_isLatin1_aae02, w ∈ gT := zwd_of [473, 483] (by decide +kernel) (by decide +kernel) (z7_no (by decide +kernel))
set_option maxRecDepth 100000 in
theorem xJ5_isLatin1_aae02 : ∀ w ∈ zwxs RJ5 mJ5_isLatin1_aae02 eJ5_isLatin1_aae02 rJ5_isLatin1_aae02, zspc w = true ∧ w ∈ lw_tbl := by decide +kernel
theorem tJ5_isLatin1_aae02 {sc : Nat × (Nat → Int32)} {l : Launch} (hlt : l.stackTraces = false) : MetA sc l mJ5_isLatin1_aae02 (sJ5_isLatin1_aae02) := zmet (M := mJ5_isLatin1_aae02) (own := RJ5) (envM := eJ5_isLatin1_aae02) hlt rfl (by decide +kernel) (by decide +kernel) rfl (fun j q hq => by cases hq) aJ5_isLatin1_aae02 wJ5_isLatin1_aae02 xJ5_isLatin1_aae02 rfl
def mJ7_checkLength_df160 : zm_M := (yJ7_checkLength_df160, cJ7_checkLength_df160, 2, none, (0, 0, 0, 0), 2, [], (0, 0))
set_option maxRecDepth 100000 in
def rJ7_checkLength_df160 : List zm_R := [(0, .iload_n 1, 0, [], 0, 0, (0, 0), false, []),
  (1, .iload_n 0, 0, [], 0, 0, (0, 0), false, []),
  (2, .if_icmp .ge 35, 1, [17], 0, 0, (0, 0), false, []),
  (5, .new 43, 12, [], 0, 0, (0, 0), false, []),
  (8, .dup, 12, [], 0, 0, (0, 0), false, []),
  (9, .new 45, 12, [], 0, 0, (0, 0), false, []),
  (12, .dup, 12, [], 0, 0, (0, 0), false, []),
  (13, .invokespecial 47, 12, [], 0, 0, (0, 0), false, []),
  (16, .iload_n 0, 12, [], 0, 0, (0, 0), false, []),
  (17, .invokevirtual 54, 12, [], 0, 0, (0, 0), false, []),
  (20, .ldc_w 337, 12, [], 0, 0, (0, 0), false, []),
  (23, .invokevirtual 50, 12, [], 0, 0, (0, 0), false, []),
  (26, .iload_n 1, 12, [], 0, 0, (0, 0), false, []),
  (27, .invokevirtual 54, 12, [], 0, 0, (0, 0), false, []),
  (30, .invokevirtual 61, 12, [], 0, 0, (0, 0), false, []),
  (33, .invokespecial 65, 12, [], 0, 0, (0, 0), false, []),
  (36, .athrow, 12, [], 0, 0, (0, 0), false, []),
  (37, .return_, 5, [], 0, 0, (0, 0), false, [])]
def eJ7_checkLength_df160 : List zm_M := []
noncomputable def vJ7_checkLength_df160 : List (zm_M × zm_S) := []
noncomputable def sJ7_checkLength_df160 : zm_S := zsem vJ7_checkLength_df160 rJ7_checkLength_df160 2
set_option maxRecDepth 100000 in
theorem aJ7_checkLength_df160 : zall RJ7 mJ7_checkLength_df160 eJ7_checkLength_df160 rJ7_checkLength_df160 = true := by decide +kernel
set_option maxRecDepth 100000 in
theorem wJ7_checkLength_df160 : ∀ w ∈ zwds RJ7 mJ7_checkLength_df160 eJ7_checkLength_df160 rJ7_checkLength_df160, w ∈ gT := zwd_of [] (by decide +kernel) (by decide +kernel) (z7_no (by decide +kernel))
set_option maxRecDepth 100000 in
theorem xJ7_checkLength_df160 : ∀ w ∈ zwxs RJ7 mJ7_checkLength_df160 eJ7_checkLength_df160 rJ7_checkLength_df160, zspc w = true ∧ w ∈ lw_tbl := by decide +kernel
theorem tJ7_checkLength_df160 {sc : Nat × (Nat → Int32)} {l : Launch} (hlt : l.stackTraces = false) : MetA sc l mJ7_checkLength_df160 (sJ7_checkLength_df160) := zmet (M := mJ7_checkLength_df160) (own := RJ7) (envM := eJ7_checkLength_df160) hlt rfl (by decide +kernel) (by decide +kernel) rfl (fun j q hq => by cases hq) aJ7_checkLength_df160 wJ7_checkLength_df160 xJ7_checkLength_df160 rfl
def mJ7_copyOfRangeByte_39247 : zm_M := (yJ7_copyOfRangeByte_39247, cJ7_copyOfRangeByte_39247, 5, (some (.array .byte)), (1, 1, 1024, 40), 3, [], (1, 1024))
set_option maxRecDepth 100000 in
def rJ7_copyOfRangeByte_39247 : List zm_R := [(0, .iload_n 1, 0, [], 0, 0, (0, 0), false, []),
  (1, .iload_n 2, 0, [], 0, 0, (0, 0), false, []),
  (2, .invokestatic 343, 6, [1, 0, 2, 0, 0, 0], 0, 0, (0, 0), false, []),
  (5, .iload_n 2, 0, [], 0, 0, (0, 0), false, []),
  (6, .iload_n 1, 0, [], 0, 0, (0, 0), false, []),
  (7, .isub, 0, [], 0, 0, (0, 0), false, []),
  (8, .istore_n 3, 0, [], 0, 0, (0, 0), false, []),
  (9, .iload_n 3, 0, [], 0, 0, (0, 0), false, []),
  (10, .newarray .byte, 4, [2, 1024], 0, 0, (0, 0), false, []),
  (12, .astore 4, 0, [], 0, 0, (1, 1024), false, []),
  (14, .aload_n 0, 0, [], 0, 0, (1, 1024), false, []),
  (15, .iload_n 1, 0, [], 0, 0, (1, 1024), false, []),
  (16, .aload 4, 0, [], 0, 0, (1, 1024), false, []),
  (18, .iconst 0, 0, [], 0, 0, (1, 1024), false, []),
  (19, .aload_n 0, 0, [], 0, 0, (1, 1024), false, []),
  (20, .arraylength, 3, [2], 0, 0, (1, 1024), false, []),
  (21, .iload_n 1, 0, [], 0, 0, (1, 1024), false, []),
  (22, .isub, 0, [], 0, 0, (1, 1024), false, []),
  (23, .iload_n 3, 0, [], 0, 0, (1, 1024), false, []),
  (24, .invokestatic 304, 13, [1], 0, 0, (1, 1024), false, []),
  (27, .invokestatic 150, 15, [], 0, 0, (1, 1024), false, []),
  (30, .aload 4, 0, [], 0, 0, (1, 1024), false, []),
  (32, .areturn, 5, [], 0, 0, (1, 1024), false, [])]
def eJ7_copyOfRangeByte_39247 : List zm_M := [mJ7_checkLength_df160]
noncomputable def vJ7_copyOfRangeByte_39247 : List (zm_M × zm_S) := [(mJ7_checkLength_df160, sJ7_checkLength_df160)]
noncomputable def sJ7_copyOfRangeByte_39247 : zm_S := zsem vJ7_copyOfRangeByte_39247 rJ7_copyOfRangeByte_39247 5
set_option maxRecDepth 100000 in
theorem aJ7_copyOfRangeByte_39247 : zall RJ7 mJ7_copyOfRangeByte_39247 eJ7_copyOfRangeByte_39247 rJ7_copyOfRangeByte_39247 = true := by decide +kernel
set_option maxRecDepth 100000 in
theorem wJ7_copyOfRangeByte_39247 : ∀ w ∈ zwds RJ7 mJ7_copyOfRangeByte_39247 eJ7_copyOfRangeByte_39247 rJ7_copyOfRangeByte_39247, w ∈ gT := zwd_of [706, 707, 49, 708, 339, 536, 537, 48, 538, 539, 443, 442, 50] (by decide +kernel) (by decide +kernel) (z7_no (by decide +kernel))
set_option maxRecDepth 100000 in
theorem xJ7_copyOfRangeByte_39247 : ∀ w ∈ zwxs RJ7 mJ7_copyOfRangeByte_39247 eJ7_copyOfRangeByte_39247 rJ7_copyOfRangeByte_39247, zspc w = true ∧ w ∈ lw_tbl := by decide +kernel
theorem tJ7_copyOfRangeByte_39247 {sc : Nat × (Nat → Int32)} {l : Launch} (hlt : l.stackTraces = false) : MetA sc l mJ7_copyOfRangeByte_39247 (sJ7_copyOfRangeByte_39247) := zmet (M := mJ7_copyOfRangeByte_39247) (own := RJ7) (envM := eJ7_copyOfRangeByte_39247) hlt rfl (by decide +kernel) (by decide +kernel) rfl (fun j q hq => by
  match j, hq with
  | 0, hq => cases hq; exact tJ7_checkLength_df160 hlt
  | n + 1, hq => cases hq) aJ7_copyOfRangeByte_39247 wJ7_copyOfRangeByte_39247 xJ7_copyOfRangeByte_39247 rfl
def mJ7_copyOfRange_39247 : zm_M := (yJ7_copyOfRange_39247, cJ7_copyOfRange_39247, 3, (some (.array .byte)), (2, 1, 1024, 64), 3, [], (1, 1024))
set_option maxRecDepth 100000 in
def rJ7_copyOfRange_39247 : List zm_R := [(0, .iload_n 1, 0, [], 0, 0, (0, 0), false, []),
  (1, .ifCond .ne 9, 1, [6], 0, 0, (0, 0), false, []),
  (4, .iload_n 2, 0, [], 0, 0, (0, 0), false, []),
  (5, .aload_n 0, 0, [], 0, 0, (0, 0), false, []),
  (6, .arraylength, 3, [2], 0, 0, (0, 0), false, []),
  (7, .if_icmp .eq 10, 1, [11], 0, 0, (0, 0), false, []),
  (10, .aload_n 0, 0, [], 0, 0, (0, 0), false, []),
  (11, .iload_n 1, 0, [], 0, 0, (0, 0), false, []),
  (12, .iload_n 2, 0, [], 0, 0, (0, 0), false, []),
  (13, .invokestatic 339, 6, [1, 0, 3, 3, 0, 0], 0, 0, (0, 0), false, []),
  (16, .areturn, 5, [], 0, 0, (1, 1024), false, []),
  (17, .aload_n 0, 0, [], 0, 0, (0, 0), false, []),
  (18, .invokevirtual 310, 14, [1024], 0, 0, (0, 0), false, []),
  (21, .checkcast 311, 14, [2], 0, 0, (1, 1024), false, []),
  (24, .areturn, 5, [], 0, 0, (1, 1024), false, [])]
def eJ7_copyOfRange_39247 : List zm_M := [mJ7_copyOfRangeByte_39247]
noncomputable def vJ7_copyOfRange_39247 : List (zm_M × zm_S) := [(mJ7_copyOfRangeByte_39247, sJ7_copyOfRangeByte_39247)]
noncomputable def sJ7_copyOfRange_39247 : zm_S := zsem vJ7_copyOfRange_39247 rJ7_copyOfRange_39247 3
set_option maxRecDepth 100000 in
theorem aJ7_copyOfRange_39247 : zall RJ7 mJ7_copyOfRange_39247 eJ7_copyOfRange_39247 rJ7_copyOfRange_39247 = true := by decide +kernel
set_option maxRecDepth 100000 in
theorem wJ7_copyOfRange_39247 : ∀ w ∈ zwds RJ7 mJ7_copyOfRange_39247 eJ7_copyOfRange_39247 rJ7_copyOfRange_39247, w ∈ gT := zwd_of [703, 704, 49, 705, 529, 530, 531, 532, 533, 535] (by decide +kernel) (by decide +kernel) (z7_no (by decide +kernel))
set_option maxRecDepth 100000 in
theorem xJ7_copyOfRange_39247 : ∀ w ∈ zwxs RJ7 mJ7_copyOfRange_39247 eJ7_copyOfRange_39247 rJ7_copyOfRange_39247, zspc w = true ∧ w ∈ lw_tbl := by decide +kernel
theorem tJ7_copyOfRange_39247 {sc : Nat × (Nat → Int32)} {l : Launch} (hlt : l.stackTraces = false) : MetA sc l mJ7_copyOfRange_39247 (sJ7_copyOfRange_39247) := zmet (M := mJ7_copyOfRange_39247) (own := RJ7) (envM := eJ7_copyOfRange_39247) hlt rfl (by decide +kernel) (by decide +kernel) rfl (fun j q hq => by
  match j, hq with
  | 0, hq => cases hq; exact tJ7_copyOfRangeByte_39247 hlt
  | n + 1, hq => cases hq) aJ7_copyOfRange_39247 wJ7_copyOfRange_39247 xJ7_copyOfRange_39247 rfl
def mJ0_init_db425 : zm_M := (yJ0_init_db425, cJ0_init_db425, 5, none, (3, 1, 1024, 86), 2, [], (1, 1024))
set_option maxRecDepth 100000 in
def rJ0_init_db425 : List zm_R := [(0, .aload_n 0, 0, [], 0, 0, (0, 0), false, []),
  (1, .invokespecial 1, 10, [], 0, 0, (0, 0), false, []),
  (4, .aload_n 1, 0, [], 0, 0, (0, 0), false, []),
  (5, .invokevirtual 552, 6, [8, 0, 1, 3, 0, 6], 0, 0, (0, 0), false, []),
  (8, .astore_n 3, 0, [], 0, 0, (0, 0), false, []),
  (9, .aload_n 1, 0, [], 0, 0, (0, 0), false, []),
  (10, .invokevirtual 549, 6, [10, 1, 1, 1, 0, 6], 0, 0, (0, 0), false, []),
  (13, .istore 4, 0, [], 0, 0, (0, 0), false, []),
  (15, .aload_n 1, 0, [], 0, 0, (0, 0), false, []),
  (16, .invokevirtual 1047, 6, [8, 2, 1, 1, 0, 6], 0, 0, (0, 0), false, []),
  (19, .ifCond .eq 22, 1, [21], 0, 0, (0, 0), false, []),
  (22, .aload_n 0, 0, [], 0, 0, (0, 0), false, []),
  (23, .iconst 0, 0, [], 0, 0, (0, 0), false, []),
  (24, .putfield 15, 2, [7, 1, 4, 4], 0, 0, (0, 0), false, []),
  (27, .aload_n 0, 0, [], 0, 0, (0, 0), false, []),
  (28, .aload_n 3, 0, [], 0, 0, (0, 0), false, []),
  (29, .iconst 0, 0, [], 0, 0, (0, 0), false, []),
  (30, .iload 4, 0, [], 0, 0, (0, 0), false, []),
  (32, .invokestatic 54, 6, [1, 3, 3, 3, 0, 0], 0, 0, (0, 0), false, []),
  (35, .putfield 9, 2, [7, 0, 4, 2], 0, 0, (1, 1024), false, []),
  (38, .goto 59, 1, [50], 0, 0, (1, 1024), false, []),
  (41, .getstatic 38, 14, [0], 0, 0, (0, 0), false, []),
  (44, .ifCond .eq 35, 1, [39], 0, 0, (0, 0), false, []),
  (47, .aload_n 1, 0, [], 0, 0, (0, 0), false, []),
  (48, .getfield 1048, 12, [], 0, 0, (0, 0), false, []),
  (51, .ifCond .eq 28, 12, [], 0, 0, (0, 0), false, []),
  (54, .aload_n 0, 12, [], 0, 0, (0, 0), false, []),
  (55, .aload_n 3, 12, [], 0, 0, (0, 0), false, []),
  (56, .iconst 0, 12, [], 0, 0, (0, 0), false, []),
  (57, .iload 4, 12, [], 0, 0, (0, 0), false, []),
  (59, .invokestatic 1051, 12, [], 0, 0, (0, 0), false, []),
  (62, .putfield 9, 12, [], 0, 0, (0, 0), false, []),
  (65, .aload_n 0, 12, [], 0, 0, (0, 0), false, []),
  (66, .aload_n 0, 12, [], 0, 0, (0, 0), false, []),
  (67, .getfield 9, 12, [], 0, 0, (0, 0), false, []),
  (70, .iload 4, 12, [], 0, 0, (0, 0), false, []),
  (72, .invokestatic 47, 12, [], 0, 0, (0, 0), false, []),
  (75, .putfield 15, 12, [], 0, 0, (0, 0), false, []),
  (78, .return_, 12, [], 0, 0, (0, 0), false, []),
  (79, .aload_n 0, 0, [], 0, 0, (0, 0), false, []),
  (80, .iconst 1, 0, [], 1, 0, (0, 0), false, []),
  (81, .putfield 15, 2, [7, 1, 4, 4], 0, 0, (0, 0), false, []),
  (84, .aload_n 0, 0, [], 0, 0, (0, 0), false, []),
  (85, .aload_n 3, 0, [], 0, 0, (0, 0), false, []),
  (86, .iconst 0, 0, [], 0, 0, (0, 0), false, []),
  (87, .iload 4, 0, [], 0, 0, (0, 0), false, []),
  (89, .iconst 1, 0, [], 1, 0, (0, 0), false, []),
  (90, .ishl, 0, [], 0, 0, (0, 0), false, []),
  (91, .invokestatic 54, 6, [1, 3, 3, 3, 0, 0], 0, 0, (0, 0), false, []),
  (94, .putfield 9, 2, [7, 0, 4, 2], 0, 0, (1, 1024), false, []),
  (97, .return_, 5, [], 0, 0, (1, 1024), false, [])]
def eJ0_init_db425 : List zm_M := [mJ5_getValue_6d5f1, mJ4_length_8abf5, mJ5_isLatin1_aae02, mJ7_copyOfRange_39247]
noncomputable def vJ0_init_db425 : List (zm_M × zm_S) := [(mJ5_getValue_6d5f1, sJ5_getValue_6d5f1), (mJ4_length_8abf5, sJ4_length_8abf5), (mJ5_isLatin1_aae02, sJ5_isLatin1_aae02), (mJ7_copyOfRange_39247, sJ7_copyOfRange_39247)]
noncomputable def sJ0_init_db425 : zm_S := zsem vJ0_init_db425 rJ0_init_db425 5
set_option maxRecDepth 100000 in
theorem aJ0_init_db425 : zall RJ0 mJ0_init_db425 eJ0_init_db425 rJ0_init_db425 = true := by decide +kernel
set_option maxRecDepth 100000 in
theorem wJ0_init_db425 : ∀ w ∈ zwds RJ0 mJ0_init_db425 eJ0_init_db425 rJ0_init_db425, w ∈ gT := zwd_of [685, 69, 70, 686, 688, 689, 687, 43, 690, 691, 693, 692, 694, 695, 44, 698, 696, 699, 542, 543, 541, 43, 544, 731, 700, 701, 49, 702, 730, 579, 731, 700, 701, 49, 702, 730] (by decide +kernel) (by decide +kernel) (z7_no (by decide +kernel))
set_option maxRecDepth 100000 in
theorem xJ0_init_db425 : ∀ w ∈ zwxs RJ0 mJ0_init_db425 eJ0_init_db425 rJ0_init_db425, zspc w = true ∧ w ∈ lw_tbl := by decide +kernel
theorem tJ0_init_db425 {sc : Nat × (Nat → Int32)} {l : Launch} (hlt : l.stackTraces = false) : MetA sc l mJ0_init_db425 (sJ0_init_db425) := zmet (M := mJ0_init_db425) (own := RJ0) (envM := eJ0_init_db425) hlt rfl (by decide +kernel) (by decide +kernel) rfl (fun j q hq => by
  match j, hq with
  | 0, hq => cases hq; exact tJ5_getValue_6d5f1 hlt
  | 1, hq => cases hq; exact tJ4_length_8abf5 hlt
  | 2, hq => cases hq; exact tJ5_isLatin1_aae02 hlt
  | 3, hq => cases hq; exact tJ7_copyOfRange_39247 hlt
  | n + 4, hq => cases hq) aJ0_init_db425 wJ0_init_db425 xJ0_init_db425 rfl
def mJ0_init_81219 : zm_M := (yJ0_init_81219, cJ0_init_81219, 2, none, (4, 1, 1024, 110), 1, [], (1, 1024))
set_option maxRecDepth 100000 in
def rJ0_init_81219 : List zm_R := [(0, .aload_n 0, 0, [], 0, 0, (0, 0), false, []),
  (1, .aload_n 1, 0, [], 0, 0, (0, 0), false, []),
  (2, .aconst_null, 0, [], 0, 0, (0, 0), false, []),
  (3, .invokespecial 489, 6, [2, 0, 3, 0, 0, 7], 0, 0, (0, 0), false, []),
  (6, .return_, 5, [], 0, 0, (1, 1024), false, [])]
def eJ0_init_81219 : List zm_M := [mJ0_init_db425]
noncomputable def vJ0_init_81219 : List (zm_M × zm_S) := [(mJ0_init_db425, sJ0_init_db425)]
noncomputable def sJ0_init_81219 : zm_S := zsem vJ0_init_81219 rJ0_init_81219 2
set_option maxRecDepth 100000 in
theorem aJ0_init_81219 : zall RJ0 mJ0_init_81219 eJ0_init_81219 rJ0_init_81219 = true := by decide +kernel
set_option maxRecDepth 100000 in
theorem wJ0_init_81219 : ∀ w ∈ zwds RJ0 mJ0_init_81219 eJ0_init_81219 rJ0_init_81219, w ∈ gT := zwd_of [682, 683, 45, 684] (by decide +kernel) (by decide +kernel) (z7_no (by decide +kernel))
set_option maxRecDepth 100000 in
theorem xJ0_init_81219 : ∀ w ∈ zwxs RJ0 mJ0_init_81219 eJ0_init_81219 rJ0_init_81219, zspc w = true ∧ w ∈ lw_tbl := by decide +kernel
theorem tJ0_init_81219 {sc : Nat × (Nat → Int32)} {l : Launch} (hlt : l.stackTraces = false) : MetA sc l mJ0_init_81219 (sJ0_init_81219) := zmet (M := mJ0_init_81219) (own := RJ0) (envM := eJ0_init_81219) hlt rfl (by decide +kernel) (by decide +kernel) rfl (fun j q hq => by
  match j, hq with
  | 0, hq => cases hq; exact tJ0_init_db425 hlt
  | n + 1, hq => cases hq) aJ0_init_81219 wJ0_init_81219 xJ0_init_81219 rfl
def mJ4_toString_0e30d : zm_M := (yJ4_toString_0e30d, cJ4_toString_0e30d, 1, (some (.object "java/lang/String")), (5, 2, 1028, 131), 0, [], (2, 1028))
set_option maxRecDepth 100000 in
def rJ4_toString_0e30d : List zm_R := [(0, .new 18, 4, [7, 4], 0, 0, (0, 0), false, []),
  (3, .dup, 0, [], 0, 0, (1, 4), false, []),
  (4, .aload_n 0, 0, [], 0, 0, (1, 4), false, []),
  (5, .invokespecial 137, 6, [2, 0, 2, 0, 0, 7], 0, 0, (1, 4), false, []),
  (8, .areturn, 5, [], 0, 0, (2, 1028), false, [])]
def eJ4_toString_0e30d : List zm_M := [mJ0_init_81219]
noncomputable def vJ4_toString_0e30d : List (zm_M × zm_S) := [(mJ0_init_81219, sJ0_init_81219)]
noncomputable def sJ4_toString_0e30d : zm_S := zsem vJ4_toString_0e30d rJ4_toString_0e30d 1
set_option maxRecDepth 100000 in
theorem aJ4_toString_0e30d : zall RJ4 mJ4_toString_0e30d eJ4_toString_0e30d rJ4_toString_0e30d = true := by decide +kernel
set_option maxRecDepth 100000 in
theorem wJ4_toString_0e30d : ∀ w ∈ zwds RJ4 mJ4_toString_0e30d eJ4_toString_0e30d rJ4_toString_0e30d, w ∈ gT := zwd_of [677, 678, 45, 679, 680, 45, 681] (by decide +kernel) (by decide +kernel) (z7_no (by decide +kernel))
set_option maxRecDepth 100000 in
theorem xJ4_toString_0e30d : ∀ w ∈ zwxs RJ4 mJ4_toString_0e30d eJ4_toString_0e30d rJ4_toString_0e30d, zspc w = true ∧ w ∈ lw_tbl := by decide +kernel
theorem tJ4_toString_0e30d {sc : Nat × (Nat → Int32)} {l : Launch} (hlt : l.stackTraces = false) : MetA sc l mJ4_toString_0e30d (sJ4_toString_0e30d) := zmet (M := mJ4_toString_0e30d) (own := RJ4) (envM := eJ4_toString_0e30d) hlt rfl (by decide +kernel) (by decide +kernel) rfl (fun j q hq => by
  match j, hq with
  | 0, hq => cases hq; exact tJ0_init_81219 hlt
  | n + 1, hq => cases hq) aJ4_toString_0e30d wJ4_toString_0e30d xJ4_toString_0e30d rfl
def mJ8_newLength_cabcc : zm_M := (yJ8_newLength_cabcc, cJ8_newLength_cabcc, 4, (some .int), (1, 0, 0, 23), 3, [], (0, 0))
set_option maxRecDepth 100000 in
def rJ8_newLength_cabcc : List zm_R := [(0, .iload_n 0, 0, [], 0, 0, (0, 0), false, []),
  (1, .iload_n 1, 0, [], 0, 0, (0, 0), false, []),
  (2, .iload_n 2, 0, [], 0, 0, (0, 0), false, []),
  (3, .invokestatic 194, 13, [0], 0, 0, (0, 0), false, []),
  (6, .iadd, 0, [], 0, 0, (0, 0), false, []),
  (7, .istore_n 3, 0, [], 0, 0, (0, 0), false, []),
  (8, .iconst 0, 0, [], 0, 0, (0, 0), false, []),
  (9, .iload_n 3, 0, [], 0, 0, (0, 0), false, []),
  (10, .if_icmp .ge 11, 1, [14], 0, 0, (0, 0), false, []),
  (13, .iload_n 3, 0, [], 0, 0, (0, 0), false, []),
  (14, .ldc 200, 9, [0], 2147483639, 0, (0, 0), false, []),
  (16, .if_icmp .gt 5, 1, [14], 0, 0, (0, 0), false, []),
  (19, .iload_n 3, 0, [], 0, 0, (0, 0), false, []),
  (20, .ireturn, 5, [0], 0, 0, (0, 0), false, []),
  (21, .iload_n 0, 0, [], 0, 0, (0, 0), false, []),
  (22, .iload_n 1, 0, [], 0, 0, (0, 0), false, []),
  (23, .invokestatic 201, 12, [], 0, 0, (0, 0), false, []),
  (26, .ireturn, 12, [], 0, 0, (0, 0), false, [])]
def eJ8_newLength_cabcc : List zm_M := []
noncomputable def vJ8_newLength_cabcc : List (zm_M × zm_S) := []
noncomputable def sJ8_newLength_cabcc : zm_S := zsem vJ8_newLength_cabcc rJ8_newLength_cabcc 4
set_option maxRecDepth 100000 in
theorem aJ8_newLength_cabcc : zall RJ8 mJ8_newLength_cabcc eJ8_newLength_cabcc rJ8_newLength_cabcc = true := by decide +kernel
set_option maxRecDepth 100000 in
theorem wJ8_newLength_cabcc : ∀ w ∈ zwds RJ8 mJ8_newLength_cabcc eJ8_newLength_cabcc rJ8_newLength_cabcc, w ∈ gT := zwd_of [518, 519, 48, 520, 521] (by decide +kernel) (by decide +kernel) (z7_no (by decide +kernel))
set_option maxRecDepth 100000 in
theorem xJ8_newLength_cabcc : ∀ w ∈ zwxs RJ8 mJ8_newLength_cabcc eJ8_newLength_cabcc rJ8_newLength_cabcc, zspc w = true ∧ w ∈ lw_tbl := by decide +kernel
theorem tJ8_newLength_cabcc {sc : Nat × (Nat → Int32)} {l : Launch} (hlt : l.stackTraces = false) : MetA sc l mJ8_newLength_cabcc (sJ8_newLength_cabcc) := zmet (M := mJ8_newLength_cabcc) (own := RJ8) (envM := eJ8_newLength_cabcc) hlt rfl (by decide +kernel) (by decide +kernel) rfl (fun j q hq => by cases hq) aJ8_newLength_cabcc wJ8_newLength_cabcc xJ8_newLength_cabcc rfl
def mJ5_newCapacity_0f7a4 : zm_M := (yJ5_newCapacity_0f7a4, cJ5_newCapacity_0f7a4, 6, (some .int), (2, 0, 0, 46), 1, [], (0, 0))
set_option maxRecDepth 100000 in
def rJ5_newCapacity_0f7a4 : List zm_R := [(0, .aload_n 0, 0, [], 0, 0, (0, 0), false, []),
  (1, .getfield 15, 2, [6, 0, 4, 2], 0, 0, (0, 0), false, []),
  (4, .arraylength, 3, [2], 0, 0, (0, 0), false, []),
  (5, .istore_n 2, 0, [], 0, 0, (0, 0), false, []),
  (6, .iload_n 1, 0, [], 0, 0, (0, 0), false, []),
  (7, .aload_n 0, 0, [], 0, 0, (0, 0), false, []),
  (8, .getfield 22, 2, [6, 1, 4, 0], 0, 0, (0, 0), false, []),
  (11, .ishl, 0, [], 0, 0, (0, 0), false, []),
  (12, .istore_n 3, 0, [], 0, 0, (0, 0), false, []),
  (13, .iload_n 3, 0, [], 0, 0, (0, 0), false, []),
  (14, .iload_n 2, 0, [], 0, 0, (0, 0), false, []),
  (15, .isub, 0, [], 0, 0, (0, 0), false, []),
  (16, .istore 4, 0, [], 0, 0, (0, 0), false, []),
  (18, .iload_n 2, 0, [], 0, 0, (0, 0), false, []),
  (19, .iload 4, 0, [], 0, 0, (0, 0), false, []),
  (21, .iload_n 2, 0, [], 0, 0, (0, 0), false, []),
  (22, .iconst 2, 0, [], 2, 0, (0, 0), false, []),
  (23, .aload_n 0, 0, [], 0, 0, (0, 0), false, []),
  (24, .getfield 22, 2, [6, 1, 4, 0], 0, 0, (0, 0), false, []),
  (27, .ishl, 0, [], 0, 0, (0, 0), false, []),
  (28, .iadd, 0, [], 0, 0, (0, 0), false, []),
  (29, .invokestatic 114, 6, [1, 0, 3, 1, 0, 0], 0, 0, (0, 0), false, []),
  (32, .istore 5, 0, [], 0, 0, (0, 0), false, []),
  (34, .iload 5, 0, [], 0, 0, (0, 0), false, []),
  (36, .ldc 39, 9, [0], 2147483647, 0, (0, 0), false, []),
  (38, .if_icmp .ne 13, 1, [31], 0, 0, (0, 0), false, []),
  (41, .new 120, 12, [], 0, 0, (0, 0), false, []),
  (44, .dup, 12, [], 0, 0, (0, 0), false, []),
  (45, .ldc 122, 12, [], 0, 0, (0, 0), false, []),
  (47, .invokespecial 124, 12, [], 0, 0, (0, 0), false, []),
  (50, .athrow, 12, [], 0, 0, (0, 0), false, []),
  (51, .iload 5, 0, [], 0, 0, (0, 0), false, []),
  (53, .aload_n 0, 0, [], 0, 0, (0, 0), false, []),
  (54, .getfield 22, 2, [6, 1, 4, 0], 0, 0, (0, 0), false, []),
  (57, .ishr, 0, [], 0, 0, (0, 0), false, []),
  (58, .ireturn, 5, [0], 0, 0, (0, 0), false, [])]
def eJ5_newCapacity_0f7a4 : List zm_M := [mJ8_newLength_cabcc]
noncomputable def vJ5_newCapacity_0f7a4 : List (zm_M × zm_S) := [(mJ8_newLength_cabcc, sJ8_newLength_cabcc)]
noncomputable def sJ5_newCapacity_0f7a4 : zm_S := zsem vJ5_newCapacity_0f7a4 rJ5_newCapacity_0f7a4 6
set_option maxRecDepth 100000 in
theorem aJ5_newCapacity_0f7a4 : zall RJ5 mJ5_newCapacity_0f7a4 eJ5_newCapacity_0f7a4 rJ5_newCapacity_0f7a4 = true := by decide +kernel
set_option maxRecDepth 100000 in
theorem wJ5_newCapacity_0f7a4 : ∀ w ∈ zwds RJ5 mJ5_newCapacity_0f7a4 eJ5_newCapacity_0f7a4 rJ5_newCapacity_0f7a4, w ∈ gT := zwd_of [482, 483, 483, 515, 516, 47, 517, 525, 483] (by decide +kernel) (by decide +kernel) (z7_no (by decide +kernel))
set_option maxRecDepth 100000 in
theorem xJ5_newCapacity_0f7a4 : ∀ w ∈ zwxs RJ5 mJ5_newCapacity_0f7a4 eJ5_newCapacity_0f7a4 rJ5_newCapacity_0f7a4, zspc w = true ∧ w ∈ lw_tbl := by decide +kernel
theorem tJ5_newCapacity_0f7a4 {sc : Nat × (Nat → Int32)} {l : Launch} (hlt : l.stackTraces = false) : MetA sc l mJ5_newCapacity_0f7a4 (sJ5_newCapacity_0f7a4) := zmet (M := mJ5_newCapacity_0f7a4) (own := RJ5) (envM := eJ5_newCapacity_0f7a4) hlt rfl (by decide +kernel) (by decide +kernel) rfl (fun j q hq => by
  match j, hq with
  | 0, hq => cases hq; exact tJ8_newLength_cabcc hlt
  | n + 1, hq => cases hq) aJ5_newCapacity_0f7a4 wJ5_newCapacity_0f7a4 xJ5_newCapacity_0f7a4 rfl
def mJ7_copyOf_9075b : zm_M := (yJ7_copyOf_9075b, cJ7_copyOf_9075b, 3, (some (.array .byte)), (1, 1, 1024, 40), 2, [], (1, 1024))
set_option maxRecDepth 100000 in
def rJ7_copyOf_9075b : List zm_R := [(0, .iload_n 1, 0, [], 0, 0, (0, 0), false, []),
  (1, .aload_n 0, 0, [], 0, 0, (0, 0), false, []),
  (2, .arraylength, 3, [2], 0, 0, (0, 0), false, []),
  (3, .if_icmp .ne 11, 1, [8], 0, 0, (0, 0), false, []),
  (6, .aload_n 0, 0, [], 0, 0, (0, 0), false, []),
  (7, .invokevirtual 310, 14, [1024], 0, 0, (0, 0), false, []),
  (10, .checkcast 311, 14, [2], 0, 0, (1, 1024), false, []),
  (13, .areturn, 5, [], 0, 0, (1, 1024), false, []),
  (14, .iload_n 1, 0, [], 0, 0, (0, 0), false, []),
  (15, .newarray .byte, 4, [2, 1024], 0, 0, (0, 0), false, []),
  (17, .astore_n 2, 0, [], 0, 0, (1, 1024), false, []),
  (18, .aload_n 0, 0, [], 0, 0, (1, 1024), false, []),
  (19, .iconst 0, 0, [], 0, 0, (1, 1024), false, []),
  (20, .aload_n 2, 0, [], 0, 0, (1, 1024), false, []),
  (21, .iconst 0, 0, [], 0, 0, (1, 1024), false, []),
  (22, .aload_n 0, 0, [], 0, 0, (1, 1024), false, []),
  (23, .arraylength, 3, [2], 0, 0, (1, 1024), false, []),
  (24, .iload_n 1, 0, [], 0, 0, (1, 1024), false, []),
  (25, .invokestatic 304, 13, [1], 0, 0, (1, 1024), false, []),
  (28, .invokestatic 150, 15, [], 0, 0, (1, 1024), false, []),
  (31, .aload_n 2, 0, [], 0, 0, (1, 1024), false, []),
  (32, .areturn, 5, [], 0, 0, (1, 1024), false, [])]
def eJ7_copyOf_9075b : List zm_M := []
noncomputable def vJ7_copyOf_9075b : List (zm_M × zm_S) := []
noncomputable def sJ7_copyOf_9075b : zm_S := zsem vJ7_copyOf_9075b rJ7_copyOf_9075b 3
set_option maxRecDepth 100000 in
theorem aJ7_copyOf_9075b : zall RJ7 mJ7_copyOf_9075b eJ7_copyOf_9075b rJ7_copyOf_9075b = true := by decide +kernel
set_option maxRecDepth 100000 in
theorem wJ7_copyOf_9075b : ∀ w ∈ zwds RJ7 mJ7_copyOf_9075b eJ7_copyOf_9075b rJ7_copyOf_9075b, w ∈ gT := zwd_of [529, 530, 531, 532, 533, 535, 339, 536, 537, 48, 538, 539, 443, 442, 50] (by decide +kernel) (by decide +kernel) (z7_no (by decide +kernel))
set_option maxRecDepth 100000 in
theorem xJ7_copyOf_9075b : ∀ w ∈ zwxs RJ7 mJ7_copyOf_9075b eJ7_copyOf_9075b rJ7_copyOf_9075b, zspc w = true ∧ w ∈ lw_tbl := by decide +kernel
theorem tJ7_copyOf_9075b {sc : Nat × (Nat → Int32)} {l : Launch} (hlt : l.stackTraces = false) : MetA sc l mJ7_copyOf_9075b (sJ7_copyOf_9075b) := zmet (M := mJ7_copyOf_9075b) (own := RJ7) (envM := eJ7_copyOf_9075b) hlt rfl (by decide +kernel) (by decide +kernel) rfl (fun j q hq => by cases hq) aJ7_copyOf_9075b wJ7_copyOf_9075b xJ7_copyOf_9075b rfl
def mJ5_ensureCapacityInternal_d00df : zm_M := (yJ5_ensureCapacityInternal_d00df, cJ5_ensureCapacityInternal_d00df, 3, none, (3, 1, 1024, 71), 1, [], (1, 1024))
set_option maxRecDepth 100000 in
def rJ5_ensureCapacityInternal_d00df : List zm_R := [(0, .aload_n 0, 0, [], 0, 0, (0, 0), false, []),
  (1, .getfield 15, 2, [6, 0, 4, 2], 0, 0, (0, 0), false, []),
  (4, .arraylength, 3, [2], 0, 0, (0, 0), false, []),
  (5, .aload_n 0, 0, [], 0, 0, (0, 0), false, []),
  (6, .getfield 22, 2, [6, 1, 4, 0], 0, 0, (0, 0), false, []),
  (9, .ishr, 0, [], 0, 0, (0, 0), false, []),
  (10, .istore_n 2, 0, [], 0, 0, (0, 0), false, []),
  (11, .iload_n 1, 0, [], 0, 0, (0, 0), false, []),
  (12, .iload_n 2, 0, [], 0, 0, (0, 0), false, []),
  (13, .isub, 0, [], 0, 0, (0, 0), false, []),
  (14, .ifCond .le 24, 1, [22], 0, 0, (0, 0), false, []),
  (17, .aload_n 0, 0, [], 0, 0, (0, 0), false, []),
  (18, .aload_n 0, 0, [], 0, 0, (0, 0), false, []),
  (19, .getfield 15, 2, [6, 0, 4, 2], 0, 0, (0, 0), false, []),
  (22, .aload_n 0, 0, [], 0, 0, (0, 0), false, []),
  (23, .iload_n 1, 0, [], 0, 0, (0, 0), false, []),
  (24, .invokevirtual 104, 6, [8, 0, 2, 1, 0, 6], 0, 0, (0, 0), false, []),
  (27, .aload_n 0, 0, [], 0, 0, (0, 0), false, []),
  (28, .getfield 22, 2, [6, 1, 4, 0], 0, 0, (0, 0), false, []),
  (31, .ishl, 0, [], 0, 0, (0, 0), false, []),
  (32, .invokestatic 108, 6, [1, 1, 2, 3, 0, 0], 0, 0, (0, 0), false, []),
  (35, .putfield 15, 2, [6, 0, 4, 2], 0, 0, (1, 1024), false, []),
  (38, .return_, 5, [], 0, 0, (1, 1024), false, [])]
def eJ5_ensureCapacityInternal_d00df : List zm_M := [mJ5_newCapacity_0f7a4, mJ7_copyOf_9075b]
noncomputable def vJ5_ensureCapacityInternal_d00df : List (zm_M × zm_S) := [(mJ5_newCapacity_0f7a4, sJ5_newCapacity_0f7a4), (mJ7_copyOf_9075b, sJ7_copyOf_9075b)]
noncomputable def sJ5_ensureCapacityInternal_d00df : zm_S := zsem vJ5_ensureCapacityInternal_d00df rJ5_ensureCapacityInternal_d00df 3
set_option maxRecDepth 100000 in
theorem aJ5_ensureCapacityInternal_d00df : zall RJ5 mJ5_ensureCapacityInternal_d00df eJ5_ensureCapacityInternal_d00df rJ5_ensureCapacityInternal_d00df = true := by decide +kernel
set_option maxRecDepth 100000 in
theorem wJ5_ensureCapacityInternal_d00df : ∀ w ∈ zwds RJ5 mJ5_ensureCapacityInternal_d00df eJ5_ensureCapacityInternal_d00df rJ5_ensureCapacityInternal_d00df, w ∈ gT := zwd_of [482, 483, 482, 511, 1232, 1, 513, 43, 514, 483, 526, 527, 49, 528, 482] (by decide +kernel) (by decide +kernel) (z7_no (by decide +kernel))
set_option maxRecDepth 100000 in
theorem xJ5_ensureCapacityInternal_d00df : ∀ w ∈ zwxs RJ5 mJ5_ensureCapacityInternal_d00df eJ5_ensureCapacityInternal_d00df rJ5_ensureCapacityInternal_d00df, zspc w = true ∧ w ∈ lw_tbl := by decide +kernel
theorem tJ5_ensureCapacityInternal_d00df {sc : Nat × (Nat → Int32)} {l : Launch} (hlt : l.stackTraces = false) : MetA sc l mJ5_ensureCapacityInternal_d00df (sJ5_ensureCapacityInternal_d00df) := zmet (M := mJ5_ensureCapacityInternal_d00df) (own := RJ5) (envM := eJ5_ensureCapacityInternal_d00df) hlt rfl (by decide +kernel) (by decide +kernel) rfl (fun j q hq => by
  match j, hq with
  | 0, hq => cases hq; exact tJ5_newCapacity_0f7a4 hlt
  | 1, hq => cases hq; exact tJ7_copyOf_9075b hlt
  | n + 2, hq => cases hq) aJ5_ensureCapacityInternal_d00df wJ5_ensureCapacityInternal_d00df xJ5_ensureCapacityInternal_d00df rfl
def mJ5_inflateIfNeededFor_a7421 : zm_M := (yJ5_inflateIfNeededFor_a7421, cJ5_inflateIfNeededFor_a7421, 2, none, (1, 0, 0, 20), 1, [], (0, 0))
set_option maxRecDepth 100000 in
def rJ5_inflateIfNeededFor_a7421 : List zm_R := [(0, .getstatic 18, 14, [0], 0, 0, (0, 0), false, []),
  (3, .ifCond .eq 18, 1, [9], 0, 0, (0, 0), false, []),
  (6, .aload_n 0, 0, [], 0, 0, (0, 0), false, []),
  (7, .getfield 22, 2, [6, 1, 4, 0], 0, 0, (0, 0), false, []),
  (10, .aload_n 1, 0, [], 0, 0, (0, 0), false, []),
  (11, .invokevirtual 40, 6, [6, 0, 1, 1, 0, 7], 0, 0, (0, 0), false, []),
  (14, .if_icmp .eq 7, 1, [9], 0, 0, (0, 0), false, []),
  (17, .aload_n 0, 0, [], 0, 0, (0, 0), false, []),
  (18, .invokevirtual 195, 12, [], 0, 0, (0, 0), false, []),
  (21, .return_, 5, [], 0, 0, (0, 0), false, [])]
def eJ5_inflateIfNeededFor_a7421 : List zm_M := [mJ0_coder_7d493]
noncomputable def vJ5_inflateIfNeededFor_a7421 : List (zm_M × zm_S) := [(mJ0_coder_7d493, sJ0_coder_7d493)]
noncomputable def sJ5_inflateIfNeededFor_a7421 : zm_S := zsem vJ5_inflateIfNeededFor_a7421 rJ5_inflateIfNeededFor_a7421 2
set_option maxRecDepth 100000 in
theorem aJ5_inflateIfNeededFor_a7421 : zall RJ5 mJ5_inflateIfNeededFor_a7421 eJ5_inflateIfNeededFor_a7421 rJ5_inflateIfNeededFor_a7421 = true := by decide +kernel
set_option maxRecDepth 100000 in
theorem wJ5_inflateIfNeededFor_a7421 : ∀ w ∈ zwds RJ5 mJ5_inflateIfNeededFor_a7421 eJ5_inflateIfNeededFor_a7421 rJ5_inflateIfNeededFor_a7421, w ∈ gT := zwd_of [473, 483, 588, 576, 577, 45, 578] (by decide +kernel) (by decide +kernel) (z7_no (by decide +kernel))
set_option maxRecDepth 100000 in
theorem xJ5_inflateIfNeededFor_a7421 : ∀ w ∈ zwxs RJ5 mJ5_inflateIfNeededFor_a7421 eJ5_inflateIfNeededFor_a7421 rJ5_inflateIfNeededFor_a7421, zspc w = true ∧ w ∈ lw_tbl := by decide +kernel
theorem tJ5_inflateIfNeededFor_a7421 {sc : Nat × (Nat → Int32)} {l : Launch} (hlt : l.stackTraces = false) : MetA sc l mJ5_inflateIfNeededFor_a7421 (sJ5_inflateIfNeededFor_a7421) := zmet (M := mJ5_inflateIfNeededFor_a7421) (own := RJ5) (envM := eJ5_inflateIfNeededFor_a7421) hlt rfl (by decide +kernel) (by decide +kernel) rfl (fun j q hq => by
  match j, hq with
  | 0, hq => cases hq; exact tJ0_coder_7d493 hlt
  | n + 1, hq => cases hq) aJ5_inflateIfNeededFor_a7421 wJ5_inflateIfNeededFor_a7421 xJ5_inflateIfNeededFor_a7421 rfl
def mJ0_getBytes_840e7 : zm_M := (yJ0_getBytes_840e7, cJ0_getBytes_840e7, 4, none, (1, 0, 0, 40), 3, [], (0, 0))
set_option maxRecDepth 100000 in
def rJ0_getBytes_840e7 : List zm_R := [(0, .aload_n 0, 0, [], 0, 0, (0, 0), false, []),
  (1, .invokevirtual 335, 6, [6, 0, 1, 1, 0, 7], 0, 0, (0, 0), false, []),
  (4, .iload_n 3, 0, [], 0, 0, (0, 0), false, []),
  (5, .if_icmp .ne 23, 1, [16], 0, 0, (0, 0), false, []),
  (8, .aload_n 0, 0, [], 0, 0, (0, 0), false, []),
  (9, .getfield 9, 14, [0], 0, 0, (0, 0), false, []),
  (12, .iconst 0, 0, [], 0, 0, (0, 0), false, []),
  (13, .aload_n 1, 0, [], 0, 0, (0, 0), false, []),
  (14, .iload_n 2, 0, [], 0, 0, (0, 0), false, []),
  (15, .iload_n 3, 0, [], 0, 0, (0, 0), false, []),
  (16, .ishl, 0, [], 0, 0, (0, 0), false, []),
  (17, .aload_n 0, 0, [], 0, 0, (0, 0), false, []),
  (18, .getfield 9, 14, [0], 0, 0, (0, 0), false, []),
  (21, .arraylength, 14, [22], 0, 0, (0, 0), false, []),
  (22, .invokestatic 212, 15, [], 0, 0, (0, 0), false, []),
  (25, .goto 18, 1, [25], 0, 0, (0, 0), false, []),
  (28, .aload_n 0, 0, [], 0, 0, (0, 0), false, []),
  (29, .getfield 9, 14, [0], 0, 0, (0, 0), false, []),
  (32, .iconst 0, 0, [], 0, 0, (0, 0), false, []),
  (33, .aload_n 1, 0, [], 0, 0, (0, 0), false, []),
  (34, .iload_n 2, 0, [], 0, 0, (0, 0), false, []),
  (35, .aload_n 0, 0, [], 0, 0, (0, 0), false, []),
  (36, .getfield 9, 14, [0], 0, 0, (0, 0), false, []),
  (39, .arraylength, 14, [22], 0, 0, (0, 0), false, []),
  (40, .invokestatic 106, 12, [], 0, 0, (0, 0), false, []),
  (43, .return_, 5, [], 0, 0, (0, 0), false, [])]
def eJ0_getBytes_840e7 : List zm_M := [mJ0_coder_7d493]
noncomputable def vJ0_getBytes_840e7 : List (zm_M × zm_S) := [(mJ0_coder_7d493, sJ0_coder_7d493)]
noncomputable def sJ0_getBytes_840e7 : zm_S := zsem vJ0_getBytes_840e7 rJ0_getBytes_840e7 4
set_option maxRecDepth 100000 in
theorem aJ0_getBytes_840e7 : zall RJ0 mJ0_getBytes_840e7 eJ0_getBytes_840e7 rJ0_getBytes_840e7 = true := by decide +kernel
set_option maxRecDepth 100000 in
theorem wJ0_getBytes_840e7 : ∀ w ∈ zwds RJ0 mJ0_getBytes_840e7 eJ0_getBytes_840e7 rJ0_getBytes_840e7, w ∈ gT := zwd_of [575, 576, 577, 45, 578, 730, 730, 612, 443, 442, 50, 730, 730] (by decide +kernel) (by decide +kernel) (z7_no (by decide +kernel))
set_option maxRecDepth 100000 in
theorem xJ0_getBytes_840e7 : ∀ w ∈ zwxs RJ0 mJ0_getBytes_840e7 eJ0_getBytes_840e7 rJ0_getBytes_840e7, zspc w = true ∧ w ∈ lw_tbl := by decide +kernel
theorem tJ0_getBytes_840e7 {sc : Nat × (Nat → Int32)} {l : Launch} (hlt : l.stackTraces = false) : MetA sc l mJ0_getBytes_840e7 (sJ0_getBytes_840e7) := zmet (M := mJ0_getBytes_840e7) (own := RJ0) (envM := eJ0_getBytes_840e7) hlt rfl (by decide +kernel) (by decide +kernel) rfl (fun j q hq => by
  match j, hq with
  | 0, hq => cases hq; exact tJ0_coder_7d493 hlt
  | n + 1, hq => cases hq) aJ0_getBytes_840e7 wJ0_getBytes_840e7 xJ0_getBytes_840e7 rfl
def mJ5_putStringAt_47b60 : zm_M := (yJ5_putStringAt_47b60, cJ5_putStringAt_47b60, 3, none, (2, 0, 0, 63), 2, [], (0, 0))
set_option maxRecDepth 100000 in
def rJ5_putStringAt_47b60 : List zm_R := [(0, .aload_n 0, 0, [], 0, 0, (0, 0), false, []),
  (1, .aload_n 2, 0, [], 0, 0, (0, 0), false, []),
  (2, .invokevirtual 397, 6, [8, 0, 2, 0, 0, 6], 0, 0, (0, 0), false, []),
  (5, .aload_n 2, 0, [], 0, 0, (0, 0), false, []),
  (6, .aload_n 0, 0, [], 0, 0, (0, 0), false, []),
  (7, .getfield 15, 2, [6, 0, 4, 2], 0, 0, (0, 0), false, []),
  (10, .iload_n 1, 0, [], 0, 0, (0, 0), false, []),
  (11, .aload_n 0, 0, [], 0, 0, (0, 0), false, []),
  (12, .getfield 22, 2, [6, 1, 4, 0], 0, 0, (0, 0), false, []),
  (15, .invokevirtual 399, 6, [6, 1, 4, 0, 0, 7], 0, 0, (0, 0), false, []),
  (18, .return_, 5, [], 0, 0, (0, 0), false, [])]
def eJ5_putStringAt_47b60 : List zm_M := [mJ5_inflateIfNeededFor_a7421, mJ0_getBytes_840e7]
noncomputable def vJ5_putStringAt_47b60 : List (zm_M × zm_S) := [(mJ5_inflateIfNeededFor_a7421, sJ5_inflateIfNeededFor_a7421), (mJ0_getBytes_840e7, sJ0_getBytes_840e7)]
noncomputable def sJ5_putStringAt_47b60 : zm_S := zsem vJ5_putStringAt_47b60 rJ5_putStringAt_47b60 3
set_option maxRecDepth 100000 in
theorem aJ5_putStringAt_47b60 : zall RJ5 mJ5_putStringAt_47b60 eJ5_putStringAt_47b60 rJ5_putStringAt_47b60 = true := by decide +kernel
set_option maxRecDepth 100000 in
theorem wJ5_putStringAt_47b60 : ∀ w ∈ zwds RJ5 mJ5_putStringAt_47b60 eJ5_putStringAt_47b60 rJ5_putStringAt_47b60, w ∈ gT := zwd_of [584, 1234, 3, 586, 43, 587, 482, 483, 608, 609, 610, 45, 611] (by decide +kernel) (by decide +kernel) (z7_no (by decide +kernel))
set_option maxRecDepth 100000 in
theorem xJ5_putStringAt_47b60 : ∀ w ∈ zwxs RJ5 mJ5_putStringAt_47b60 eJ5_putStringAt_47b60 rJ5_putStringAt_47b60, zspc w = true ∧ w ∈ lw_tbl := by decide +kernel
theorem tJ5_putStringAt_47b60 {sc : Nat × (Nat → Int32)} {l : Launch} (hlt : l.stackTraces = false) : MetA sc l mJ5_putStringAt_47b60 (sJ5_putStringAt_47b60) := zmet (M := mJ5_putStringAt_47b60) (own := RJ5) (envM := eJ5_putStringAt_47b60) hlt rfl (by decide +kernel) (by decide +kernel) rfl (fun j q hq => by
  match j, hq with
  | 0, hq => cases hq; exact tJ5_inflateIfNeededFor_a7421 hlt
  | 1, hq => cases hq; exact tJ0_getBytes_840e7 hlt
  | n + 2, hq => cases hq) aJ5_putStringAt_47b60 wJ5_putStringAt_47b60 xJ5_putStringAt_47b60 rfl
def mJ5_append_cf1ce : zm_M := (yJ5_append_cf1ce, cJ5_append_cf1ce, 3, (some (.object "java/lang/AbstractStringBuilder")), (4, 1, 1024, 93), 1, [], (1, 1024))
set_option maxRecDepth 100000 in
def rJ5_append_cf1ce : List zm_R := [(0, .aload_n 1, 0, [], 0, 0, (0, 0), false, []),
  (1, .ifnonnull 8, 1, [5], 0, 0, (0, 0), false, []),
  (4, .aload_n 0, 12, [], 0, 0, (0, 0), false, []),
  (5, .invokevirtual 204, 12, [], 0, 0, (0, 0), false, []),
  (8, .areturn, 12, [], 0, 0, (0, 0), false, []),
  (9, .aload_n 1, 0, [], 0, 0, (0, 0), false, []),
  (10, .invokevirtual 32, 6, [6, 0, 1, 1, 0, 7], 0, 0, (0, 0), false, []),
  (13, .istore_n 2, 0, [], 0, 0, (0, 0), false, []),
  (14, .aload_n 0, 0, [], 0, 0, (0, 0), false, []),
  (15, .aload_n 0, 0, [], 0, 0, (0, 0), false, []),
  (16, .getfield 79, 2, [6, 3, 4, 0], 0, 0, (0, 0), false, []),
  (19, .iload_n 2, 0, [], 0, 0, (0, 0), false, []),
  (20, .iadd, 0, [], 0, 0, (0, 0), false, []),
  (21, .invokevirtual 100, 6, [8, 1, 2, 0, 0, 6], 0, 0, (0, 0), false, []),
  (24, .aload_n 0, 0, [], 0, 0, (1, 1024), false, []),
  (25, .aload_n 0, 0, [], 0, 0, (1, 1024), false, []),
  (26, .getfield 79, 2, [6, 3, 4, 0], 0, 0, (1, 1024), false, []),
  (29, .aload_n 1, 0, [], 0, 0, (1, 1024), false, []),
  (30, .invokevirtual 208, 6, [8, 2, 3, 0, 0, 6], 0, 0, (1, 1024), false, []),
  (33, .aload_n 0, 0, [], 0, 0, (1, 1024), false, []),
  (34, .dup, 0, [], 0, 0, (1, 1024), false, []),
  (35, .getfield 79, 2, [6, 3, 4, 0], 0, 0, (1, 1024), false, []),
  (38, .iload_n 2, 0, [], 0, 0, (1, 1024), false, []),
  (39, .iadd, 0, [], 0, 0, (1, 1024), false, []),
  (40, .putfield 79, 2, [6, 3, 4, 0], 0, 0, (1, 1024), false, []),
  (43, .aload_n 0, 0, [], 0, 0, (1, 1024), false, []),
  (44, .areturn, 5, [], 0, 0, (1, 1024), false, [])]
def eJ5_append_cf1ce : List zm_M := [mJ0_length_8abf5, mJ5_ensureCapacityInternal_d00df, mJ5_putStringAt_47b60]
noncomputable def vJ5_append_cf1ce : List (zm_M × zm_S) := [(mJ0_length_8abf5, sJ0_length_8abf5), (mJ5_ensureCapacityInternal_d00df, sJ5_ensureCapacityInternal_d00df), (mJ5_putStringAt_47b60, sJ5_putStringAt_47b60)]
noncomputable def sJ5_append_cf1ce : zm_S := zsem vJ5_append_cf1ce rJ5_append_cf1ce 3
set_option maxRecDepth 100000 in
theorem aJ5_append_cf1ce : zall RJ5 mJ5_append_cf1ce eJ5_append_cf1ce rJ5_append_cf1ce = true := by decide +kernel
set_option maxRecDepth 100000 in
theorem wJ5_append_cf1ce : ∀ w ∈ zwds RJ5 mJ5_append_cf1ce eJ5_append_cf1ce rJ5_append_cf1ce, w ∈ gT := zwd_of [571, 572, 573, 45, 574, 485, 507, 1231, 0, 509, 43, 510, 485, 580, 1233, 2, 582, 43, 583, 485, 485] (by decide +kernel) (by decide +kernel) (z7_no (by decide +kernel))
set_option maxRecDepth 100000 in
theorem xJ5_append_cf1ce : ∀ w ∈ zwxs RJ5 mJ5_append_cf1ce eJ5_append_cf1ce rJ5_append_cf1ce, zspc w = true ∧ w ∈ lw_tbl := by decide +kernel
theorem tJ5_append_cf1ce {sc : Nat × (Nat → Int32)} {l : Launch} (hlt : l.stackTraces = false) : MetA sc l mJ5_append_cf1ce (sJ5_append_cf1ce) := zmet (M := mJ5_append_cf1ce) (own := RJ5) (envM := eJ5_append_cf1ce) hlt rfl (by decide +kernel) (by decide +kernel) rfl (fun j q hq => by
  match j, hq with
  | 0, hq => cases hq; exact tJ0_length_8abf5 hlt
  | 1, hq => cases hq; exact tJ5_ensureCapacityInternal_d00df hlt
  | 2, hq => cases hq; exact tJ5_putStringAt_47b60 hlt
  | n + 3, hq => cases hq) aJ5_append_cf1ce wJ5_append_cf1ce xJ5_append_cf1ce rfl
def mJ4_append_15ec4 : zm_M := (yJ4_append_15ec4, cJ4_append_15ec4, 2, (some (.object "java/lang/StringBuilder")), (5, 1, 1024, 115), 1, [], (1, 1024))
set_option maxRecDepth 100000 in
def rJ4_append_15ec4 : List zm_R := [(0, .aload_n 0, 0, [], 0, 0, (0, 0), false, []),
  (1, .aload_n 1, 0, [], 0, 0, (0, 0), false, []),
  (2, .invokespecial 29, 6, [7, 0, 2, 3, 0, 6], 0, 0, (0, 0), false, []),
  (5, .pop, 0, [], 0, 0, (1, 1024), false, []),
  (6, .aload_n 0, 0, [], 0, 0, (1, 1024), false, []),
  (7, .areturn, 5, [], 0, 0, (1, 1024), false, [])]
def eJ4_append_15ec4 : List zm_M := [mJ5_append_cf1ce]
noncomputable def vJ4_append_15ec4 : List (zm_M × zm_S) := [(mJ5_append_cf1ce, sJ5_append_cf1ce)]
noncomputable def sJ4_append_15ec4 : zm_S := zsem vJ4_append_15ec4 rJ4_append_15ec4 2
set_option maxRecDepth 100000 in
theorem aJ4_append_15ec4 : zall RJ4 mJ4_append_15ec4 eJ4_append_15ec4 rJ4_append_15ec4 = true := by decide +kernel
set_option maxRecDepth 100000 in
theorem wJ4_append_15ec4 : ∀ w ∈ zwds RJ4 mJ4_append_15ec4 eJ4_append_15ec4 rJ4_append_15ec4, w ∈ gT := zwd_of [500, 1229, 494, 501, 43, 502] (by decide +kernel) (by decide +kernel) (z7_no (by decide +kernel))
set_option maxRecDepth 100000 in
theorem xJ4_append_15ec4 : ∀ w ∈ zwxs RJ4 mJ4_append_15ec4 eJ4_append_15ec4 rJ4_append_15ec4, zspc w = true ∧ w ∈ lw_tbl := by decide +kernel
theorem tJ4_append_15ec4 {sc : Nat × (Nat → Int32)} {l : Launch} (hlt : l.stackTraces = false) : MetA sc l mJ4_append_15ec4 (sJ4_append_15ec4) := zmet (M := mJ4_append_15ec4) (own := RJ4) (envM := eJ4_append_15ec4) hlt rfl (by decide +kernel) (by decide +kernel) rfl (fun j q hq => by
  match j, hq with
  | 0, hq => cases hq; exact tJ5_append_cf1ce hlt
  | n + 1, hq => cases hq) aJ4_append_15ec4 wJ4_append_15ec4 xJ4_append_15ec4 rfl
def mJ1_canEncode_fc78d : zm_M := (yJ1_canEncode_fc78d, cJ1_canEncode_fc78d, 1, (some .boolean), (0, 0, 0, 0), 1, [], (0, 0))
set_option maxRecDepth 100000 in
def rJ1_canEncode_fc78d : List zm_R := [(0, .iload_n 0, 0, [], 0, 0, (0, 0), false, []),
  (1, .sipush 255, 0, [], 255, 0, (0, 0), false, []),
  (4, .if_icmp .gt 7, 1, [5], 0, 0, (0, 0), false, []),
  (7, .iconst 1, 0, [], 1, 0, (0, 0), false, []),
  (8, .goto 4, 1, [6], 0, 0, (0, 0), false, []),
  (11, .iconst 0, 0, [], 0, 0, (0, 0), false, []),
  (12, .ireturn, 5, [1], 0, 0, (0, 0), false, [])]
def eJ1_canEncode_fc78d : List zm_M := []
noncomputable def vJ1_canEncode_fc78d : List (zm_M × zm_S) := []
noncomputable def sJ1_canEncode_fc78d : zm_S := zsem vJ1_canEncode_fc78d rJ1_canEncode_fc78d 1
set_option maxRecDepth 100000 in
theorem aJ1_canEncode_fc78d : zall RJ1 mJ1_canEncode_fc78d eJ1_canEncode_fc78d rJ1_canEncode_fc78d = true := by decide +kernel
set_option maxRecDepth 100000 in
theorem wJ1_canEncode_fc78d : ∀ w ∈ zwds RJ1 mJ1_canEncode_fc78d eJ1_canEncode_fc78d rJ1_canEncode_fc78d, w ∈ gT := zwd_of [] (by decide +kernel) (by decide +kernel) (z7_no (by decide +kernel))
set_option maxRecDepth 100000 in
theorem xJ1_canEncode_fc78d : ∀ w ∈ zwxs RJ1 mJ1_canEncode_fc78d eJ1_canEncode_fc78d rJ1_canEncode_fc78d, zspc w = true ∧ w ∈ lw_tbl := by decide +kernel
theorem tJ1_canEncode_fc78d {sc : Nat × (Nat → Int32)} {l : Launch} (hlt : l.stackTraces = false) : MetA sc l mJ1_canEncode_fc78d (sJ1_canEncode_fc78d) := zmet (M := mJ1_canEncode_fc78d) (own := RJ1) (envM := eJ1_canEncode_fc78d) hlt rfl (by decide +kernel) (by decide +kernel) rfl (fun j q hq => by cases hq) aJ1_canEncode_fc78d wJ1_canEncode_fc78d xJ1_canEncode_fc78d rfl
def mJ5_append_3fe6f : zm_M := (yJ5_append_3fe6f, cJ5_append_3fe6f, 2, (some (.object "java/lang/AbstractStringBuilder")), (4, 1, 1024, 93), 1, [], (1, 1024))
set_option maxRecDepth 100000 in
def rJ5_append_3fe6f : List zm_R := [(0, .aload_n 0, 0, [], 0, 0, (0, 0), false, []),
  (1, .aload_n 0, 0, [], 0, 0, (0, 0), false, []),
  (2, .getfield 79, 2, [6, 3, 4, 0], 0, 0, (0, 0), false, []),
  (5, .iconst 1, 0, [], 1, 0, (0, 0), false, []),
  (6, .iadd, 0, [], 0, 0, (0, 0), false, []),
  (7, .invokevirtual 100, 6, [8, 0, 2, 0, 0, 6], 0, 0, (0, 0), false, []),
  (10, .aload_n 0, 0, [], 0, 0, (1, 1024), false, []),
  (11, .invokevirtual 83, 6, [8, 1, 1, 1, 0, 6], 0, 0, (1, 1024), false, []),
  (14, .ifCond .eq 31, 1, [25], 0, 0, (1, 1024), false, []),
  (17, .iload_n 1, 0, [], 0, 0, (1, 1024), false, []),
  (18, .invokestatic 191, 6, [1, 2, 1, 1, 0, 0], 0, 0, (1, 1024), false, []),
  (21, .ifCond .eq 24, 1, [25], 0, 0, (1, 1024), false, []),
  (24, .aload_n 0, 0, [], 0, 0, (1, 1024), false, []),
  (25, .getfield 15, 2, [6, 0, 4, 2], 0, 0, (1, 1024), false, []),
  (28, .aload_n 0, 0, [], 0, 0, (1, 1024), false, []),
  (29, .dup, 0, [], 0, 0, (1, 1024), false, []),
  (30, .getfield 79, 2, [6, 3, 4, 0], 0, 0, (1, 1024), false, []),
  (33, .dup_x1, 0, [], 0, 0, (1, 1024), false, []),
  (34, .iconst 1, 0, [], 1, 0, (1, 1024), false, []),
  (35, .iadd, 0, [], 0, 0, (1, 1024), false, []),
  (36, .putfield 79, 2, [6, 3, 4, 0], 0, 0, (1, 1024), false, []),
  (39, .iload_n 1, 0, [], 0, 0, (1, 1024), false, []),
  (40, .i2b, 0, [], 0, 0, (1, 1024), false, []),
  (41, .bastore, 3, [2], 0, 0, (1, 1024), false, []),
  (42, .goto 33, 1, [41], 0, 0, (1, 1024), false, []),
  (45, .aload_n 0, 0, [], 0, 0, (1, 1024), false, []),
  (46, .invokevirtual 83, 6, [8, 1, 1, 1, 0, 6], 0, 0, (1, 1024), false, []),
  (49, .ifCond .eq 7, 1, [30], 0, 0, (1, 1024), false, []),
  (52, .aload_n 0, 0, [], 0, 0, (1, 1024), false, []),
  (53, .invokevirtual 195, 12, [], 0, 0, (1, 1024), false, []),
  (56, .aload_n 0, 0, [], 0, 0, (1, 1024), false, []),
  (57, .getfield 15, 2, [6, 0, 4, 2], 0, 0, (1, 1024), false, []),
  (60, .aload_n 0, 0, [], 0, 0, (1, 1024), false, []),
  (61, .dup, 0, [], 0, 0, (1, 1024), false, []),
  (62, .getfield 79, 2, [6, 3, 4, 0], 0, 0, (1, 1024), false, []),
  (65, .dup_x1, 0, [], 0, 0, (1, 1024), false, []),
  (66, .iconst 1, 0, [], 1, 0, (1, 1024), false, []),
  (67, .iadd, 0, [], 0, 0, (1, 1024), false, []),
  (68, .putfield 79, 2, [6, 3, 4, 0], 0, 0, (1, 1024), false, []),
  (71, .iload_n 1, 0, [], 0, 0, (1, 1024), false, []),
  (72, .invokestatic 197, 12, [], 0, 0, (1, 1024), false, []),
  (75, .aload_n 0, 0, [], 0, 0, (1, 1024), false, []),
  (76, .areturn, 5, [], 0, 0, (1, 1024), false, [])]
def eJ5_append_3fe6f : List zm_M := [mJ5_ensureCapacityInternal_d00df, mJ5_isLatin1_aae02, mJ1_canEncode_fc78d]
noncomputable def vJ5_append_3fe6f : List (zm_M × zm_S) := [(mJ5_ensureCapacityInternal_d00df, sJ5_ensureCapacityInternal_d00df), (mJ5_isLatin1_aae02, sJ5_isLatin1_aae02), (mJ1_canEncode_fc78d, sJ1_canEncode_fc78d)]
noncomputable def sJ5_append_3fe6f : zm_S := zsem vJ5_append_3fe6f rJ5_append_3fe6f 2
set_option maxRecDepth 100000 in
theorem aJ5_append_3fe6f : zall RJ5 mJ5_append_3fe6f eJ5_append_3fe6f rJ5_append_3fe6f = true := by decide +kernel
set_option maxRecDepth 100000 in
theorem wJ5_append_3fe6f : ∀ w ∈ zwds RJ5 mJ5_append_3fe6f eJ5_append_3fe6f rJ5_append_3fe6f, w ∈ gT := zwd_of [485, 507, 1231, 0, 509, 43, 510, 540, 542, 543, 541, 43, 544, 624, 625, 52, 626, 482, 485, 485, 540, 542, 543, 541, 43, 544, 482, 485, 485] (by decide +kernel) (by decide +kernel) (z7_no (by decide +kernel))
set_option maxRecDepth 100000 in
theorem xJ5_append_3fe6f : ∀ w ∈ zwxs RJ5 mJ5_append_3fe6f eJ5_append_3fe6f rJ5_append_3fe6f, zspc w = true ∧ w ∈ lw_tbl := by decide +kernel
theorem tJ5_append_3fe6f {sc : Nat × (Nat → Int32)} {l : Launch} (hlt : l.stackTraces = false) : MetA sc l mJ5_append_3fe6f (sJ5_append_3fe6f) := zmet (M := mJ5_append_3fe6f) (own := RJ5) (envM := eJ5_append_3fe6f) hlt rfl (by decide +kernel) (by decide +kernel) rfl (fun j q hq => by
  match j, hq with
  | 0, hq => cases hq; exact tJ5_ensureCapacityInternal_d00df hlt
  | 1, hq => cases hq; exact tJ5_isLatin1_aae02 hlt
  | 2, hq => cases hq; exact tJ1_canEncode_fc78d hlt
  | n + 3, hq => cases hq) aJ5_append_3fe6f wJ5_append_3fe6f xJ5_append_3fe6f rfl
def mJ4_append_cf468 : zm_M := (yJ4_append_cf468, cJ4_append_cf468, 2, (some (.object "java/lang/StringBuilder")), (5, 1, 1024, 114), 1, [], (1, 1024))
set_option maxRecDepth 100000 in
def rJ4_append_cf468 : List zm_R := [(0, .aload_n 0, 0, [], 0, 0, (0, 0), false, []),
  (1, .iload_n 1, 0, [], 0, 0, (0, 0), false, []),
  (2, .invokespecial 50, 6, [7, 0, 2, 3, 0, 6], 0, 0, (0, 0), false, []),
  (5, .pop, 0, [], 0, 0, (1, 1024), false, []),
  (6, .aload_n 0, 0, [], 0, 0, (1, 1024), false, []),
  (7, .areturn, 5, [], 0, 0, (1, 1024), false, [])]
def eJ4_append_cf468 : List zm_M := [mJ5_append_3fe6f]
noncomputable def vJ4_append_cf468 : List (zm_M × zm_S) := [(mJ5_append_3fe6f, sJ5_append_3fe6f)]
noncomputable def sJ4_append_cf468 : zm_S := zsem vJ4_append_cf468 rJ4_append_cf468 2
set_option maxRecDepth 100000 in
theorem aJ4_append_cf468 : zall RJ4 mJ4_append_cf468 eJ4_append_cf468 rJ4_append_cf468 = true := by decide +kernel
set_option maxRecDepth 100000 in
theorem wJ4_append_cf468 : ∀ w ∈ zwds RJ4 mJ4_append_cf468 eJ4_append_cf468 rJ4_append_cf468, w ∈ gT := zwd_of [621, 1236, 494, 622, 43, 623] (by decide +kernel) (by decide +kernel) (z7_no (by decide +kernel))
set_option maxRecDepth 100000 in
theorem xJ4_append_cf468 : ∀ w ∈ zwxs RJ4 mJ4_append_cf468 eJ4_append_cf468 rJ4_append_cf468, zspc w = true ∧ w ∈ lw_tbl := by decide +kernel
theorem tJ4_append_cf468 {sc : Nat × (Nat → Int32)} {l : Launch} (hlt : l.stackTraces = false) : MetA sc l mJ4_append_cf468 (sJ4_append_cf468) := zmet (M := mJ4_append_cf468) (own := RJ4) (envM := eJ4_append_cf468) hlt rfl (by decide +kernel) (by decide +kernel) rfl (fun j q hq => by
  match j, hq with
  | 0, hq => cases hq; exact tJ5_append_3fe6f hlt
  | n + 1, hq => cases hq) aJ4_append_cf468 wJ4_append_cf468 xJ4_append_cf468 rfl
def mJ6_stringSize_0f7a4 : zm_M := (yJ6_stringSize_0f7a4, cJ6_stringSize_0f7a4, 4, (some .int), (0, 0, 0, 0), 1, [], (0, 0))
set_option maxRecDepth 100000 in
def rJ6_stringSize_0f7a4 : List zm_R := [(0, .iconst 1, 0, [], 1, 0, (0, 0), false, []),
  (1, .istore_n 1, 0, [], 0, 0, (0, 0), false, []),
  (2, .iload_n 0, 0, [], 0, 0, (0, 0), false, []),
  (3, .ifCond .lt 8, 1, [9], 0, 0, (0, 0), false, []),
  (6, .iconst 0, 0, [], 0, 0, (0, 0), false, []),
  (7, .istore_n 1, 0, [], 0, 0, (0, 0), false, []),
  (8, .iload_n 0, 0, [], 0, 0, (0, 0), false, []),
  (9, .ineg, 0, [], 0, 0, (0, 0), false, []),
  (10, .istore_n 0, 0, [], 0, 0, (0, 0), false, []),
  (11, .bipush (-10), 0, [], (-10), 0, (0, 0), false, []),
  (13, .istore_n 2, 0, [], 0, 0, (0, 0), false, []),
  (14, .iconst 1, 0, [], 1, 0, (0, 0), false, []),
  (15, .istore_n 3, 0, [], 0, 0, (0, 0), false, []),
  (16, .iload_n 3, 0, [], 0, 0, (0, 0), true, []),
  (17, .bipush 10, 0, [], 10, 0, (0, 0), false, []),
  (19, .if_icmp .ge 23, 1, [29], 0, 0, (0, 0), false, []),
  (22, .iload_n 0, 0, [], 0, 0, (0, 0), false, []),
  (23, .iload_n 2, 0, [], 0, 0, (0, 0), false, []),
  (24, .if_icmp .le 7, 1, [23], 0, 0, (0, 0), false, []),
  (27, .iload_n 3, 0, [], 0, 0, (0, 0), false, []),
  (28, .iload_n 1, 0, [], 0, 0, (0, 0), false, []),
  (29, .iadd, 0, [], 0, 0, (0, 0), false, []),
  (30, .ireturn, 5, [0], 0, 0, (0, 0), false, []),
  (31, .bipush 10, 0, [], 10, 0, (0, 0), false, []),
  (33, .iload_n 2, 0, [], 0, 0, (0, 0), false, []),
  (34, .imul, 0, [], 0, 0, (0, 0), false, []),
  (35, .istore_n 2, 0, [], 0, 0, (0, 0), false, []),
  (36, .iinc 3 1, 0, [], 1, 0, (0, 0), false, []),
  (39, .goto (-23), 1, [13], 0, 0, (0, 0), false, []),
  (42, .bipush 10, 0, [], 10, 0, (0, 0), false, []),
  (44, .iload_n 1, 0, [], 0, 0, (0, 0), false, []),
  (45, .iadd, 0, [], 0, 0, (0, 0), false, []),
  (46, .ireturn, 5, [0], 0, 0, (0, 0), false, [])]
def eJ6_stringSize_0f7a4 : List zm_M := []
noncomputable def vJ6_stringSize_0f7a4 : List (zm_M × zm_S) := []
noncomputable def sJ6_stringSize_0f7a4 : zm_S := zsem vJ6_stringSize_0f7a4 rJ6_stringSize_0f7a4 4
set_option maxRecDepth 100000 in
theorem aJ6_stringSize_0f7a4 : zall RJ6 mJ6_stringSize_0f7a4 eJ6_stringSize_0f7a4 rJ6_stringSize_0f7a4 = true := by decide +kernel
set_option maxRecDepth 100000 in
theorem wJ6_stringSize_0f7a4 : ∀ w ∈ zwds RJ6 mJ6_stringSize_0f7a4 eJ6_stringSize_0f7a4 rJ6_stringSize_0f7a4, w ∈ gT := zwd_of [] (by decide +kernel) (by decide +kernel) (z7_no (by decide +kernel))
set_option maxRecDepth 100000 in
theorem xJ6_stringSize_0f7a4 : ∀ w ∈ zwxs RJ6 mJ6_stringSize_0f7a4 eJ6_stringSize_0f7a4 rJ6_stringSize_0f7a4, zspc w = true ∧ w ∈ lw_tbl := by decide +kernel
theorem tJ6_stringSize_0f7a4 {sc : Nat × (Nat → Int32)} {l : Launch} (hlt : l.stackTraces = false) : MetA sc l mJ6_stringSize_0f7a4 (sJ6_stringSize_0f7a4) := zmet (M := mJ6_stringSize_0f7a4) (own := RJ6) (envM := eJ6_stringSize_0f7a4) hlt rfl (by decide +kernel) (by decide +kernel) rfl (fun j q hq => by cases hq) aJ6_stringSize_0f7a4 wJ6_stringSize_0f7a4 xJ6_stringSize_0f7a4 rfl
def mJ6_getChars_ba4f3 : zm_M := (yJ6_getChars_ba4f3, cJ6_getChars_ba4f3, 7, (some .int), (0, 0, 0, 0), 3, [], (0, 0))
set_option maxRecDepth 100000 in
def rJ6_getChars_ba4f3 : List zm_R := [(0, .iload_n 1, 0, [], 0, 0, (0, 0), false, []),
  (1, .istore 5, 0, [], 0, 0, (0, 0), false, []),
  (3, .iload_n 0, 0, [], 0, 0, (0, 0), false, []),
  (4, .ifCond .ge 7, 1, [6], 0, 0, (0, 0), false, []),
  (7, .iconst 1, 0, [], 1, 0, (0, 0), false, []),
  (8, .goto 4, 1, [7], 0, 0, (0, 0), false, []),
  (11, .iconst 0, 0, [], 0, 0, (0, 0), false, []),
  (12, .istore 6, 0, [], 0, 0, (0, 0), false, []),
  (14, .iload 6, 0, [], 0, 0, (0, 0), false, []),
  (16, .ifCond .ne 6, 1, [13], 0, 0, (0, 0), false, []),
  (19, .iload_n 0, 0, [], 0, 0, (0, 0), false, []),
  (20, .ineg, 0, [], 0, 0, (0, 0), false, []),
  (21, .istore_n 0, 0, [], 0, 0, (0, 0), false, []),
  (22, .iload_n 0, 0, [], 0, 0, (0, 0), true, [1, 3, 4]),
  (23, .bipush (-100), 0, [], (-100), 0, (0, 0), false, []),
  (25, .if_icmp .gt 47, 1, [43], 0, 0, (0, 0), false, []),
  (28, .iload_n 0, 0, [], 0, 0, (0, 0), false, []),
  (29, .bipush 100, 0, [], 100, 0, (0, 0), false, []),
  (31, .idiv, 11, [], 0, 0, (0, 0), false, []),
  (32, .istore_n 3, 0, [], 0, 0, (0, 0), false, []),
  (33, .iload_n 3, 0, [], 0, 0, (0, 0), false, []),
  (34, .bipush 100, 0, [], 100, 0, (0, 0), false, []),
  (36, .imul, 0, [], 0, 0, (0, 0), false, []),
  (37, .iload_n 0, 0, [], 0, 0, (0, 0), false, []),
  (38, .isub, 0, [], 0, 0, (0, 0), false, []),
  (39, .istore 4, 0, [], 0, 0, (0, 0), false, []),
  (41, .iload_n 3, 0, [], 0, 0, (0, 0), false, []),
  (42, .istore_n 0, 0, [], 0, 0, (0, 0), false, []),
  (43, .aload_n 2, 0, [], 0, 0, (0, 0), false, []),
  (44, .iinc 5 (-1), 0, [], (-1), 0, (0, 0), false, []),
  (47, .iload 5, 0, [], 0, 0, (0, 0), false, []),
  (49, .getstatic 83, 14, [1], 0, 0, (0, 0), false, []),
  (52, .iload 4, 0, [], 0, 0, (0, 0), false, []),
  (54, .baload, 14, [22], 0, 0, (0, 0), false, []),
  (55, .bastore, 3, [2], 0, 0, (0, 0), false, []),
  (56, .aload_n 2, 0, [], 0, 0, (0, 0), false, []),
  (57, .iinc 5 (-1), 0, [], (-1), 0, (0, 0), false, []),
  (60, .iload 5, 0, [], 0, 0, (0, 0), false, []),
  (62, .getstatic 87, 14, [2], 0, 0, (0, 0), false, []),
  (65, .iload 4, 0, [], 0, 0, (0, 0), false, []),
  (67, .baload, 14, [22], 0, 0, (0, 0), false, []),
  (68, .bastore, 3, [2], 0, 0, (0, 0), false, []),
  (69, .goto (-47), 1, [13], 0, 0, (0, 0), false, []),
  (72, .aload_n 2, 0, [], 0, 0, (0, 0), false, []),
  (73, .iinc 5 (-1), 0, [], (-1), 0, (0, 0), false, []),
  (76, .iload 5, 0, [], 0, 0, (0, 0), false, []),
  (78, .getstatic 83, 14, [1], 0, 0, (0, 0), false, []),
  (81, .iload_n 0, 0, [], 0, 0, (0, 0), false, []),
  (82, .ineg, 0, [], 0, 0, (0, 0), false, []),
  (83, .baload, 14, [22], 0, 0, (0, 0), false, []),
  (84, .bastore, 3, [2], 0, 0, (0, 0), false, []),
  (85, .iload_n 0, 0, [], 0, 0, (0, 0), false, []),
  (86, .bipush (-9), 0, [], (-9), 0, (0, 0), false, []),
  (88, .if_icmp .ge 16, 1, [62], 0, 0, (0, 0), false, []),
  (91, .aload_n 2, 0, [], 0, 0, (0, 0), false, []),
  (92, .iinc 5 (-1), 0, [], (-1), 0, (0, 0), false, []),
  (95, .iload 5, 0, [], 0, 0, (0, 0), false, []),
  (97, .getstatic 87, 14, [2], 0, 0, (0, 0), false, []),
  (100, .iload_n 0, 0, [], 0, 0, (0, 0), false, []),
  (101, .ineg, 0, [], 0, 0, (0, 0), false, []),
  (102, .baload, 14, [22], 0, 0, (0, 0), false, []),
  (103, .bastore, 3, [2], 0, 0, (0, 0), false, []),
  (104, .iload 6, 0, [], 0, 0, (0, 0), false, []),
  (106, .ifCond .eq 12, 1, [69], 0, 0, (0, 0), false, []),
  (109, .aload_n 2, 0, [], 0, 0, (0, 0), false, []),
  (110, .iinc 5 (-1), 0, [], (-1), 0, (0, 0), false, []),
  (113, .iload 5, 0, [], 0, 0, (0, 0), false, []),
  (115, .bipush 45, 0, [], 45, 0, (0, 0), false, []),
  (117, .bastore, 3, [2], 0, 0, (0, 0), false, []),
  (118, .iload 5, 0, [], 0, 0, (0, 0), false, []),
  (120, .ireturn, 5, [0], 0, 0, (0, 0), false, [])]
def eJ6_getChars_ba4f3 : List zm_M := []
noncomputable def vJ6_getChars_ba4f3 : List (zm_M × zm_S) := []
noncomputable def sJ6_getChars_ba4f3 : zm_S := zsem vJ6_getChars_ba4f3 rJ6_getChars_ba4f3 7
set_option maxRecDepth 100000 in
theorem aJ6_getChars_ba4f3 : zall RJ6 mJ6_getChars_ba4f3 eJ6_getChars_ba4f3 rJ6_getChars_ba4f3 = true := by decide +kernel
set_option maxRecDepth 100000 in
theorem wJ6_getChars_ba4f3 : ∀ w ∈ zwds RJ6 mJ6_getChars_ba4f3 eJ6_getChars_ba4f3 rJ6_getChars_ba4f3, w ∈ gT := zwd_of [653, 655, 653, 655] (by decide +kernel) (by decide +kernel) (z7_no (by decide +kernel))
set_option maxRecDepth 100000 in
theorem xJ6_getChars_ba4f3 : ∀ w ∈ zwxs RJ6 mJ6_getChars_ba4f3 eJ6_getChars_ba4f3 rJ6_getChars_ba4f3, zspc w = true ∧ w ∈ lw_tbl := by decide +kernel
theorem tJ6_getChars_ba4f3 {sc : Nat × (Nat → Int32)} {l : Launch} (hlt : l.stackTraces = false) : MetA sc l mJ6_getChars_ba4f3 (sJ6_getChars_ba4f3) := zmet (M := mJ6_getChars_ba4f3) (own := RJ6) (envM := eJ6_getChars_ba4f3) hlt rfl (by decide +kernel) (by decide +kernel) rfl (fun j q hq => by cases hq) aJ6_getChars_ba4f3 wJ6_getChars_ba4f3 xJ6_getChars_ba4f3 rfl
def mJ5_append_c97b9 : zm_M := (yJ5_append_c97b9, cJ5_append_c97b9, 4, (some (.object "java/lang/AbstractStringBuilder")), (4, 1, 1024, 93), 1, [], (1, 1024))
set_option maxRecDepth 100000 in
def rJ5_append_c97b9 : List zm_R := [(0, .aload_n 0, 0, [], 0, 0, (0, 0), false, []),
  (1, .getfield 79, 2, [6, 3, 4, 0], 0, 0, (0, 0), false, []),
  (4, .istore_n 2, 0, [], 0, 0, (0, 0), false, []),
  (5, .iload_n 2, 0, [], 0, 0, (0, 0), false, []),
  (6, .iload_n 1, 0, [], 0, 0, (0, 0), false, []),
  (7, .invokestatic 245, 6, [1, 0, 1, 1, 0, 0], 0, 0, (0, 0), false, []),
  (10, .iadd, 0, [], 0, 0, (0, 0), false, []),
  (11, .istore_n 3, 0, [], 0, 0, (0, 0), false, []),
  (12, .aload_n 0, 0, [], 0, 0, (0, 0), false, []),
  (13, .iload_n 3, 0, [], 0, 0, (0, 0), false, []),
  (14, .invokevirtual 100, 6, [8, 1, 2, 0, 0, 6], 0, 0, (0, 0), false, []),
  (17, .aload_n 0, 0, [], 0, 0, (1, 1024), false, []),
  (18, .invokevirtual 83, 6, [8, 2, 1, 1, 0, 6], 0, 0, (1, 1024), false, []),
  (21, .ifCond .eq 16, 1, [21], 0, 0, (1, 1024), false, []),
  (24, .iload_n 1, 0, [], 0, 0, (1, 1024), false, []),
  (25, .iload_n 3, 0, [], 0, 0, (1, 1024), false, []),
  (26, .aload_n 0, 0, [], 0, 0, (1, 1024), false, []),
  (27, .getfield 15, 2, [6, 0, 4, 2], 0, 0, (1, 1024), false, []),
  (30, .invokestatic 248, 6, [1, 3, 3, 1, 0, 0], 0, 0, (1, 1024), false, []),
  (33, .pop, 0, [], 0, 0, (1, 1024), false, []),
  (34, .goto 14, 1, [28], 0, 0, (1, 1024), false, []),
  (37, .iload_n 1, 0, [], 0, 0, (1, 1024), false, []),
  (38, .iload_n 2, 0, [], 0, 0, (1, 1024), false, []),
  (39, .iload_n 3, 0, [], 0, 0, (1, 1024), false, []),
  (40, .aload_n 0, 0, [], 0, 0, (1, 1024), false, []),
  (41, .getfield 15, 2, [6, 0, 4, 2], 0, 0, (1, 1024), false, []),
  (44, .invokestatic 251, 12, [], 0, 0, (1, 1024), false, []),
  (47, .pop, 12, [], 0, 0, (0, 0), false, []),
  (48, .aload_n 0, 0, [], 0, 0, (1, 1024), false, []),
  (49, .iload_n 3, 0, [], 0, 0, (1, 1024), false, []),
  (50, .putfield 79, 2, [6, 3, 4, 0], 0, 0, (1, 1024), false, []),
  (53, .aload_n 0, 0, [], 0, 0, (1, 1024), false, []),
  (54, .areturn, 5, [], 0, 0, (1, 1024), false, [])]
def eJ5_append_c97b9 : List zm_M := [mJ6_stringSize_0f7a4, mJ5_ensureCapacityInternal_d00df, mJ5_isLatin1_aae02, mJ6_getChars_ba4f3]
noncomputable def vJ5_append_c97b9 : List (zm_M × zm_S) := [(mJ6_stringSize_0f7a4, sJ6_stringSize_0f7a4), (mJ5_ensureCapacityInternal_d00df, sJ5_ensureCapacityInternal_d00df), (mJ5_isLatin1_aae02, sJ5_isLatin1_aae02), (mJ6_getChars_ba4f3, sJ6_getChars_ba4f3)]
noncomputable def sJ5_append_c97b9 : zm_S := zsem vJ5_append_c97b9 rJ5_append_c97b9 4
set_option maxRecDepth 100000 in
theorem aJ5_append_c97b9 : zall RJ5 mJ5_append_c97b9 eJ5_append_c97b9 rJ5_append_c97b9 = true := by decide +kernel
set_option maxRecDepth 100000 in
theorem wJ5_append_c97b9 : ∀ w ∈ zwds RJ5 mJ5_append_c97b9 eJ5_append_c97b9 rJ5_append_c97b9, w ∈ gT := zwd_of [485, 647, 648, 54, 649, 507, 1231, 0, 509, 43, 510, 540, 542, 543, 541, 43, 544, 482, 650, 651, 54, 652, 482, 485] (by decide +kernel) (by decide +kernel) (z7_no (by decide +kernel))
set_option maxRecDepth 100000 in
theorem xJ5_append_c97b9 : ∀ w ∈ zwxs RJ5 mJ5_append_c97b9 eJ5_append_c97b9 rJ5_append_c97b9, zspc w = true ∧ w ∈ lw_tbl := by decide +kernel
theorem tJ5_append_c97b9 {sc : Nat × (Nat → Int32)} {l : Launch} (hlt : l.stackTraces = false) : MetA sc l mJ5_append_c97b9 (sJ5_append_c97b9) := zmet (M := mJ5_append_c97b9) (own := RJ5) (envM := eJ5_append_c97b9) hlt rfl (by decide +kernel) (by decide +kernel) rfl (fun j q hq => by
  match j, hq with
  | 0, hq => cases hq; exact tJ6_stringSize_0f7a4 hlt
  | 1, hq => cases hq; exact tJ5_ensureCapacityInternal_d00df hlt
  | 2, hq => cases hq; exact tJ5_isLatin1_aae02 hlt
  | 3, hq => cases hq; exact tJ6_getChars_ba4f3 hlt
  | n + 4, hq => cases hq) aJ5_append_c97b9 wJ5_append_c97b9 xJ5_append_c97b9 rfl
def mJ4_append_bf812 : zm_M := (yJ4_append_bf812, cJ4_append_bf812, 2, (some (.object "java/lang/StringBuilder")), (5, 1, 1024, 116), 1, [], (1, 1024))
set_option maxRecDepth 100000 in
def rJ4_append_bf812 : List zm_R := [(0, .aload_n 0, 0, [], 0, 0, (0, 0), false, []),
  (1, .iload_n 1, 0, [], 0, 0, (0, 0), false, []),
  (2, .invokespecial 53, 6, [7, 0, 2, 3, 0, 6], 0, 0, (0, 0), false, []),
  (5, .pop, 0, [], 0, 0, (1, 1024), false, []),
  (6, .aload_n 0, 0, [], 0, 0, (1, 1024), false, []),
  (7, .areturn, 5, [], 0, 0, (1, 1024), false, [])]
def eJ4_append_bf812 : List zm_M := [mJ5_append_c97b9]
noncomputable def vJ4_append_bf812 : List (zm_M × zm_S) := [(mJ5_append_c97b9, sJ5_append_c97b9)]
noncomputable def sJ4_append_bf812 : zm_S := zsem vJ4_append_bf812 rJ4_append_bf812 2
set_option maxRecDepth 100000 in
theorem aJ4_append_bf812 : zall RJ4 mJ4_append_bf812 eJ4_append_bf812 rJ4_append_bf812 = true := by decide +kernel
set_option maxRecDepth 100000 in
theorem wJ4_append_bf812 : ∀ w ∈ zwds RJ4 mJ4_append_bf812 eJ4_append_bf812 rJ4_append_bf812, w ∈ gT := zwd_of [644, 1237, 494, 645, 43, 646] (by decide +kernel) (by decide +kernel) (z7_no (by decide +kernel))
set_option maxRecDepth 100000 in
theorem xJ4_append_bf812 : ∀ w ∈ zwxs RJ4 mJ4_append_bf812 eJ4_append_bf812 rJ4_append_bf812, zspc w = true ∧ w ∈ lw_tbl := by decide +kernel
theorem tJ4_append_bf812 {sc : Nat × (Nat → Int32)} {l : Launch} (hlt : l.stackTraces = false) : MetA sc l mJ4_append_bf812 (sJ4_append_bf812) := zmet (M := mJ4_append_bf812) (own := RJ4) (envM := eJ4_append_bf812) hlt rfl (by decide +kernel) (by decide +kernel) rfl (fun j q hq => by
  match j, hq with
  | 0, hq => cases hq; exact tJ5_append_c97b9 hlt
  | n + 1, hq => cases hq) aJ4_append_bf812 wJ4_append_bf812 xJ4_append_bf812 rfl
