/-! ROWS: the bytecode of the methods as the abstract machine runs it, and their contracts (written by wip/p63/emit.py). -/
def mL_law : zm_M := (yL_law, cL_law, 6, (some .boolean), (19, 319, 256895, 441), 1, [], (320, 256901))
set_option maxRecDepth 100000 in
def rL_law : List zm_R := [(0, .new 25, 4, [5, 12], 0, 0, (0, 0), false, []),
  (3, .dup, 0, [], 0, 0, (1, 12), false, []),
  (4, .invokespecial 238, 6, [2, 0, 1, 0, 0, 5], 0, 0, (1, 12), false, []),
  (7, .astore_n 1, 0, [], 0, 0, (136, 72549), false, []),
  (8, .aload_n 1, 0, [], 0, 0, (136, 72549), false, []),
  (9, .aload_n 0, 0, [], 0, 0, (136, 72549), false, []),
  (10, .invokestatic 239, 6, [1, 1, 2, 1, 1, 0], 0, 0, (136, 72549), false, []),
  (13, .ifCond .eq 17, 1, [14], 0, 0, (318, 256889), false, []),
  (16, .aload_n 1, 0, [], 0, 0, (318, 256889), false, []),
  (17, .invokestatic 242, 6, [1, 2, 1, 1, 1, 0], 0, 0, (318, 256889), false, []),
  (20, .ifCond .eq 10, 1, [14], 0, 0, (318, 256889), false, []),
  (23, .aload_n 1, 0, [], 0, 0, (318, 256889), false, []),
  (24, .invokestatic 246, 6, [1, 3, 1, 1, 1, 0], 0, 0, (318, 256889), false, []),
  (27, .ifCond .ne 5, 1, [16], 0, 0, (318, 256889), false, []),
  (30, .iconst 0, 0, [], 0, 0, (318, 256889), false, []),
  (31, .ireturn, 5, [1], 0, 0, (318, 256889), false, []),
  (32, .bipush 90, 0, [], 90, 0, (318, 256889), false, []),
  (34, .istore_n 2, 0, [], 0, 0, (318, 256889), false, []),
  (35, .iload_n 2, 0, [], 0, 0, (318, 256889), true, [3, 4, 5]),
  (36, .iconst 2, 0, [], 2, 0, (318, 256889), false, []),
  (37, .iadd, 0, [], 0, 0, (318, 256889), false, []),
  (38, .sipush 200, 0, [], 200, 0, (318, 256889), false, []),
  (41, .if_icmp .ge 103, 1, [77], 0, 0, (318, 256889), false, []),
  (44, .aload_n 1, 0, [], 0, 0, (318, 256889), false, []),
  (45, .aload_n 0, 0, [], 0, 0, (318, 256889), false, []),
  (46, .iload_n 2, 0, [], 0, 0, (318, 256889), false, []),
  (47, .invokestatic 249, 6, [1, 4, 3, 2, 1, 0], 0, 0, (318, 256889), false, []),
  (50, .lstore_n 3, 0, [], 0, 0, (319, 256895), false, []),
  (51, .aload_n 1, 0, [], 0, 0, (319, 256895), false, []),
  (52, .invokestatic 242, 6, [1, 2, 1, 1, 1, 0], 0, 0, (319, 256895), false, []),
  (55, .ifCond .eq 16, 1, [38], 0, 0, (319, 256895), false, []),
  (58, .iload_n 2, 0, [], 0, 0, (319, 256895), false, []),
  (59, .iconst 2, 0, [], 2, 0, (319, 256895), false, []),
  (60, .irem, 11, [], 0, 0, (319, 256895), false, []),
  (61, .ifCond .ne 12, 1, [40], 0, 0, (319, 256895), false, []),
  (64, .aload_n 1, 0, [], 0, 0, (319, 256895), false, []),
  (65, .invokestatic 246, 6, [1, 3, 1, 1, 1, 0], 0, 0, (319, 256895), false, []),
  (68, .ifCond .ne 5, 1, [40], 0, 0, (319, 256895), false, []),
  (71, .iconst 0, 0, [], 0, 0, (319, 256895), false, []),
  (72, .ireturn, 5, [1], 0, 0, (319, 256895), false, []),
  (73, .aload_n 1, 0, [], 0, 0, (319, 256895), false, []),
  (74, .invokevirtual 213, 6, [0, 5, 1, 2, 0, 5], 0, 0, (319, 256895), false, []),
  (77, .lconst 0, 0, [], 0, 0, (319, 256895), false, []),
  (78, .lcmp, 0, [], 0, 0, (319, 256895), false, []),
  (79, .ifCond .eq 59, 1, [75], 0, 0, (319, 256895), false, []),
  (82, .iload_n 2, 0, [], 0, 0, (319, 256895), false, []),
  (83, .bipush 9, 0, [], 9, 0, (319, 256895), false, []),
  (85, .irem, 11, [], 0, 0, (319, 256895), false, []),
  (86, .ifCond .eq 6, 1, [50], 0, 0, (319, 256895), false, []),
  (89, .goto 49, 1, [75], 0, 0, (319, 256895), false, []),
  (92, .aload_n 1, 0, [], 0, 0, (319, 256895), false, []),
  (93, .invokevirtual 105, 6, [0, 6, 1, 1, 1, 5], 0, 0, (319, 256895), false, []),
  (96, .istore 5, 0, [], 0, 0, (319, 256895), false, []),
  (98, .aload_n 1, 0, [], 0, 0, (319, 256895), false, []),
  (99, .iconst 4, 0, [], 4, 0, (319, 256895), false, []),
  (100, .invokevirtual 93, 6, [0, 7, 2, 1, 1, 5], 0, 0, (319, 256895), false, []),
  (103, .aload_n 1, 0, [], 0, 0, (319, 256895), false, []),
  (104, .iconst 0, 0, [], 0, 0, (319, 256895), false, []),
  (105, .invokevirtual 93, 6, [0, 7, 2, 1, 1, 5], 0, 0, (319, 256895), false, []),
  (108, .if_icmp .ne 28, 1, [73], 0, 0, (319, 256895), false, []),
  (111, .aload_n 1, 0, [], 0, 0, (319, 256895), false, []),
  (112, .invokevirtual 253, 6, [0, 8, 1, 2, 0, 5], 0, 0, (319, 256895), false, []),
  (115, .lconst 0, 0, [], 0, 0, (319, 256895), false, []),
  (116, .lcmp, 0, [], 0, 0, (319, 256895), false, []),
  (117, .ifCond .lt 19, 1, [73], 0, 0, (319, 256895), false, []),
  (120, .aload_n 1, 0, [], 0, 0, (319, 256895), false, []),
  (121, .invokevirtual 213, 6, [0, 5, 1, 2, 0, 5], 0, 0, (319, 256895), false, []),
  (124, .lconst 1, 0, [], 0, 1, (319, 256895), false, []),
  (125, .lcmp, 0, [], 0, 0, (319, 256895), false, []),
  (126, .ifCond .ne 10, 1, [73], 0, 0, (319, 256895), false, []),
  (129, .aload_n 1, 0, [], 0, 0, (319, 256895), false, []),
  (130, .invokevirtual 256, 6, [0, 9, 1, 1, 1, 5], 0, 0, (319, 256895), false, []),
  (133, .ifCond .ge 5, 1, [75], 0, 0, (319, 256895), false, []),
  (136, .iconst 0, 0, [], 0, 0, (319, 256895), false, []),
  (137, .ireturn, 5, [1], 0, 0, (319, 256895), false, []),
  (138, .iinc 2 3, 0, [], 3, 0, (319, 256895), false, []),
  (141, .goto (-106), 1, [79], 0, 0, (319, 256895), false, []),
  (144, .iconst 1, 0, [], 1, 0, (318, 256889), false, []),
  (145, .ireturn, 5, [1], 0, 0, (318, 256889), false, []),
  (35, .iload_n 2, 12, [], 0, 0, (319, 256895), true, [3, 4, 5])]
def eL_law : List zm_M := [mX5_init, mL_load, mL_stands, mL_sums, mL_act, mX5_completions, mX5_complete, mX5_property, mX5_rank, mX5_undo]
noncomputable def vL_law (sc : Nat × (Nat → Int32)) : List (zm_M × zm_S) := [(mX5_init, sX5_init), (mL_load, sL_load sc), (mL_stands, sL_stands), (mL_sums, sL_sums), (mL_act, sL_act sc), (mX5_completions, sX5_completions), (mX5_complete, sX5_complete), (mX5_property, sX5_property), (mX5_rank, sX5_rank), (mX5_undo, sX5_undo)]
def jL_law (i : Nat) : Option Nat := if i = 79 then some 18 else  none
set_option maxRecDepth 100000 in
theorem aL_law : zall RL mL_law eL_law rL_law = true := by decide +kernel
theorem zwds_cut {own : String} {M : zm_M} {envM : List zm_M} {rows : List zm_R} {P : Cond → Prop} (k : Nat) (h1 : ∀ w ∈ zwds own M envM (rows.take k), P w) (h2 : ∀ w ∈ zwds own M envM (rows.drop k), P w) : ∀ w ∈ zwds own M envM rows, P w := by
  intro w hw
  unfold zwds at h1 h2 hw
  rw [← List.take_append_drop k rows, List.flatMap_append, List.mem_append] at hw
  exact hw.elim (h1 w) (h2 w)
set_option maxRecDepth 100000 in
theorem wL_law_0 : ∀ w ∈ zwds RL mL_law eL_law ((rL_law.drop 0).take 4), w ∈ gT := zwd_of [63, 64, 38, 65, 66, 38, 67] (by decide +kernel) (by decide +kernel) (z7_no (by decide +kernel))
set_option maxRecDepth 100000 in
theorem wL_law_1 : ∀ w ∈ zwds RL mL_law eL_law ((rL_law.drop 4).take 4), w ∈ gT := zwd_of [457, 458, 37, 459] (by decide +kernel) (by decide +kernel) (z7_no (by decide +kernel))
set_option maxRecDepth 100000 in
theorem wL_law_2 : ∀ w ∈ zwds RL mL_law eL_law ((rL_law.drop 8).take 3), w ∈ gT := zwd_of [1102, 1103, 37, 1104] (by decide +kernel) (by decide +kernel) (z7_no (by decide +kernel))
set_option maxRecDepth 100000 in
theorem wL_law_3 : ∀ w ∈ zwds RL mL_law eL_law ((rL_law.drop 11).take 4), w ∈ gT := zwd_of [1167, 1168, 37, 1169] (by decide +kernel) (by decide +kernel) (z7_no (by decide +kernel))
set_option maxRecDepth 100000 in
theorem wL_law_4 : ∀ w ∈ zwds RL mL_law eL_law ((rL_law.drop 15).take 13), w ∈ gT := zwd_of [946, 947, 37, 948] (by decide +kernel) (by decide +kernel) (z7_no (by decide +kernel))
set_option maxRecDepth 100000 in
theorem wL_law_5 : ∀ w ∈ zwds RL mL_law eL_law ((rL_law.drop 28).take 6), w ∈ gT := zwd_of [1102, 1103, 37, 1104] (by decide +kernel) (by decide +kernel) (z7_no (by decide +kernel))
set_option maxRecDepth 100000 in
theorem wL_law_6 : ∀ w ∈ zwds RL mL_law eL_law ((rL_law.drop 34).take 6), w ∈ gT := zwd_of [1167, 1168, 37, 1169] (by decide +kernel) (by decide +kernel) (z7_no (by decide +kernel))
set_option maxRecDepth 100000 in
theorem wL_law_7 : ∀ w ∈ zwds RL mL_law eL_law ((rL_law.drop 40).take 40), w ∈ gT := zwd_of [340, 341, 342, 38, 343, 409, 410, 411, 38, 412, 248, 249, 250, 38, 251, 248, 249, 250, 38, 251, 398, 399, 400, 38, 401, 340, 341, 342, 38, 343, 448, 449, 450, 38, 451] (by decide +kernel) (by decide +kernel) (z7_no (by decide +kernel))
theorem zwds_go {own : String} {M : zm_M} {envM : List zm_M} {rows : List zm_R} {P : Cond → Prop} (a k : Nat) (h1 : ∀ w ∈ zwds own M envM ((rows.drop a).take k), P w) (h2 : ∀ w ∈ zwds own M envM (rows.drop (a + k)), P w) : ∀ w ∈ zwds own M envM (rows.drop a), P w := zwds_cut k h1 (by rw [List.drop_drop]; exact h2)
set_option maxRecDepth 100000 in
theorem wL_law : ∀ w ∈ zwds RL mL_law eL_law rL_law, w ∈ gT := (zwds_go 0 4 wL_law_0 (zwds_go 4 4 wL_law_1 (zwds_go 8 3 wL_law_2 (zwds_go 11 4 wL_law_3 (zwds_go 15 13 wL_law_4 (zwds_go 28 6 wL_law_5 (zwds_go 34 6 wL_law_6 (zwds_go 40 40 wL_law_7 (show ∀ w ∈ zwds RL mL_law eL_law (rL_law.drop 80), w ∈ gT from fun w h => absurd (show w ∈ ([] : List Cond) from h) List.not_mem_nil)))))))))
set_option maxRecDepth 100000 in
theorem xL_law : ∀ w ∈ zwxs RL mL_law eL_law rL_law, zspc w = true ∧ w ∈ lw_tbl := by decide +kernel
