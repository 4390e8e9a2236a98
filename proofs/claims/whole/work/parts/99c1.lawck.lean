/-! THE LAW'S ROWS CHECKED (written by wip/whole/law.py). -/
set_option maxRecDepth 100000 in
theorem aL_law_0 : (List.range' 0 40).all ckL_law = true := by decide +kernel
set_option maxRecDepth 100000 in
theorem wL_law_0 : ∀ w ∈ zwds RL mL_law eL_law rL_law_0, w ∈ gT := zwd_of [136, 137, 114, 138, 139, 114, 140, 1216, 1217, 119, 1218, 1219, 119, 1220, 235, 1956] (by decide +kernel) (by decide +kernel) (z7_no (by decide +kernel))
set_option maxRecDepth 100000 in
theorem xL_law_0 : ∀ w ∈ zwxs RL mL_law eL_law rL_law_0, zspc w = true ∧ w ∈ lw_tbl := by decide +kernel
set_option maxRecDepth 100000 in
theorem aL_law_1 : (List.range' 40 40).all ckL_law = true := by decide +kernel
set_option maxRecDepth 100000 in
theorem wL_law_1 : ∀ w ∈ zwds RL mL_law eL_law rL_law_1, w ∈ gT := zwd_of [828, 829, 113, 830] (by decide +kernel) (by decide +kernel) (z7_no (by decide +kernel))
set_option maxRecDepth 100000 in
theorem xL_law_1 : ∀ w ∈ zwxs RL mL_law eL_law rL_law_1, zspc w = true ∧ w ∈ lw_tbl := by decide +kernel
set_option maxRecDepth 100000 in
theorem aL_law_2 : (List.range' 80 40).all ckL_law = true := by decide +kernel
set_option maxRecDepth 100000 in
theorem wL_law_2 : ∀ w ∈ zwds RL mL_law eL_law rL_law_2, w ∈ gT := zwd_of [1308, 1309, 1310, 119, 1311, 1212, 1213, 1214, 119, 1215, 856, 857, 113, 858, 1324, 1325, 1326, 119, 1327, 1212, 1213, 1214, 119, 1215] (by decide +kernel) (by decide +kernel) (z7_no (by decide +kernel))
set_option maxRecDepth 100000 in
theorem xL_law_2 : ∀ w ∈ zwxs RL mL_law eL_law rL_law_2, zspc w = true ∧ w ∈ lw_tbl := by decide +kernel
set_option maxRecDepth 100000 in
theorem aL_law_3 : (List.range' 120 40).all ckL_law = true := by decide +kernel
set_option maxRecDepth 100000 in
theorem wL_law_3 : ∀ w ∈ zwds RL mL_law eL_law rL_law_3, w ∈ gT := zwd_of [323, 324, 325, 114, 326, 1331, 1332, 1333, 119, 1334, 502, 503, 504, 114, 505, 1507, 1508, 1509, 119, 1510, 506, 507, 508, 114, 509, 1511, 1512, 1513, 119, 1514, 510, 511, 512, 114, 513, 1515, 1516, 1517, 119, 1518] (by decide +kernel) (by decide +kernel) (z7_no (by decide +kernel))
set_option maxRecDepth 100000 in
theorem xL_law_3 : ∀ w ∈ zwxs RL mL_law eL_law rL_law_3, zspc w = true ∧ w ∈ lw_tbl := by decide +kernel
set_option maxRecDepth 100000 in
theorem aL_law_4 : (List.range' 160 40).all ckL_law = true := by decide +kernel
set_option maxRecDepth 100000 in
theorem wL_law_4 : ∀ w ∈ zwds RL mL_law eL_law rL_law_4, w ∈ gT := zwd_of [880, 881, 113, 882, 1520, 1521, 1522, 119, 1523, 1212, 1213, 1214, 119, 1215] (by decide +kernel) (by decide +kernel) (z7_no (by decide +kernel))
set_option maxRecDepth 100000 in
theorem xL_law_4 : ∀ w ∈ zwxs RL mL_law eL_law rL_law_4, zspc w = true ∧ w ∈ lw_tbl := by decide +kernel
set_option maxRecDepth 100000 in
theorem aL_law_5 : (List.range' 200 40).all ckL_law = true := by decide +kernel
set_option maxRecDepth 100000 in
theorem wL_law_5 : ∀ w ∈ zwds RL mL_law eL_law rL_law_5, w ∈ gT := zwd_of [889, 890, 113, 891, 1545, 1546, 1547, 119, 1548, 1212, 1213, 1214, 119, 1215] (by decide +kernel) (by decide +kernel) (z7_no (by decide +kernel))
set_option maxRecDepth 100000 in
theorem xL_law_5 : ∀ w ∈ zwxs RL mL_law eL_law rL_law_5, zspc w = true ∧ w ∈ lw_tbl := by decide +kernel
set_option maxRecDepth 100000 in
theorem aL_law_6 : (List.range' 240 40).all ckL_law = true := by decide +kernel
set_option maxRecDepth 100000 in
theorem wL_law_6 : ∀ w ∈ zwds RL mL_law eL_law rL_law_6, w ∈ gT := zwd_of [909, 910, 113, 911, 1570, 1571, 1572, 119, 1573, 1212, 1213, 1214, 119, 1215] (by decide +kernel) (by decide +kernel) (z7_no (by decide +kernel))
set_option maxRecDepth 100000 in
theorem xL_law_6 : ∀ w ∈ zwxs RL mL_law eL_law rL_law_6, zspc w = true ∧ w ∈ lw_tbl := by decide +kernel
set_option maxRecDepth 100000 in
theorem aL_law_7 : (List.range' 280 40).all ckL_law = true := by decide +kernel
set_option maxRecDepth 100000 in
theorem wL_law_7 : ∀ w ∈ zwds RL mL_law eL_law rL_law_7, w ∈ gT := zwd_of [920, 921, 113, 922, 1587, 1588, 1589, 119, 1590, 1212, 1213, 1214, 119, 1215] (by decide +kernel) (by decide +kernel) (z7_no (by decide +kernel))
set_option maxRecDepth 100000 in
theorem xL_law_7 : ∀ w ∈ zwxs RL mL_law eL_law rL_law_7, zspc w = true ∧ w ∈ lw_tbl := by decide +kernel
set_option maxRecDepth 100000 in
theorem aL_law_8 : (List.range' 320 40).all ckL_law = true := by decide +kernel
set_option maxRecDepth 100000 in
theorem wL_law_8 : ∀ w ∈ zwds RL mL_law eL_law rL_law_8, w ∈ gT := zwd_of [944, 945, 113, 946, 1591, 1592, 1593, 119, 1594, 1212, 1213, 1214, 119, 1215, 951, 952, 113, 953] (by decide +kernel) (by decide +kernel) (z7_no (by decide +kernel))
set_option maxRecDepth 100000 in
theorem xL_law_8 : ∀ w ∈ zwxs RL mL_law eL_law rL_law_8, zspc w = true ∧ w ∈ lw_tbl := by decide +kernel
