/-! THE LAW'S ROWS CHECKED (written by wip/whole/law.py). -/
set_option maxRecDepth 100000 in
theorem aL_law_36 : (List.range' 1440 40).all ckL_law = true := by decide +kernel
set_option maxRecDepth 100000 in
theorem wL_law_36 : ∀ w ∈ zwds RL mL_law eL_law rL_law_36, w ∈ gT := zwd_of [1148, 1149, 113, 1150, 1900, 1901, 1902, 119, 1903, 1212, 1213, 1214, 119, 1215] (by decide +kernel) (by decide +kernel) (z7_no (by decide +kernel))
set_option maxRecDepth 100000 in
theorem xL_law_36 : ∀ w ∈ zwxs RL mL_law eL_law rL_law_36, zspc w = true ∧ w ∈ lw_tbl := by decide +kernel
set_option maxRecDepth 100000 in
theorem aL_law_37 : (List.range' 1480 40).all ckL_law = true := by decide +kernel
set_option maxRecDepth 100000 in
theorem wL_law_37 : ∀ w ∈ zwds RL mL_law eL_law rL_law_37, w ∈ gT := zwd_of [1155, 1156, 113, 1157, 1904, 1905, 1906, 119, 1907, 1212, 1213, 1214, 119, 1215, 1166, 1167, 113, 1168] (by decide +kernel) (by decide +kernel) (z7_no (by decide +kernel))
set_option maxRecDepth 100000 in
theorem xL_law_37 : ∀ w ∈ zwxs RL mL_law eL_law rL_law_37, zspc w = true ∧ w ∈ lw_tbl := by decide +kernel
set_option maxRecDepth 100000 in
theorem aL_law_38 : (List.range' 1520 40).all ckL_law = true := by decide +kernel
set_option maxRecDepth 100000 in
theorem wL_law_38 : ∀ w ∈ zwds RL mL_law eL_law rL_law_38, w ∈ gT := zwd_of [1911, 1912, 1913, 119, 1914, 1212, 1213, 1214, 119, 1215, 1174, 1175, 113, 1176, 1915, 1916, 1917, 119, 1918, 1212, 1213, 1214, 119, 1215] (by decide +kernel) (by decide +kernel) (z7_no (by decide +kernel))
set_option maxRecDepth 100000 in
theorem xL_law_38 : ∀ w ∈ zwxs RL mL_law eL_law rL_law_38, zspc w = true ∧ w ∈ lw_tbl := by decide +kernel
set_option maxRecDepth 100000 in
theorem aL_law_39 : (List.range' 1560 40).all ckL_law = true := by decide +kernel
set_option maxRecDepth 100000 in
theorem wL_law_39 : ∀ w ∈ zwds RL mL_law eL_law rL_law_39, w ∈ gT := zwd_of [807, 808, 809, 114, 810, 1919, 1920, 1921, 119, 1922, 811, 812, 813, 114, 814, 1923, 1924, 1925, 119, 1926] (by decide +kernel) (by decide +kernel) (z7_no (by decide +kernel))
set_option maxRecDepth 100000 in
theorem xL_law_39 : ∀ w ∈ zwxs RL mL_law eL_law rL_law_39, zspc w = true ∧ w ∈ lw_tbl := by decide +kernel
set_option maxRecDepth 100000 in
theorem aL_law_40 : (List.range' 1600 40).all ckL_law = true := by decide +kernel
set_option maxRecDepth 100000 in
theorem wL_law_40 : ∀ w ∈ zwds RL mL_law eL_law rL_law_40, w ∈ gT := zwd_of [1955, 1186, 1187, 113, 1188, 1955, 1939, 1940, 1941, 119, 1942, 1212, 1213, 1214, 119, 1215] (by decide +kernel) (by decide +kernel) (z7_no (by decide +kernel))
set_option maxRecDepth 100000 in
theorem xL_law_40 : ∀ w ∈ zwxs RL mL_law eL_law rL_law_40, zspc w = true ∧ w ∈ lw_tbl := by decide +kernel
set_option maxRecDepth 100000 in
theorem aL_law_41 : (List.range' 1640 40).all ckL_law = true := by decide +kernel
set_option maxRecDepth 100000 in
theorem wL_law_41 : ∀ w ∈ zwds RL mL_law eL_law rL_law_41, w ∈ gT := zwd_of [1193, 1194, 113, 1195, 1943, 1944, 1945, 119, 1946, 1212, 1213, 1214, 119, 1215] (by decide +kernel) (by decide +kernel) (z7_no (by decide +kernel))
set_option maxRecDepth 100000 in
theorem xL_law_41 : ∀ w ∈ zwxs RL mL_law eL_law rL_law_41, zspc w = true ∧ w ∈ lw_tbl := by decide +kernel
set_option maxRecDepth 100000 in
theorem aL_law_42 : (List.range' 1680 40).all ckL_law = true := by decide +kernel
set_option maxRecDepth 100000 in
theorem wL_law_42 : ∀ w ∈ zwds RL mL_law eL_law rL_law_42, w ∈ gT := zwd_of [1204, 1205, 113, 1206, 1951, 1952, 1953, 119, 1954, 1212, 1213, 1214, 119, 1215] (by decide +kernel) (by decide +kernel) (z7_no (by decide +kernel))
set_option maxRecDepth 100000 in
theorem xL_law_42 : ∀ w ∈ zwxs RL mL_law eL_law rL_law_42, zspc w = true ∧ w ∈ lw_tbl := by decide +kernel
