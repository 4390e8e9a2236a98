/-! THE LAW'S ROWS CHECKED (written by wip/whole/law.py). -/
set_option maxRecDepth 100000 in
theorem aL_law_27 : (List.range' 1080 40).all ckL_law = true := by decide +kernel
set_option maxRecDepth 100000 in
theorem wL_law_27 : ∀ w ∈ zwds RL mL_law eL_law rL_law_27, w ∈ gT := zwd_of [1955, 1086, 1087, 113, 1088] (by decide +kernel) (by decide +kernel) (z7_no (by decide +kernel))
set_option maxRecDepth 100000 in
theorem xL_law_27 : ∀ w ∈ zwxs RL mL_law eL_law rL_law_27, zspc w = true ∧ w ∈ lw_tbl := by decide +kernel
set_option maxRecDepth 100000 in
theorem aL_law_28 : (List.range' 1120 40).all ckL_law = true := by decide +kernel
set_option maxRecDepth 100000 in
theorem wL_law_28 : ∀ w ∈ zwds RL mL_law eL_law rL_law_28, w ∈ gT := zwd_of [1955, 1862, 1863, 1864, 119, 1865, 1212, 1213, 1214, 119, 1215] (by decide +kernel) (by decide +kernel) (z7_no (by decide +kernel))
set_option maxRecDepth 100000 in
theorem xL_law_28 : ∀ w ∈ zwxs RL mL_law eL_law rL_law_28, zspc w = true ∧ w ∈ lw_tbl := by decide +kernel
set_option maxRecDepth 100000 in
theorem aL_law_29 : (List.range' 1160 40).all ckL_law = true := by decide +kernel
set_option maxRecDepth 100000 in
theorem wL_law_29 : ∀ w ∈ zwds RL mL_law eL_law rL_law_29, w ∈ gT := zwd_of [1094, 1095, 113, 1096, 1866, 1867, 1868, 119, 1869, 1212, 1213, 1214, 119, 1215] (by decide +kernel) (by decide +kernel) (z7_no (by decide +kernel))
set_option maxRecDepth 100000 in
theorem xL_law_29 : ∀ w ∈ zwxs RL mL_law eL_law rL_law_29, zspc w = true ∧ w ∈ lw_tbl := by decide +kernel
set_option maxRecDepth 100000 in
theorem aL_law_30 : (List.range' 1200 40).all ckL_law = true := by decide +kernel
set_option maxRecDepth 100000 in
theorem wL_law_30 : ∀ w ∈ zwds RL mL_law eL_law rL_law_30, w ∈ gT := zwd_of [1106, 1107, 113, 1108, 1874, 1875, 1876, 119, 1877, 1212, 1213, 1214, 119, 1215] (by decide +kernel) (by decide +kernel) (z7_no (by decide +kernel))
set_option maxRecDepth 100000 in
theorem xL_law_30 : ∀ w ∈ zwxs RL mL_law eL_law rL_law_30, zspc w = true ∧ w ∈ lw_tbl := by decide +kernel
set_option maxRecDepth 100000 in
theorem aL_law_31 : (List.range' 1240 40).all ckL_law = true := by decide +kernel
set_option maxRecDepth 100000 in
theorem wL_law_31 : ∀ w ∈ zwds RL mL_law eL_law rL_law_31, w ∈ gT := zwd_of [1114, 1115, 113, 1116] (by decide +kernel) (by decide +kernel) (z7_no (by decide +kernel))
set_option maxRecDepth 100000 in
theorem xL_law_31 : ∀ w ∈ zwxs RL mL_law eL_law rL_law_31, zspc w = true ∧ w ∈ lw_tbl := by decide +kernel
set_option maxRecDepth 100000 in
theorem aL_law_32 : (List.range' 1280 40).all ckL_law = true := by decide +kernel
set_option maxRecDepth 100000 in
theorem wL_law_32 : ∀ w ∈ zwds RL mL_law eL_law rL_law_32, w ∈ gT := zwd_of [1879, 1880, 1881, 119, 1882, 1212, 1213, 1214, 119, 1215] (by decide +kernel) (by decide +kernel) (z7_no (by decide +kernel))
set_option maxRecDepth 100000 in
theorem xL_law_32 : ∀ w ∈ zwxs RL mL_law eL_law rL_law_32, zspc w = true ∧ w ∈ lw_tbl := by decide +kernel
set_option maxRecDepth 100000 in
theorem aL_law_33 : (List.range' 1320 40).all ckL_law = true := by decide +kernel
set_option maxRecDepth 100000 in
theorem wL_law_33 : ∀ w ∈ zwds RL mL_law eL_law rL_law_33, w ∈ gT := zwd_of [1124, 1125, 113, 1126, 1888, 1889, 1890, 119, 1891, 1212, 1213, 1214, 119, 1215] (by decide +kernel) (by decide +kernel) (z7_no (by decide +kernel))
set_option maxRecDepth 100000 in
theorem xL_law_33 : ∀ w ∈ zwxs RL mL_law eL_law rL_law_33, zspc w = true ∧ w ∈ lw_tbl := by decide +kernel
set_option maxRecDepth 100000 in
theorem aL_law_34 : (List.range' 1360 40).all ckL_law = true := by decide +kernel
set_option maxRecDepth 100000 in
theorem wL_law_34 : ∀ w ∈ zwds RL mL_law eL_law rL_law_34, w ∈ gT := zwd_of [1133, 1134, 113, 1135, 1892, 1893, 1894, 119, 1895, 1212, 1213, 1214, 119, 1215] (by decide +kernel) (by decide +kernel) (z7_no (by decide +kernel))
set_option maxRecDepth 100000 in
theorem xL_law_34 : ∀ w ∈ zwxs RL mL_law eL_law rL_law_34, zspc w = true ∧ w ∈ lw_tbl := by decide +kernel
set_option maxRecDepth 100000 in
theorem aL_law_35 : (List.range' 1400 40).all ckL_law = true := by decide +kernel
set_option maxRecDepth 100000 in
theorem wL_law_35 : ∀ w ∈ zwds RL mL_law eL_law rL_law_35, w ∈ gT := zwd_of [1140, 1141, 113, 1142, 1896, 1897, 1898, 119, 1899, 1212, 1213, 1214, 119, 1215] (by decide +kernel) (by decide +kernel) (z7_no (by decide +kernel))
set_option maxRecDepth 100000 in
theorem xL_law_35 : ∀ w ∈ zwxs RL mL_law eL_law rL_law_35, zspc w = true ∧ w ∈ lw_tbl := by decide +kernel
