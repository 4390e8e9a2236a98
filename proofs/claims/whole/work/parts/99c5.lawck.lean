/-! THE LAW'S ROWS CHECKED (written by wip/whole/law.py). -/
set_option maxRecDepth 100000 in
theorem aL_law_36 : (List.range' 1440 40).all ckL_law = true := by decide +kernel
set_option maxRecDepth 100000 in
theorem wL_law_36 : ∀ w ∈ zwds RL mL_law eL_law rL_law_36, w ∈ gT := zwd_of [1148, 1149, 113, 1150, 1900, 1901, 1902, 119, 1903, 1212, 1213, 1214, 119, 1215] (by decide +kernel) (by decide +kernel) (z7_no (by decide +kernel))
set_option maxRecDepth 100000 in
theorem xL_law_36 : ∀ w ∈ zwxs RL mL_law eL_law rL_law_36, zspc w = true ∧ w ∈ lw_tbl := by decide +kernel
