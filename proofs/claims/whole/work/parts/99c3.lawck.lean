/-! THE LAW'S ROWS CHECKED (written by wip/whole/law.py). -/
set_option maxRecDepth 100000 in
theorem aL_law_18 : (List.range' 720 40).all ckL_law = true := by decide +kernel
set_option maxRecDepth 100000 in
theorem wL_law_18 : ∀ w ∈ zwds RL mL_law eL_law rL_law_18, w ∈ gT := zwd_of [1010, 1011, 113, 1012, 1787, 1788, 1789, 119, 1790, 1212, 1213, 1214, 119, 1215, 778, 779, 780, 114, 781, 1795, 1796, 1797, 119, 1798] (by decide +kernel) (by decide +kernel) (z7_no (by decide +kernel))
set_option maxRecDepth 100000 in
theorem xL_law_18 : ∀ w ∈ zwxs RL mL_law eL_law rL_law_18, zspc w = true ∧ w ∈ lw_tbl := by decide +kernel
set_option maxRecDepth 100000 in
theorem aL_law_19 : (List.range' 760 40).all ckL_law = true := by decide +kernel
set_option maxRecDepth 100000 in
theorem wL_law_19 : ∀ w ∈ zwds RL mL_law eL_law rL_law_19, w ∈ gT := zwd_of [1014, 1015, 113, 1016, 1802, 1803, 1804, 119, 1805, 1212, 1213, 1214, 119, 1215] (by decide +kernel) (by decide +kernel) (z7_no (by decide +kernel))
set_option maxRecDepth 100000 in
theorem xL_law_19 : ∀ w ∈ zwxs RL mL_law eL_law rL_law_19, zspc w = true ∧ w ∈ lw_tbl := by decide +kernel
set_option maxRecDepth 100000 in
theorem aL_law_20 : (List.range' 800 40).all ckL_law = true := by decide +kernel
set_option maxRecDepth 100000 in
theorem wL_law_20 : ∀ w ∈ zwds RL mL_law eL_law rL_law_20, w ∈ gT := zwd_of [1030, 1031, 113, 1032, 1810, 1811, 1812, 119, 1813, 1212, 1213, 1214, 119, 1215] (by decide +kernel) (by decide +kernel) (z7_no (by decide +kernel))
set_option maxRecDepth 100000 in
theorem xL_law_20 : ∀ w ∈ zwxs RL mL_law eL_law rL_law_20, zspc w = true ∧ w ∈ lw_tbl := by decide +kernel
set_option maxRecDepth 100000 in
theorem aL_law_21 : (List.range' 840 40).all ckL_law = true := by decide +kernel
set_option maxRecDepth 100000 in
theorem wL_law_21 : ∀ w ∈ zwds RL mL_law eL_law rL_law_21, w ∈ gT := zwd_of [1038, 1039, 113, 1040, 1818, 1819, 1820, 119, 1821, 1212, 1213, 1214, 119, 1215] (by decide +kernel) (by decide +kernel) (z7_no (by decide +kernel))
set_option maxRecDepth 100000 in
theorem xL_law_21 : ∀ w ∈ zwxs RL mL_law eL_law rL_law_21, zspc w = true ∧ w ∈ lw_tbl := by decide +kernel
set_option maxRecDepth 100000 in
theorem aL_law_22 : (List.range' 880 40).all ckL_law = true := by decide +kernel
set_option maxRecDepth 100000 in
theorem wL_law_22 : ∀ w ∈ zwds RL mL_law eL_law rL_law_22, w ∈ gT := zwd_of [1049, 1050, 113, 1051, 1822, 1823, 1824, 119, 1825, 1212, 1213, 1214, 119, 1215] (by decide +kernel) (by decide +kernel) (z7_no (by decide +kernel))
set_option maxRecDepth 100000 in
theorem xL_law_22 : ∀ w ∈ zwxs RL mL_law eL_law rL_law_22, zspc w = true ∧ w ∈ lw_tbl := by decide +kernel
set_option maxRecDepth 100000 in
theorem aL_law_23 : (List.range' 920 40).all ckL_law = true := by decide +kernel
set_option maxRecDepth 100000 in
theorem wL_law_23 : ∀ w ∈ zwds RL mL_law eL_law rL_law_23, w ∈ gT := zwd_of [787, 788, 789, 114, 790, 1826, 1827, 1828, 119, 1829] (by decide +kernel) (by decide +kernel) (z7_no (by decide +kernel))
set_option maxRecDepth 100000 in
theorem xL_law_23 : ∀ w ∈ zwxs RL mL_law eL_law rL_law_23, zspc w = true ∧ w ∈ lw_tbl := by decide +kernel
set_option maxRecDepth 100000 in
theorem aL_law_24 : (List.range' 960 40).all ckL_law = true := by decide +kernel
set_option maxRecDepth 100000 in
theorem wL_law_24 : ∀ w ∈ zwds RL mL_law eL_law rL_law_24, w ∈ gT := zwd_of [791, 792, 793, 114, 794, 1830, 1831, 1832, 119, 1833, 798, 799, 800, 114, 801, 1834, 1835, 1836, 119, 1837, 1057, 1058, 113, 1059, 1838, 1839, 1840, 119, 1841] (by decide +kernel) (by decide +kernel) (z7_no (by decide +kernel))
set_option maxRecDepth 100000 in
theorem xL_law_24 : ∀ w ∈ zwxs RL mL_law eL_law rL_law_24, zspc w = true ∧ w ∈ lw_tbl := by decide +kernel
set_option maxRecDepth 100000 in
theorem aL_law_25 : (List.range' 1000 40).all ckL_law = true := by decide +kernel
set_option maxRecDepth 100000 in
theorem wL_law_25 : ∀ w ∈ zwds RL mL_law eL_law rL_law_25, w ∈ gT := zwd_of [1212, 1213, 1214, 119, 1215, 1070, 1071, 113, 1072, 1842, 1843, 1844, 119, 1845, 1212, 1213, 1214, 119, 1215] (by decide +kernel) (by decide +kernel) (z7_no (by decide +kernel))
set_option maxRecDepth 100000 in
theorem xL_law_25 : ∀ w ∈ zwxs RL mL_law eL_law rL_law_25, zspc w = true ∧ w ∈ lw_tbl := by decide +kernel
set_option maxRecDepth 100000 in
theorem aL_law_26 : (List.range' 1040 40).all ckL_law = true := by decide +kernel
set_option maxRecDepth 100000 in
theorem wL_law_26 : ∀ w ∈ zwds RL mL_law eL_law rL_law_26, w ∈ gT := zwd_of [803, 804, 805, 114, 806, 1846, 1847, 1848, 119, 1849, 1078, 1079, 113, 1080, 1850, 1851, 1852, 119, 1853, 1212, 1213, 1214, 119, 1215] (by decide +kernel) (by decide +kernel) (z7_no (by decide +kernel))
set_option maxRecDepth 100000 in
theorem xL_law_26 : ∀ w ∈ zwxs RL mL_law eL_law rL_law_26, zspc w = true ∧ w ∈ lw_tbl := by decide +kernel
