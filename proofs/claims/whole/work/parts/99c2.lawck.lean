/-! THE LAW'S ROWS CHECKED (written by wip/whole/law.py). -/
set_option maxRecDepth 100000 in
theorem aL_law_9 : (List.range' 360 40).all ckL_law = true := by decide +kernel
set_option maxRecDepth 100000 in
theorem wL_law_9 : ∀ w ∈ zwds RL mL_law eL_law rL_law_9, w ∈ gT := zwd_of [1599, 1600, 1601, 119, 1602, 1212, 1213, 1214, 119, 1215, 519, 520, 521, 114, 522, 1611, 1612, 1613, 119, 1614, 551, 552, 553, 114, 554, 1619, 1620, 1621, 119, 1622, 597, 598, 599, 114, 600] (by decide +kernel) (by decide +kernel) (z7_no (by decide +kernel))
set_option maxRecDepth 100000 in
theorem xL_law_9 : ∀ w ∈ zwxs RL mL_law eL_law rL_law_9, zspc w = true ∧ w ∈ lw_tbl := by decide +kernel
set_option maxRecDepth 100000 in
theorem aL_law_10 : (List.range' 400 40).all ckL_law = true := by decide +kernel
set_option maxRecDepth 100000 in
theorem wL_law_10 : ∀ w ∈ zwds RL mL_law eL_law rL_law_10, w ∈ gT := zwd_of [1655, 1656, 1657, 119, 1658, 962, 963, 113, 964, 1663, 1664, 1665, 119, 1666, 1212, 1213, 1214, 119, 1215] (by decide +kernel) (by decide +kernel) (z7_no (by decide +kernel))
set_option maxRecDepth 100000 in
theorem xL_law_10 : ∀ w ∈ zwxs RL mL_law eL_law rL_law_10, zspc w = true ∧ w ∈ lw_tbl := by decide +kernel
set_option maxRecDepth 100000 in
theorem aL_law_11 : (List.range' 440 40).all ckL_law = true := by decide +kernel
set_option maxRecDepth 100000 in
theorem wL_law_11 : ∀ w ∈ zwds RL mL_law eL_law rL_law_11, w ∈ gT := zwd_of [601, 602, 603, 114, 604, 1667, 1668, 1669, 119, 1670, 684, 685, 686, 114, 687, 1671, 1672, 1673, 119, 1674, 1955, 966, 967, 113, 968] (by decide +kernel) (by decide +kernel) (z7_no (by decide +kernel))
set_option maxRecDepth 100000 in
theorem xL_law_11 : ∀ w ∈ zwxs RL mL_law eL_law rL_law_11, zspc w = true ∧ w ∈ lw_tbl := by decide +kernel
set_option maxRecDepth 100000 in
theorem aL_law_12 : (List.range' 480 40).all ckL_law = true := by decide +kernel
set_option maxRecDepth 100000 in
theorem wL_law_12 : ∀ w ∈ zwds RL mL_law eL_law rL_law_12, w ∈ gT := zwd_of [1955, 1675, 1676, 1677, 119, 1678, 1212, 1213, 1214, 119, 1215] (by decide +kernel) (by decide +kernel) (z7_no (by decide +kernel))
set_option maxRecDepth 100000 in
theorem xL_law_12 : ∀ w ∈ zwxs RL mL_law eL_law rL_law_12, zspc w = true ∧ w ∈ lw_tbl := by decide +kernel
set_option maxRecDepth 100000 in
theorem aL_law_13 : (List.range' 520 40).all ckL_law = true := by decide +kernel
set_option maxRecDepth 100000 in
theorem wL_law_13 : ∀ w ∈ zwds RL mL_law eL_law rL_law_13, w ∈ gT := zwd_of [688, 689, 690, 114, 691, 1691, 1692, 1693, 119, 1694, 699, 700, 701, 114, 702, 1700, 1701, 1702, 119, 1703, 716, 717, 718, 114, 719, 1711, 1712, 1713, 119, 1714, 720, 721, 722, 114, 723, 1715, 1716, 1717, 119, 1718, 724, 725, 726, 114, 727, 1731, 1732, 1733, 119, 1734] (by decide +kernel) (by decide +kernel) (z7_no (by decide +kernel))
set_option maxRecDepth 100000 in
theorem xL_law_13 : ∀ w ∈ zwxs RL mL_law eL_law rL_law_13, zspc w = true ∧ w ∈ lw_tbl := by decide +kernel
set_option maxRecDepth 100000 in
theorem aL_law_14 : (List.range' 560 40).all ckL_law = true := by decide +kernel
set_option maxRecDepth 100000 in
theorem wL_law_14 : ∀ w ∈ zwds RL mL_law eL_law rL_law_14, w ∈ gT := zwd_of [991, 992, 113, 993, 1735, 1736, 1737, 119, 1738, 1212, 1213, 1214, 119, 1215] (by decide +kernel) (by decide +kernel) (z7_no (by decide +kernel))
set_option maxRecDepth 100000 in
theorem xL_law_14 : ∀ w ∈ zwxs RL mL_law eL_law rL_law_14, zspc w = true ∧ w ∈ lw_tbl := by decide +kernel
set_option maxRecDepth 100000 in
theorem aL_law_15 : (List.range' 600 40).all ckL_law = true := by decide +kernel
set_option maxRecDepth 100000 in
theorem wL_law_15 : ∀ w ∈ zwds RL mL_law eL_law rL_law_15, w ∈ gT := zwd_of [995, 996, 113, 997, 1739, 1740, 1741, 119, 1742, 1212, 1213, 1214, 119, 1215, 744, 745, 746, 114, 747, 1743, 1744, 1745, 119, 1746] (by decide +kernel) (by decide +kernel) (z7_no (by decide +kernel))
set_option maxRecDepth 100000 in
theorem xL_law_15 : ∀ w ∈ zwxs RL mL_law eL_law rL_law_15, zspc w = true ∧ w ∈ lw_tbl := by decide +kernel
set_option maxRecDepth 100000 in
theorem aL_law_16 : (List.range' 640 40).all ckL_law = true := by decide +kernel
set_option maxRecDepth 100000 in
theorem wL_law_16 : ∀ w ∈ zwds RL mL_law eL_law rL_law_16, w ∈ gT := zwd_of [1002, 1003, 113, 1004, 1751, 1752, 1753, 119, 1754, 1212, 1213, 1214, 119, 1215, 748, 749, 750, 114, 751, 1767, 1768, 1769, 119, 1770] (by decide +kernel) (by decide +kernel) (z7_no (by decide +kernel))
set_option maxRecDepth 100000 in
theorem xL_law_16 : ∀ w ∈ zwxs RL mL_law eL_law rL_law_16, zspc w = true ∧ w ∈ lw_tbl := by decide +kernel
set_option maxRecDepth 100000 in
theorem aL_law_17 : (List.range' 680 40).all ckL_law = true := by decide +kernel
set_option maxRecDepth 100000 in
theorem wL_law_17 : ∀ w ∈ zwds RL mL_law eL_law rL_law_17, w ∈ gT := zwd_of [1006, 1007, 113, 1008, 1771, 1772, 1773, 119, 1774, 1212, 1213, 1214, 119, 1215, 761, 762, 763, 114, 764, 1783, 1784, 1785, 119, 1786] (by decide +kernel) (by decide +kernel) (z7_no (by decide +kernel))
set_option maxRecDepth 100000 in
theorem xL_law_17 : ∀ w ∈ zwxs RL mL_law eL_law rL_law_17, zspc w = true ∧ w ∈ lw_tbl := by decide +kernel
