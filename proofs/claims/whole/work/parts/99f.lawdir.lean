/-! THE LAW: rounds that ask both alike (written by wip/whole/cases.py). -/
section ZLJ
variable {scr : Nat × (Nat → Int32)} {h : zm_H} {i : Nat} {N : zLv} {P : List zLv} {K : Nat → Option zLv} {xs ys : List Int32}
theorem kL_12 (H : LI h N P K xs ys) (hi : i + 6 ≤ scr.1) (hs : scr.1 ≤ 3072) : LG scr h i 12 := by
  have C := H.cp
  have M := H.mp
  have c := C.1
  have p6 : nI i + (6 : Int32) = nI (i + 6) := nI_add i 6
  have z0 : (zK h 0).1 = 11 := by rw [c.1.1]
  have F := c.2.2.1
  obtain ⟨g1, e1, q⟩ := m_exits c
  have cz := CZ_q C q
  have mm := LI_mid H cz (zFr.rf (A := fun c => c = 139 ∨ c = 140))
  have m := mm.1
  obtain ⟨g3, e3, q3, -⟩ := r_exits m
  have ms := MS2_z mm q3
  obtain ⟨L, nn⟩ := LI_fin H cz (zFr.rf (A := fun c => c = 139 ∨ c = 140)) ms H.by
  have z1 := m.1.1
  refine ⟨g3, _, _, _, _, _, ?_, L, by omega, by omega⟩
  refine Eq.trans gL_law_27_12 ?_
  simp only [p6, z0, e1, z1, e3, zmp_s, zlt_s, zcV_s, zcI_s, zcJ_s, zcA_s, zcD_s, zcF_s, zth_n, zth_t, zrt_s, zQ_l, zQ_r, false_or, or_false, true_or, or_true, false_and, and_false, not_false_eq_true, not_true_eq_false, and_self, true_and, and_true, if_true, if_false, ite_true, ite_false, zgd_t]
  rfl
theorem kL_13 (H : LI h N P K xs ys) (hi : i + 6 ≤ scr.1) (hs : scr.1 ≤ 3072) : LG scr h i 13 := by
  have C := H.cp
  have M := H.mp
  have c := C.1
  have p6 : nI i + (6 : Int32) = nI (i + 6) := nI_add i 6
  have z0 : (zK h 0).1 = 11 := by rw [c.1.1]
  have F := c.2.2.1
  obtain ⟨g1, e1, q⟩ := m_tours c
  have cz := CZ_q C q
  have mm := LI_mid H cz (zFr.rf (A := fun c => c = 139 ∨ c = 140))
  have m := mm.1
  obtain ⟨g3, e3, q3, -⟩ := r_tours m
  have ms := MS2_z mm q3
  obtain ⟨L, nn⟩ := LI_fin H cz (zFr.rf (A := fun c => c = 139 ∨ c = 140)) ms H.by
  have z1 := m.1.1
  refine ⟨g3, _, _, _, _, _, ?_, L, by omega, by omega⟩
  refine Eq.trans gL_law_27_13 ?_
  simp only [p6, z0, e1, z1, e3, lg0, zmp_s, zlt_s, zcV_s, zcI_s, zcJ_s, zcA_s, zcD_s, zcF_s, zth_n, zth_t, zrt_s, zQ_l, zQ_r, false_or, or_false, true_or, or_true, false_and, and_false, not_false_eq_true, not_true_eq_false, and_self, true_and, and_true, if_true, if_false, ite_true, ite_false, zgd_t]
  rfl
theorem kL_14 (H : LI h N P K xs ys) (hi : i + 6 ≤ scr.1) (hs : scr.1 ≤ 3072) : LG scr h i 14 := by
  have C := H.cp
  have M := H.mp
  have c := C.1
  have p6 : nI i + (6 : Int32) = nI (i + 6) := nI_add i 6
  have z0 : (zK h 0).1 = 11 := by rw [c.1.1]
  have F := c.2.2.1
  obtain ⟨g1, e1, q⟩ := m_completions c
  have cz := CZ_q C q
  have mm := LI_mid H cz (zFr.rf (A := fun c => c = 139 ∨ c = 140))
  have m := mm.1
  obtain ⟨g3, e3, q3, -⟩ := r_completions m
  have ms := MS2_z mm q3
  obtain ⟨L, nn⟩ := LI_fin H cz (zFr.rf (A := fun c => c = 139 ∨ c = 140)) ms H.by
  have z1 := m.1.1
  refine ⟨g3, _, _, _, _, _, ?_, L, by omega, by omega⟩
  refine Eq.trans gL_law_27_14 ?_
  simp only [p6, z0, e1, z1, e3, lg0, zmp_s, zlt_s, zcV_s, zcI_s, zcJ_s, zcA_s, zcD_s, zcF_s, zth_n, zth_t, zrt_s, zQ_l, zQ_r, false_or, or_false, true_or, or_true, false_and, and_false, not_false_eq_true, not_true_eq_false, and_self, true_and, and_true, if_true, if_false, ite_true, ite_false, zgd_t]
  rfl
theorem kL_16 (H : LI h N P K xs ys) (hi : i + 6 ≤ scr.1) (hs : scr.1 ≤ 3072) : LG scr h i 16 := by
  have C := H.cp
  have M := H.mp
  have c := C.1
  have p6 : nI i + (6 : Int32) = nI (i + 6) := nI_add i 6
  have z0 : (zK h 0).1 = 11 := by rw [c.1.1]
  have F := c.2.2.1
  obtain ⟨g1, e1, q⟩ := m_good c
  have cz := CZ_q C q
  have mm := LI_mid H cz (zFr.rf (A := fun c => c = 139 ∨ c = 140))
  have m := mm.1
  obtain ⟨g3, e3, q3, -⟩ := r_good m
  have ms := MS2_z mm q3
  obtain ⟨L, nn⟩ := LI_fin H cz (zFr.rf (A := fun c => c = 139 ∨ c = 140)) ms H.by
  have z1 := m.1.1
  refine ⟨g3, _, _, _, _, _, ?_, L, by omega, by omega⟩
  refine Eq.trans gL_law_27_16 ?_
  simp only [p6, z0, e1, z1, e3, zmp_s, zlt_s, zcV_s, zcI_s, zcJ_s, zcA_s, zcD_s, zcF_s, zth_n, zth_t, zrt_s, zQ_l, zQ_r, false_or, or_false, true_or, or_true, false_and, and_false, not_false_eq_true, not_true_eq_false, and_self, true_and, and_true, if_true, if_false, ite_true, ite_false, zgd_t]
  rfl
theorem kL_17 (H : LI h N P K xs ys) (hi : i + 6 ≤ scr.1) (hs : scr.1 ≤ 3072) : LG scr h i 17 := by
  have C := H.cp
  have M := H.mp
  have c := C.1
  have p6 : nI i + (6 : Int32) = nI (i + 6) := nI_add i 6
  have z0 : (zK h 0).1 = 11 := by rw [c.1.1]
  have F := c.2.2.1
  obtain ⟨g1, e1, q⟩ := m_wrong c
  have cz := CZ_q C q
  have mm := LI_mid H cz (zFr.rf (A := fun c => c = 139 ∨ c = 140))
  have m := mm.1
  obtain ⟨g3, e3, q3, -⟩ := r_wrong m
  have ms := MS2_z mm q3
  obtain ⟨L, nn⟩ := LI_fin H cz (zFr.rf (A := fun c => c = 139 ∨ c = 140)) ms H.by
  have z1 := m.1.1
  refine ⟨g3, _, _, _, _, _, ?_, L, by omega, by omega⟩
  refine Eq.trans gL_law_27_17 ?_
  simp only [p6, z0, e1, z1, e3, zmp_s, zlt_s, zcV_s, zcI_s, zcJ_s, zcA_s, zcD_s, zcF_s, zth_n, zth_t, zrt_s, zQ_l, zQ_r, false_or, or_false, true_or, or_true, false_and, and_false, not_false_eq_true, not_true_eq_false, and_self, true_and, and_true, if_true, if_false, ite_true, ite_false, zgd_t]
  rfl
theorem kL_19 (H : LI h N P K xs ys) (hi : i + 6 ≤ scr.1) (hs : scr.1 ≤ 3072) : LG scr h i 19 := by
  have C := H.cp
  have M := H.mp
  have c := C.1
  have p6 : nI i + (6 : Int32) = nI (i + 6) := nI_add i 6
  have z0 : (zK h 0).1 = 11 := by rw [c.1.1]
  have F := c.2.2.1
  obtain ⟨g1, e1, q⟩ := m_rank c
  have cz := CZ_q C q
  have mm := LI_mid H cz (zFr.rf (A := fun c => c = 139 ∨ c = 140))
  have m := mm.1
  obtain ⟨g3, e3, q3, -⟩ := r_rank m
  have ms := MS2_z mm q3
  obtain ⟨L, nn⟩ := LI_fin H cz (zFr.rf (A := fun c => c = 139 ∨ c = 140)) ms H.by
  have z1 := m.1.1
  refine ⟨g3, _, _, _, _, _, ?_, L, by omega, by omega⟩
  refine Eq.trans gL_law_27_19 ?_
  simp only [p6, z0, e1, z1, e3, lg0, zmp_s, zlt_s, zcV_s, zcI_s, zcJ_s, zcA_s, zcD_s, zcF_s, zth_n, zth_t, zrt_s, zQ_l, zQ_r, false_or, or_false, true_or, or_true, false_and, and_false, not_false_eq_true, not_true_eq_false, and_self, true_and, and_true, if_true, if_false, ite_true, ite_false, zgd_t]
  rfl
theorem kL_20 (H : LI h N P K xs ys) (hi : i + 6 ≤ scr.1) (hs : scr.1 ≤ 3072) : LG scr h i 20 := by
  have C := H.cp
  have M := H.mp
  have c := C.1
  have p6 : nI i + (6 : Int32) = nI (i + 6) := nI_add i 6
  have z0 : (zK h 0).1 = 11 := by rw [c.1.1]
  have F := c.2.2.1
  obtain ⟨g1, e1, q⟩ := m_longest c
  have cz := CZ_q C q
  have mm := LI_mid H cz (zFr.rf (A := fun c => c = 139 ∨ c = 140))
  have m := mm.1
  obtain ⟨g3, e3, q3, -⟩ := r_longest m
  have ms := MS2_z mm q3
  obtain ⟨L, nn⟩ := LI_fin H cz (zFr.rf (A := fun c => c = 139 ∨ c = 140)) ms H.by
  have z1 := m.1.1
  refine ⟨g3, _, _, _, _, _, ?_, L, by omega, by omega⟩
  refine Eq.trans gL_law_27_20 ?_
  simp only [p6, z0, e1, z1, e3, zmp_s, zlt_s, zcV_s, zcI_s, zcJ_s, zcA_s, zcD_s, zcF_s, zth_n, zth_t, zrt_s, zQ_l, zQ_r, false_or, or_false, true_or, or_true, false_and, and_false, not_false_eq_true, not_true_eq_false, and_self, true_and, and_true, if_true, if_false, ite_true, ite_false, zgd_t]
  rfl
theorem kL_21 (H : LI h N P K xs ys) (hi : i + 6 ≤ scr.1) (hs : scr.1 ≤ 3072) : LG scr h i 21 := by
  have C := H.cp
  have M := H.mp
  have c := C.1
  have p6 : nI i + (6 : Int32) = nI (i + 6) := nI_add i 6
  have z0 : (zK h 0).1 = 11 := by rw [c.1.1]
  have F := c.2.2.1
  obtain ⟨g1, e1, q⟩ := m_longestOn c
  have cz := CZ_q C q
  have mm := LI_mid H cz (zFr.rf (A := fun c => c = 139 ∨ c = 140))
  have m := mm.1
  obtain ⟨g3, e3, q3, -⟩ := r_longestOn m
  have ms := MS2_z mm q3
  obtain ⟨L, nn⟩ := LI_fin H cz (zFr.rf (A := fun c => c = 139 ∨ c = 140)) ms H.by
  have z1 := m.1.1
  refine ⟨g3, _, _, _, _, _, ?_, L, by omega, by omega⟩
  refine Eq.trans gL_law_27_21 ?_
  simp only [p6, z0, e1, z1, e3, zmp_s, zlt_s, zcV_s, zcI_s, zcJ_s, zcA_s, zcD_s, zcF_s, zth_n, zth_t, zrt_s, zQ_l, zQ_r, false_or, or_false, true_or, or_true, false_and, and_false, not_false_eq_true, not_true_eq_false, and_self, true_and, and_true, if_true, if_false, ite_true, ite_false, zgd_t]
  rfl
theorem kL_22 (H : LI h N P K xs ys) (hi : i + 6 ≤ scr.1) (hs : scr.1 ≤ 3072) : LG scr h i 22 := by
  have C := H.cp
  have M := H.mp
  have c := C.1
  have p6 : nI i + (6 : Int32) = nI (i + 6) := nI_add i 6
  have z0 : (zK h 0).1 = 11 := by rw [c.1.1]
  have F := c.2.2.1
  obtain ⟨g1, e1, q, -⟩ := m_endings c
  have cz := CZ_q C q
  have mm := LI_mid H cz (zFr.rf (A := fun c => c = 139 ∨ c = 140))
  have m := mm.1
  obtain ⟨g3, e3, q3, -⟩ := r_endings m
  have ms := MS2_z mm q3
  obtain ⟨L, nn⟩ := LI_fin H cz (zFr.rf (A := fun c => c = 139 ∨ c = 140)) ms H.by
  have z1 := m.1.1
  refine ⟨g3, _, _, _, _, _, ?_, L, by omega, by omega⟩
  refine Eq.trans gL_law_27_22 ?_
  simp only [p6, z0, e1, z1, e3, zmp_s, zlt_s, zcV_s, zcI_s, zcJ_s, zcA_s, zcD_s, zcF_s, zth_n, zth_t, zrt_s, zQ_l, zQ_r, false_or, or_false, true_or, or_true, false_and, and_false, not_false_eq_true, not_true_eq_false, and_self, true_and, and_true, if_true, if_false, ite_true, ite_false, zgd_t]
  rfl
theorem kL_23 (H : LI h N P K xs ys) (hi : i + 6 ≤ scr.1) (hs : scr.1 ≤ 3072) : LG scr h i 23 := by
  have C := H.cp
  have M := H.mp
  have c := C.1
  have p6 : nI i + (6 : Int32) = nI (i + 6) := nI_add i 6
  have z0 : (zK h 0).1 = 11 := by rw [c.1.1]
  have F := c.2.2.1
  obtain ⟨g1, e1, q⟩ := m_starts c
  have cz := CZ_q C q
  have mm := LI_mid H cz (zFr.rf (A := fun c => c = 139 ∨ c = 140))
  have m := mm.1
  obtain ⟨g3, e3, q3, -⟩ := r_starts m
  have ms := MS2_z mm q3
  obtain ⟨L, nn⟩ := LI_fin H cz (zFr.rf (A := fun c => c = 139 ∨ c = 140)) ms H.by
  have z1 := m.1.1
  refine ⟨g3, _, _, _, _, _, ?_, L, by omega, by omega⟩
  refine Eq.trans gL_law_27_23 ?_
  simp only [p6, z0, e1, z1, e3, zmp_s, zlt_s, zcV_s, zcI_s, zcJ_s, zcA_s, zcD_s, zcF_s, zth_n, zth_t, zrt_s, zQ_l, zQ_r, false_or, or_false, true_or, or_true, false_and, and_false, not_false_eq_true, not_true_eq_false, and_self, true_and, and_true, if_true, if_false, ite_true, ite_false, zgd_t]
  rfl
theorem kL_26 (H : LI h N P K xs ys) (hi : i + 6 ≤ scr.1) (hs : scr.1 ≤ 3072) : LG scr h i 26 := by
  have C := H.cp
  have M := H.mp
  have c := C.1
  have p6 : nI i + (6 : Int32) = nI (i + 6) := nI_add i 6
  have z0 : (zK h 0).1 = 11 := by rw [c.1.1]
  have F := c.2.2.1
  obtain ⟨g1, e1, q⟩ := m_reachable c
  have cz := CZ_q C q
  have mm := LI_mid H cz (zFr.rf (A := fun c => c = 139 ∨ c = 140))
  have m := mm.1
  obtain ⟨g3, e3, q3, -⟩ := r_reachable m
  have ms := MS2_z mm q3
  obtain ⟨L, nn⟩ := LI_fin H cz (zFr.rf (A := fun c => c = 139 ∨ c = 140)) ms H.by
  have z1 := m.1.1
  refine ⟨g3, _, _, _, _, _, ?_, L, by omega, by omega⟩
  refine Eq.trans gL_law_27_26 ?_
  simp only [p6, z0, e1, z1, e3, zmp_s, zlt_s, zcV_s, zcI_s, zcJ_s, zcA_s, zcD_s, zcF_s, zth_n, zth_t, zrt_s, zQ_l, zQ_r, false_or, or_false, true_or, or_true, false_and, and_false, not_false_eq_true, not_true_eq_false, and_self, true_and, and_true, if_true, if_false, ite_true, ite_false, zgd_t]
  rfl
theorem kL_28 (H : LI h N P K xs ys) (hi : i + 6 ≤ scr.1) (hs : scr.1 ≤ 3072) : LG scr h i 28 := by
  have C := H.cp
  have M := H.mp
  have c := C.1
  have p6 : nI i + (6 : Int32) = nI (i + 6) := nI_add i 6
  have z0 : (zK h 0).1 = 11 := by rw [c.1.1]
  have F := c.2.2.1
  obtain ⟨g1, e1, q⟩ := m_neededKeys c
  have cz := CZ_q C q
  have mm := LI_mid H cz (zFr.rf (A := fun c => c = 139 ∨ c = 140))
  have m := mm.1
  obtain ⟨g3, e3, q3, -⟩ := r_neededKeys m
  have ms := MS2_z mm q3
  obtain ⟨L, nn⟩ := LI_fin H cz (zFr.rf (A := fun c => c = 139 ∨ c = 140)) ms H.by
  have z1 := m.1.1
  refine ⟨g3, _, _, _, _, _, ?_, L, by omega, by omega⟩
  refine Eq.trans gL_law_27_28 ?_
  simp only [p6, z0, e1, z1, e3, zmp_s, zlt_s, zcV_s, zcI_s, zcJ_s, zcA_s, zcD_s, zcF_s, zth_n, zth_t, zrt_s, zQ_l, zQ_r, false_or, or_false, true_or, or_true, false_and, and_false, not_false_eq_true, not_true_eq_false, and_self, true_and, and_true, if_true, if_false, ite_true, ite_false, zgd_t]
  rfl
theorem kL_30 (H : LI h N P K xs ys) (hi : i + 6 ≤ scr.1) (hs : scr.1 ≤ 3072) : LG scr h i 30 := by
  have C := H.cp
  have M := H.mp
  have c := C.1
  have p6 : nI i + (6 : Int32) = nI (i + 6) := nI_add i 6
  have z0 : (zK h 0).1 = 11 := by rw [c.1.1]
  have F := c.2.2.1
  obtain ⟨g1, e1, q⟩ := m_neededDoors c
  have cz := CZ_q C q
  have mm := LI_mid H cz (zFr.rf (A := fun c => c = 139 ∨ c = 140))
  have m := mm.1
  obtain ⟨g3, e3, q3, -⟩ := r_neededDoors m
  have ms := MS2_z mm q3
  obtain ⟨L, nn⟩ := LI_fin H cz (zFr.rf (A := fun c => c = 139 ∨ c = 140)) ms H.by
  have z1 := m.1.1
  refine ⟨g3, _, _, _, _, _, ?_, L, by omega, by omega⟩
  refine Eq.trans gL_law_27_30 ?_
  simp only [p6, z0, e1, z1, e3, zmp_s, zlt_s, zcV_s, zcI_s, zcJ_s, zcA_s, zcD_s, zcF_s, zth_n, zth_t, zrt_s, zQ_l, zQ_r, false_or, or_false, true_or, or_true, false_and, and_false, not_false_eq_true, not_true_eq_false, and_self, true_and, and_true, if_true, if_false, ite_true, ite_false, zgd_t]
  rfl
theorem kL_32 (H : LI h N P K xs ys) (hi : i + 6 ≤ scr.1) (hs : scr.1 ≤ 3072) : LG scr h i 32 := by
  have C := H.cp
  have M := H.mp
  have c := C.1
  have p6 : nI i + (6 : Int32) = nI (i + 6) := nI_add i 6
  have z0 : (zK h 0).1 = 11 := by rw [c.1.1]
  have F := c.2.2.1
  obtain ⟨g1, e1, q⟩ := m_bestDoor c
  have cz := CZ_q C q
  have mm := LI_mid H cz (zFr.rf (A := fun c => c = 139 ∨ c = 140))
  have m := mm.1
  obtain ⟨g3, e3, q3, -⟩ := r_bestDoor m
  have ms := MS2_z mm q3
  obtain ⟨L, nn⟩ := LI_fin H cz (zFr.rf (A := fun c => c = 139 ∨ c = 140)) ms H.by
  have z1 := m.1.1
  obtain ⟨v, hv⟩ : ∃ v, v = eI (nBs N (N 1)).1 := ⟨_, rfl⟩
  rw [← hv] at e1 e3
  refine ⟨g3, _, _, _, _, _, ?_, L, by omega, by omega⟩
  refine Eq.trans gL_law_27_32 ?_
  simp only [p6, z0, e1, z1, e3, zmp_s, zlt_s, zcV_s, zcI_s, zcJ_s, zcA_s, zcD_s, zcF_s, zth_n, zth_t, zrt_s, zQ_l, zQ_r, false_or, or_false, true_or, or_true, false_and, and_false, not_false_eq_true, not_true_eq_false, and_self, true_and, and_true, if_true, if_false, ite_true, ite_false, zgd_t]
  rfl
theorem kL_38 (H : LI h N P K xs ys) (hi : i + 6 ≤ scr.1) (hs : scr.1 ≤ 3072) : LG scr h i 38 := by
  have C := H.cp
  have M := H.mp
  have c := C.1
  have p6 : nI i + (6 : Int32) = nI (i + 6) := nI_add i 6
  have z0 : (zK h 0).1 = 11 := by rw [c.1.1]
  have F := c.2.2.1
  obtain ⟨g1, e1, q⟩ := m_leastCoins c
  have cz := CZ_q C q
  have mm := LI_mid H cz (zFr.rf (A := fun c => c = 139 ∨ c = 140))
  have m := mm.1
  obtain ⟨g3, e3, q3, -⟩ := r_leastCoins m
  have ms := MS2_z mm q3
  obtain ⟨L, nn⟩ := LI_fin H cz (zFr.rf (A := fun c => c = 139 ∨ c = 140)) ms H.by
  have z1 := m.1.1
  obtain ⟨v, hv⟩ : ∃ v, v = eI (nLc N (N 0)) := ⟨_, rfl⟩
  rw [← hv] at e1 e3
  refine ⟨g3, _, _, _, _, _, ?_, L, by omega, by omega⟩
  refine Eq.trans gL_law_27_38 ?_
  simp only [p6, z0, e1, z1, e3, zmp_s, zlt_s, zcV_s, zcI_s, zcJ_s, zcA_s, zcD_s, zcF_s, zth_n, zth_t, zrt_s, zQ_l, zQ_r, false_or, or_false, true_or, or_true, false_and, and_false, not_false_eq_true, not_true_eq_false, and_self, true_and, and_true, if_true, if_false, ite_true, ite_false, zgd_t]
  rfl
theorem kL_39 (H : LI h N P K xs ys) (hi : i + 6 ≤ scr.1) (hs : scr.1 ≤ 3072) : LG scr h i 39 := by
  have C := H.cp
  have M := H.mp
  have c := C.1
  have p6 : nI i + (6 : Int32) = nI (i + 6) := nI_add i 6
  have z0 : (zK h 0).1 = 11 := by rw [c.1.1]
  have F := c.2.2.1
  obtain ⟨g1, e1, q⟩ := m_rounds c
  have cz := CZ_q C q
  have mm := LI_mid H cz (zFr.rf (A := fun c => c = 139 ∨ c = 140))
  have m := mm.1
  obtain ⟨g3, e3, q3, -⟩ := r_rounds m
  have ms := MS2_z mm q3
  obtain ⟨L, nn⟩ := LI_fin H cz (zFr.rf (A := fun c => c = 139 ∨ c = 140)) ms H.by
  have z1 := m.1.1
  refine ⟨g3, _, _, _, _, _, ?_, L, by omega, by omega⟩
  refine Eq.trans gL_law_27_39 ?_
  simp only [p6, z0, e1, z1, e3, lg0, zmp_s, zlt_s, zcV_s, zcI_s, zcJ_s, zcA_s, zcD_s, zcF_s, zth_n, zth_t, zrt_s, zQ_l, zQ_r, false_or, or_false, true_or, or_true, false_and, and_false, not_false_eq_true, not_true_eq_false, and_self, true_and, and_true, if_true, if_false, ite_true, ite_false, zgd_t]
  rfl
theorem kL_42 (H : LI h N P K xs ys) (hi : i + 6 ≤ scr.1) (hs : scr.1 ≤ 3072) : LG scr h i 42 := by
  have C := H.cp
  have M := H.mp
  have c := C.1
  have p6 : nI i + (6 : Int32) = nI (i + 6) := nI_add i 6
  have z0 : (zK h 0).1 = 11 := by rw [c.1.1]
  have F := c.2.2.1
  obtain ⟨g1, e1, t⟩ := m_again c C.2.1
  have cz := CZ_t C t
  have mm := LI_mid H cz (zFr.rf (A := fun c => c = 139 ∨ c = 140))
  have m := mm.1
  obtain ⟨g3, e3, q3, -⟩ := r_again m mm.2.1 t.2.2.2.1.2.2.1
  have ms := MS2_c mm q3
  obtain ⟨L, nn⟩ := LI_fin H cz (zFr.rf (A := fun c => c = 139 ∨ c = 140)) ms H.by
  have z1 := m.1.1
  refine ⟨g3, _, _, _, _, _, ?_, L, by omega, by omega⟩
  refine Eq.trans gL_law_27_42 ?_
  simp only [p6, z0, e1, z1, e3, zmp_s, zlt_s, zcV_s, zcI_s, zcJ_s, zcA_s, zcD_s, zcF_s, zth_n, zth_t, zrt_s, zQ_l, zQ_r, false_or, or_false, true_or, or_true, false_and, and_false, not_false_eq_true, not_true_eq_false, and_self, true_and, and_true, if_true, if_false, ite_true, ite_false, zgd_t]
  rfl
theorem kL_55 (H : LI h N P K xs ys) (hi : i + 6 ≤ scr.1) (hs : scr.1 ≤ 3072) : LG scr h i 55 := by
  have C := H.cp
  have M := H.mp
  have c := C.1
  have p6 : nI i + (6 : Int32) = nI (i + 6) := nI_add i 6
  have z0 : (zK h 0).1 = 11 := by rw [c.1.1]
  have F := c.2.2.1
  have e1 := m_undoCount c C.2.1
  have cz := CZ_rf C
  have mm := LI_mid H cz (zFr.rf (A := fun c => c = 139 ∨ c = 140))
  have m := mm.1
  obtain ⟨g3, e3, q3, -⟩ := r_undoCount m mm.2.1
  have ms := MS2_z mm q3
  obtain ⟨L, nn⟩ := LI_fin H cz (zFr.rf (A := fun c => c = 139 ∨ c = 140)) ms H.by
  have z1 := m.1.1
  refine ⟨g3, _, _, _, _, _, ?_, L, by omega, by omega⟩
  refine Eq.trans gL_law_27_55 ?_
  simp only [p6, z0, e1, z1, e3, zmp_s, zlt_s, zcV_s, zcI_s, zcJ_s, zcA_s, zcD_s, zcF_s, zth_n, zth_t, zrt_s, zQ_l, zQ_r, false_or, or_false, true_or, or_true, false_and, and_false, not_false_eq_true, not_true_eq_false, and_self, true_and, and_true, if_true, if_false, ite_true, ite_false, zgd_t]
  rfl
theorem kL_3 (H : LI h N P K xs ys) (hi : i + 6 ≤ scr.1) (hs : scr.1 ≤ 3072) : LG scr h i 3 := by
  have C := H.cp
  have M := H.mp
  have c := C.1
  have p6 : nI i + (6 : Int32) = nI (i + 6) := nI_add i 6
  have z0 : (zK h 0).1 = 11 := by rw [c.1.1]
  have F := c.2.2.1
  have e1 := m_errorCode c
  have e3 := r_errorCode (h := h) M.1.1
  have ms := MS2_z M (MZ.th M.1 0)
  obtain ⟨L, nn⟩ := LI_fin H (CZ_rf C) (zFr.rf (A := fun c => c = 139 ∨ c = 140)) ms H.by
  have z1 := M.1.1.1
  have er : zI h 0 10 = zI h 125 17 := H.2.2.2.2.2.2.2.2.2.2.2.1
  refine ⟨_, _, _, _, _, _, ?_, L, by omega, by omega⟩
  refine Eq.trans gL_law_27_3 ?_
  simp only [p6, z0, e1, z1, e3, er, zmp_s, zlt_s, zcV_s, zcI_s, zcJ_s, zcA_s, zcD_s, zcF_s, zth_n, zth_t, zrt_s, zQ_l, zQ_r, false_or, or_false, true_or, or_true, false_and, and_false, not_false_eq_true, not_true_eq_false, and_self, true_and, and_true, if_true, if_false, ite_true, ite_false, zgd_t]
  rfl
theorem kL_4 (H : LI h N P K xs ys) (hi : i + 6 ≤ scr.1) (hs : scr.1 ≤ 3072) : LG scr h i 4 := by
  have C := H.cp
  have M := H.mp
  have c := C.1
  have p6 : nI i + (6 : Int32) = nI (i + 6) := nI_add i 6
  have z0 : (zK h 0).1 = 11 := by rw [c.1.1]
  have F := c.2.2.1
  have e1 := m_errorPosition c
  have e3 := r_errorPosition (h := h) M.1.1
  have ms := MS2_z M (MZ.th M.1 0)
  obtain ⟨L, nn⟩ := LI_fin H (CZ_rf C) (zFr.rf (A := fun c => c = 139 ∨ c = 140)) ms H.by
  have z1 := M.1.1.1
  have er : zI h 0 11 = zI h 125 18 := H.2.2.2.2.2.2.2.2.2.2.2.2.1
  refine ⟨_, _, _, _, _, _, ?_, L, by omega, by omega⟩
  refine Eq.trans gL_law_27_4 ?_
  simp only [p6, z0, e1, z1, e3, er, zmp_s, zlt_s, zcV_s, zcI_s, zcJ_s, zcA_s, zcD_s, zcF_s, zth_n, zth_t, zrt_s, zQ_l, zQ_r, false_or, or_false, true_or, or_true, false_and, and_false, not_false_eq_true, not_true_eq_false, and_self, true_and, and_true, if_true, if_false, ite_true, ite_false, zgd_t]
  rfl
theorem kL_5 (H : LI h N P K xs ys) (hi : i + 6 ≤ scr.1) (hs : scr.1 ≤ 3072) : LG scr h i 5 := by
  have C := H.cp
  have M := H.mp
  have c := C.1
  have p6 : nI i + (6 : Int32) = nI (i + 6) := nI_add i 6
  have z0 : (zK h 0).1 = 11 := by rw [c.1.1]
  have F := c.2.2.1
  obtain ⟨g1, e1, fr, b⟩ := m_find c C.2.2.2.1
  have cz : CZ h g1 N P K [] ys := ⟨fr.mono (fun c hc => by unfold cfA; omega), by rw [fr.I (by omega)], by rw [fr.I (by omega)], c.fr fr (fun c hc => by omega), HH_fr fr (fun c h1 h2 => by omega) C.2.1, SL_fr fr (fun c h1 h2 => by omega) C.2.2.1, b, BL_fr fr (by omega) (by omega) C.2.2.2.2⟩
  have mm := LI_mid H cz (zFr.rf (A := fun c => c = 139 ∨ c = 140))
  have m := mm.1
  obtain ⟨g3, e3, q3, -⟩ := r_find m mm.2.2.2.1 H.by
  have ms := MS2_j mm q3
  obtain ⟨L, nn⟩ := LI_fin H cz (zFr.rf (A := fun c => c = 139 ∨ c = 140)) ms (fun i hi => absurd hi (Nat.not_lt_zero i))
  have z1 := m.1.1
  refine ⟨g3, _, _, _, _, _, ?_, L, by omega, by omega⟩
  refine Eq.trans gL_law_27_5 ?_
  simp only [p6, z0, e1, z1, e3, zmp_s, zlt_s, zcV_s, zcI_s, zcJ_s, zcA_s, zcD_s, zcF_s, zth_n, zth_t, zrt_s, zQ_l, zQ_r, false_or, or_false, true_or, or_true, false_and, and_false, not_false_eq_true, not_true_eq_false, and_self, true_and, and_true, if_true, if_false, ite_true, ite_false, zgd_t]
  rfl
theorem kL_56 (H : LI h N P K xs ys) (hi : i + 6 ≤ scr.1) (hs : scr.1 ≤ 3072) : LG scr h i 56 := by
  have C := H.cp
  have M := H.mp
  have c := C.1
  have p6 : nI i + (6 : Int32) = nI (i + 6) := nI_add i 6
  have z0 : (zK h 0).1 = 11 := by rw [c.1.1]
  have F := c.2.2.1
  obtain ⟨g1, e1, fr, cg, b, x0, x1⟩ := m_writeWalk c
  have cz : CZ h g1 N P K xs _ := ⟨fr.mono (fun c hc => by unfold scA at hc; unfold cfA; omega), x0, x1, cg, HH_fr fr (fun c h1 h2 hc => by unfold scA at hc; omega) C.2.1, SL_fr fr (fun c h1 h2 hc => by unfold scA at hc; omega) C.2.2.1, BL_fr fr (by unfold scA; omega) (by unfold scA; omega) C.2.2.2.1, b⟩
  have mm := LI_mid H cz (zFr.rf (A := fun c => c = 139 ∨ c = 140))
  have m := mm.1
  obtain ⟨g3, e3, q3, -⟩ := r_writeWalk m
  have ms := MS2_w mm q3
  obtain ⟨L, nn⟩ := LI_fin H cz (zFr.rf (A := fun c => c = 139 ∨ c = 140)) ms H.by
  have z1 := m.1.1
  refine ⟨g3, _, _, _, _, _, ?_, L, by omega, by omega⟩
  refine Eq.trans gL_law_27_56 ?_
  simp only [p6, z0, e1, z1, e3, zmp_s, zlt_s, zcV_s, zcI_s, zcJ_s, zcA_s, zcD_s, zcF_s, zth_n, zth_t, zrt_s, zQ_l, zQ_r, false_or, or_false, true_or, or_true, false_and, and_false, not_false_eq_true, not_true_eq_false, and_self, true_and, and_true, if_true, if_false, ite_true, ite_false, zgd_t]
  rfl
end ZLJ
