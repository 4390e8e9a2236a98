/-! THE LAW: rounds with one index (written by wip/whole/cases.py). -/
section ZLK
variable {scr : Nat × (Nat → Int32)} {h : zm_H} {i : Nat} {N : zLv} {P : List zLv} {K : Nat → Option zLv} {xs ys : List Int32}
theorem i20 : ((2 : Int32) = 0) = False := eq_false (by decide)
theorem i30 : ((3 : Int32) = 0) = False := eq_false (by decide)
theorem kL_9 (H : LI h N P K xs ys) (hi : i + 6 ≤ scr.1) (hs : scr.1 ≤ 3072) : LG scr h i 9 := by
  have C := H.cp
  have M := H.mp
  have c := C.1
  have p6 : nI i + (6 : Int32) = nI (i + 6) := nI_add i 6
  have z0 : (zK h 0).1 = 11 := by rw [c.1.1]
  have F := c.2.2.1
  obtain ⟨n1, c1, l1⟩ := sidx hi hs 1 (by omega)
  have n1 : ((nI i + (1 : Int32)) < 0) = False := n1
  have c1 : (nI i + (1 : Int32)).toNatClampNeg = i + 1 := c1
  have l1 := l1 (by omega)
  rcases i_split (show N 4 < 2 ^ 31 by have := F.1.2.2.1; omega) (scr.2 (i + 1)) with ⟨r, hr, ea⟩ | hx
  · have e1 := m_walked c hr
    obtain ⟨g1, hg1⟩ : ∃ g1, g1 = h := ⟨_, rfl⟩
    have cz : CZ h g1 N P K xs ys := by rw [hg1]; exact CZ_rf C
    have e1 : sX5_walked [.ref 0, .int (nI r)] h = some (.inl (some (.int (nI (nwk N r)))), g1) := by rw [hg1]; exact e1
    have k39 : zK g1 139 = (1, 1) := by rw [cz.1.K]; exact H.2.2.2.2.2.2.2.2.2.2.2.2.2.2.1
    obtain ⟨g2, hg2⟩ : ∃ g2, g2 = zsJ g1 139 0 ((nI (nwk N r))).toInt64 := ⟨_, rfl⟩
    have w1 : sL_walked [.ref 0, .int (nI r), .ref 139] h = some (.inl (some (.int 0)), g2) := by
      refine zsem_eq (Nat.le_of_ble_eq_true rfl) (zTo_of (gL_walked_n e1) ?_)
      simp only [z0, k39, c_0, p_0, show ¬ 1 ≤ 0 by omega, ← hg2, zmp_s, zlt_s, zcV_s, zcI_s, zcJ_s, zcA_s, zcD_s, zcF_s, zth_n, zth_t, zrt_s, zQ_l, zQ_r, false_or, or_false, true_or, or_true, false_and, and_false, not_false_eq_true, not_true_eq_false, and_self, true_and, and_true, if_true, if_false, ite_true, ite_false, zgd_t]
    have o : zFr (fun c => c = 139 ∨ c = 140) g1 g2 := by rw [hg2]; exact zFr.sJ (Or.inl rfl)
    have mm := LI_mid H cz o
    have m := mm.1
    obtain ⟨g3, e3, q3, th⟩ := r_walked m hr
    have ms := MS2_z mm q3
    have tw := r_thrown ms.2.2.1.1
    rw [th] at tw
    obtain ⟨L, nn⟩ := LI_fin H cz o ms H.by
    have z1 := m.1.1
    have z3 := ms.2.2.1.1.1
    have j3 : zJ g3 139 0 = ((nI (nwk N r))).toInt64 := by rw [ms.1.J (by unfold mfA; omega), hg2, J_sJs, zput_self]
    have q3 : zK g3 139 = (1, 1) := L.2.2.2.2.2.2.2.2.2.2.2.2.2.2.1
    refine ⟨g3, _, _, _, _, _, ?_, L, by omega, by omega⟩
    refine Eq.trans gL_law_27_9 ?_
    simp only [p6, n1, c1, l1, ea, w1, z1, e3, z3, tw, q3, c_0, p_0, show ¬ 1 ≤ 0 by omega, j3, lg0, zmp_s, zlt_s, zcV_s, zcI_s, zcJ_s, zcA_s, zcD_s, zcF_s, zth_n, zth_t, zrt_s, zQ_l, zQ_r, false_or, or_false, true_or, or_true, false_and, and_false, not_false_eq_true, not_true_eq_false, and_self, true_and, and_true, if_true, if_false, ite_true, ite_false, zgd_t]
    rfl
  · have e1 := m_walkedX c hx
    obtain ⟨g1, hg1⟩ : ∃ g1, g1 = h := ⟨_, rfl⟩
    have cz : CZ h g1 N P K xs ys := by rw [hg1]; exact CZ_rf C
    have e1 : sX5_walked [.ref 0, .int (scr.2 (i + 1))] h = some (.inr 3, g1) := by rw [hg1]; exact e1
    have w1 : sL_walked [.ref 0, .int (scr.2 (i + 1)), .ref 139] h = some (.inl (some (.int 1)), g1) := by
      refine zsem_eq (Nat.le_of_ble_eq_true rfl) (zTo_of (gL_walked_t3 e1) ?_)
      simp only [z0, zmp_s, zlt_s, zcV_s, zcI_s, zcJ_s, zcA_s, zcD_s, zcF_s, zth_n, zth_t, zrt_s, zQ_l, zQ_r, false_or, or_false, true_or, or_true, false_and, and_false, not_false_eq_true, not_true_eq_false, and_self, true_and, and_true, if_true, if_false, ite_true, ite_false, zgd_t]
    have o := zFr.rf (h := g1) (A := fun c => c = 139 ∨ c = 140)
    have mm := LI_mid H cz o
    have m := mm.1
    obtain ⟨g3, e3, q3, th⟩ := r_walkedX m hx
    have ms := MS2_z mm q3
    have tw := r_thrown ms.2.2.1.1
    rw [th] at tw
    obtain ⟨L, nn⟩ := LI_fin H cz o ms H.by
    have z1 := m.1.1
    have z3 := ms.2.2.1.1.1
    refine ⟨g3, _, _, _, _, _, ?_, L, by omega, by omega⟩
    refine Eq.trans gL_law_27_9 ?_
    simp only [p6, n1, c1, l1, w1, z1, e3, z3, tw, i10, i20, i30, zmp_s, zlt_s, zcV_s, zcI_s, zcJ_s, zcA_s, zcD_s, zcF_s, zth_n, zth_t, zrt_s, zQ_l, zQ_r, false_or, or_false, true_or, or_true, false_and, and_false, not_false_eq_true, not_true_eq_false, and_self, true_and, and_true, if_true, if_false, ite_true, ite_false, zgd_t]
    rfl
theorem kL_10 (H : LI h N P K xs ys) (hi : i + 6 ≤ scr.1) (hs : scr.1 ≤ 3072) : LG scr h i 10 := by
  have C := H.cp
  have M := H.mp
  have c := C.1
  have p6 : nI i + (6 : Int32) = nI (i + 6) := nI_add i 6
  have z0 : (zK h 0).1 = 11 := by rw [c.1.1]
  have F := c.2.2.1
  obtain ⟨n1, c1, l1⟩ := sidx hi hs 1 (by omega)
  have n1 : ((nI i + (1 : Int32)) < 0) = False := n1
  have c1 : (nI i + (1 : Int32)).toNatClampNeg = i + 1 := c1
  have l1 := l1 (by omega)
  rcases i_split (show 8 < 2 ^ 31 by omega) (scr.2 (i + 1)) with ⟨r, hr, ea⟩ | hx
  · have e1 := m_foundAt c hr
    obtain ⟨g1, hg1⟩ : ∃ g1, g1 = h := ⟨_, rfl⟩
    have cz : CZ h g1 N P K xs ys := by rw [hg1]; exact CZ_rf C
    have e1 : sX5_foundAt [.ref 0, .int (nI r)] h = some (.inl (some (.int (oI (nFo N r)))), g1) := by rw [hg1]; exact e1
    have k39 : zK g1 139 = (1, 1) := by rw [cz.1.K]; exact H.2.2.2.2.2.2.2.2.2.2.2.2.2.2.1
    obtain ⟨g2, hg2⟩ : ∃ g2, g2 = zsJ g1 139 0 ((oI (nFo N r))).toInt64 := ⟨_, rfl⟩
    have w1 : sL_foundAt [.ref 0, .int (nI r), .ref 139] h = some (.inl (some (.int 0)), g2) := by
      refine zsem_eq (Nat.le_of_ble_eq_true rfl) (zTo_of (gL_foundAt_n e1) ?_)
      simp only [z0, k39, c_0, p_0, show ¬ 1 ≤ 0 by omega, ← hg2, zmp_s, zlt_s, zcV_s, zcI_s, zcJ_s, zcA_s, zcD_s, zcF_s, zth_n, zth_t, zrt_s, zQ_l, zQ_r, false_or, or_false, true_or, or_true, false_and, and_false, not_false_eq_true, not_true_eq_false, and_self, true_and, and_true, if_true, if_false, ite_true, ite_false, zgd_t]
    have o : zFr (fun c => c = 139 ∨ c = 140) g1 g2 := by rw [hg2]; exact zFr.sJ (Or.inl rfl)
    have mm := LI_mid H cz o
    have m := mm.1
    obtain ⟨g3, e3, q3, th⟩ := r_foundAt m hr
    have ms := MS2_z mm q3
    have tw := r_thrown ms.2.2.1.1
    rw [th] at tw
    obtain ⟨L, nn⟩ := LI_fin H cz o ms H.by
    have z1 := m.1.1
    have z3 := ms.2.2.1.1.1
    have j3 : zJ g3 139 0 = ((oI (nFo N r))).toInt64 := by rw [ms.1.J (by unfold mfA; omega), hg2, J_sJs, zput_self]
    have q3 : zK g3 139 = (1, 1) := L.2.2.2.2.2.2.2.2.2.2.2.2.2.2.1
    refine ⟨g3, _, _, _, _, _, ?_, L, by omega, by omega⟩
    refine Eq.trans gL_law_27_10 ?_
    simp only [p6, n1, c1, l1, ea, w1, z1, e3, z3, tw, q3, c_0, p_0, show ¬ 1 ≤ 0 by omega, j3, lg0, zmp_s, zlt_s, zcV_s, zcI_s, zcJ_s, zcA_s, zcD_s, zcF_s, zth_n, zth_t, zrt_s, zQ_l, zQ_r, false_or, or_false, true_or, or_true, false_and, and_false, not_false_eq_true, not_true_eq_false, and_self, true_and, and_true, if_true, if_false, ite_true, ite_false, zgd_t]
    rfl
  · have e1 := m_foundAtX (h := h) hx
    obtain ⟨g1, hg1⟩ : ∃ g1, g1 = h := ⟨_, rfl⟩
    have cz : CZ h g1 N P K xs ys := by rw [hg1]; exact CZ_rf C
    have e1 : sX5_foundAt [.ref 0, .int (scr.2 (i + 1))] h = some (.inr 2, g1) := by rw [hg1]; exact e1
    have w1 : sL_foundAt [.ref 0, .int (scr.2 (i + 1)), .ref 139] h = some (.inl (some (.int 1)), g1) := by
      refine zsem_eq (Nat.le_of_ble_eq_true rfl) (zTo_of (gL_foundAt_t2 e1) ?_)
      simp only [z0, zmp_s, zlt_s, zcV_s, zcI_s, zcJ_s, zcA_s, zcD_s, zcF_s, zth_n, zth_t, zrt_s, zQ_l, zQ_r, false_or, or_false, true_or, or_true, false_and, and_false, not_false_eq_true, not_true_eq_false, and_self, true_and, and_true, if_true, if_false, ite_true, ite_false, zgd_t]
    have o := zFr.rf (h := g1) (A := fun c => c = 139 ∨ c = 140)
    have mm := LI_mid H cz o
    have m := mm.1
    obtain ⟨g3, e3, q3, th⟩ := r_foundAtX m hx
    have ms := MS2_z mm q3
    have tw := r_thrown ms.2.2.1.1
    rw [th] at tw
    obtain ⟨L, nn⟩ := LI_fin H cz o ms H.by
    have z1 := m.1.1
    have z3 := ms.2.2.1.1.1
    refine ⟨g3, _, _, _, _, _, ?_, L, by omega, by omega⟩
    refine Eq.trans gL_law_27_10 ?_
    simp only [p6, n1, c1, l1, w1, z1, e3, z3, tw, i10, i20, i30, zmp_s, zlt_s, zcV_s, zcI_s, zcJ_s, zcA_s, zcD_s, zcF_s, zth_n, zth_t, zrt_s, zQ_l, zQ_r, false_or, or_false, true_or, or_true, false_and, and_false, not_false_eq_true, not_true_eq_false, and_self, true_and, and_true, if_true, if_false, ite_true, ite_false, zgd_t]
    rfl
theorem kL_11 (H : LI h N P K xs ys) (hi : i + 6 ≤ scr.1) (hs : scr.1 ≤ 3072) : LG scr h i 11 := by
  have C := H.cp
  have M := H.mp
  have c := C.1
  have p6 : nI i + (6 : Int32) = nI (i + 6) := nI_add i 6
  have z0 : (zK h 0).1 = 11 := by rw [c.1.1]
  have F := c.2.2.1
  obtain ⟨n1, c1, l1⟩ := sidx hi hs 1 (by omega)
  have n1 : ((nI i + (1 : Int32)) < 0) = False := n1
  have c1 : (nI i + (1 : Int32)).toNatClampNeg = i + 1 := c1
  have l1 := l1 (by omega)
  rcases i_split (show N 0 < 2 ^ 31 by have := F.1.1; omega) (scr.2 (i + 1)) with ⟨r, hr, ea⟩ | hx
  · have e1 := m_why c hr
    obtain ⟨g1, hg1⟩ : ∃ g1, g1 = h := ⟨_, rfl⟩
    have cz : CZ h g1 N P K xs ys := by rw [hg1]; exact CZ_rf C
    have e1 : sX5_why [.ref 0, .int (nI r)] h = some (.inl (some (.int (nI (nWhy N r)))), g1) := by rw [hg1]; exact e1
    have k39 : zK g1 139 = (1, 1) := by rw [cz.1.K]; exact H.2.2.2.2.2.2.2.2.2.2.2.2.2.2.1
    obtain ⟨g2, hg2⟩ : ∃ g2, g2 = zsJ g1 139 0 ((nI (nWhy N r))).toInt64 := ⟨_, rfl⟩
    have w1 : sL_why [.ref 0, .int (nI r), .ref 139] h = some (.inl (some (.int 0)), g2) := by
      refine zsem_eq (Nat.le_of_ble_eq_true rfl) (zTo_of (gL_why_n e1) ?_)
      simp only [z0, k39, c_0, p_0, show ¬ 1 ≤ 0 by omega, ← hg2, zmp_s, zlt_s, zcV_s, zcI_s, zcJ_s, zcA_s, zcD_s, zcF_s, zth_n, zth_t, zrt_s, zQ_l, zQ_r, false_or, or_false, true_or, or_true, false_and, and_false, not_false_eq_true, not_true_eq_false, and_self, true_and, and_true, if_true, if_false, ite_true, ite_false, zgd_t]
    have o : zFr (fun c => c = 139 ∨ c = 140) g1 g2 := by rw [hg2]; exact zFr.sJ (Or.inl rfl)
    have mm := LI_mid H cz o
    have m := mm.1
    obtain ⟨g3, e3, q3, th⟩ := r_why m hr
    have ms := MS2_z mm q3
    have tw := r_thrown ms.2.2.1.1
    rw [th] at tw
    obtain ⟨L, nn⟩ := LI_fin H cz o ms H.by
    have z1 := m.1.1
    have z3 := ms.2.2.1.1.1
    have j3 : zJ g3 139 0 = ((nI (nWhy N r))).toInt64 := by rw [ms.1.J (by unfold mfA; omega), hg2, J_sJs, zput_self]
    have q3 : zK g3 139 = (1, 1) := L.2.2.2.2.2.2.2.2.2.2.2.2.2.2.1
    refine ⟨g3, _, _, _, _, _, ?_, L, by omega, by omega⟩
    refine Eq.trans gL_law_27_11 ?_
    simp only [p6, n1, c1, l1, ea, w1, z1, e3, z3, tw, q3, c_0, p_0, show ¬ 1 ≤ 0 by omega, j3, lg0, zmp_s, zlt_s, zcV_s, zcI_s, zcJ_s, zcA_s, zcD_s, zcF_s, zth_n, zth_t, zrt_s, zQ_l, zQ_r, false_or, or_false, true_or, or_true, false_and, and_false, not_false_eq_true, not_true_eq_false, and_self, true_and, and_true, if_true, if_false, ite_true, ite_false, zgd_t]
    rfl
  · have e1 := m_whyX c hx
    obtain ⟨g1, hg1⟩ : ∃ g1, g1 = h := ⟨_, rfl⟩
    have cz : CZ h g1 N P K xs ys := by rw [hg1]; exact CZ_rf C
    have e1 : sX5_why [.ref 0, .int (scr.2 (i + 1))] h = some (.inr 2, g1) := by rw [hg1]; exact e1
    have w1 : sL_why [.ref 0, .int (scr.2 (i + 1)), .ref 139] h = some (.inl (some (.int 1)), g1) := by
      refine zsem_eq (Nat.le_of_ble_eq_true rfl) (zTo_of (gL_why_t2 e1) ?_)
      simp only [z0, zmp_s, zlt_s, zcV_s, zcI_s, zcJ_s, zcA_s, zcD_s, zcF_s, zth_n, zth_t, zrt_s, zQ_l, zQ_r, false_or, or_false, true_or, or_true, false_and, and_false, not_false_eq_true, not_true_eq_false, and_self, true_and, and_true, if_true, if_false, ite_true, ite_false, zgd_t]
    have o := zFr.rf (h := g1) (A := fun c => c = 139 ∨ c = 140)
    have mm := LI_mid H cz o
    have m := mm.1
    obtain ⟨g3, e3, q3, th⟩ := r_whyX m hx
    have ms := MS2_z mm q3
    have tw := r_thrown ms.2.2.1.1
    rw [th] at tw
    obtain ⟨L, nn⟩ := LI_fin H cz o ms H.by
    have z1 := m.1.1
    have z3 := ms.2.2.1.1.1
    refine ⟨g3, _, _, _, _, _, ?_, L, by omega, by omega⟩
    refine Eq.trans gL_law_27_11 ?_
    simp only [p6, n1, c1, l1, w1, z1, e3, z3, tw, i10, i20, i30, zmp_s, zlt_s, zcV_s, zcI_s, zcJ_s, zcA_s, zcD_s, zcF_s, zth_n, zth_t, zrt_s, zQ_l, zQ_r, false_or, or_false, true_or, or_true, false_and, and_false, not_false_eq_true, not_true_eq_false, and_self, true_and, and_true, if_true, if_false, ite_true, ite_false, zgd_t]
    rfl
theorem kL_15 (H : LI h N P K xs ys) (hi : i + 6 ≤ scr.1) (hs : scr.1 ≤ 3072) : LG scr h i 15 := by
  have C := H.cp
  have M := H.mp
  have c := C.1
  have p6 : nI i + (6 : Int32) = nI (i + 6) := nI_add i 6
  have z0 : (zK h 0).1 = 11 := by rw [c.1.1]
  have F := c.2.2.1
  obtain ⟨n1, c1, l1⟩ := sidx hi hs 1 (by omega)
  have n1 : ((nI i + (1 : Int32)) < 0) = False := n1
  have c1 : (nI i + (1 : Int32)).toNatClampNeg = i + 1 := c1
  have l1 := l1 (by omega)
  rcases i_split (show N 0 < 2 ^ 31 by have := F.1.1; omega) (scr.2 (i + 1)) with ⟨r, hr, ea⟩ | hx
  · obtain ⟨g1, e1, q⟩ := m_completionsBy c hr
    have cz := CZ_q C q
    have k39 : zK g1 139 = (1, 1) := by rw [cz.1.K]; exact H.2.2.2.2.2.2.2.2.2.2.2.2.2.2.1
    obtain ⟨g2, hg2⟩ : ∃ g2, g2 = zsJ g1 139 0 (lN (nCb N r)) := ⟨_, rfl⟩
    have w1 : sL_completionsBy [.ref 0, .int (nI r), .ref 139] h = some (.inl (some (.int 0)), g2) := by
      refine zsem_eq (Nat.le_of_ble_eq_true rfl) (zTo_of (gL_completionsBy_n e1) ?_)
      simp only [z0, k39, c_0, p_0, show ¬ 1 ≤ 0 by omega, ← hg2, zmp_s, zlt_s, zcV_s, zcI_s, zcJ_s, zcA_s, zcD_s, zcF_s, zth_n, zth_t, zrt_s, zQ_l, zQ_r, false_or, or_false, true_or, or_true, false_and, and_false, not_false_eq_true, not_true_eq_false, and_self, true_and, and_true, if_true, if_false, ite_true, ite_false, zgd_t]
    have o : zFr (fun c => c = 139 ∨ c = 140) g1 g2 := by rw [hg2]; exact zFr.sJ (Or.inl rfl)
    have mm := LI_mid H cz o
    have m := mm.1
    obtain ⟨g3, e3, q3, th⟩ := r_completionsBy m hr
    have ms := MS2_z mm q3
    have tw := r_thrown ms.2.2.1.1
    rw [th] at tw
    obtain ⟨L, nn⟩ := LI_fin H cz o ms H.by
    have z1 := m.1.1
    have z3 := ms.2.2.1.1.1
    have j3 : zJ g3 139 0 = (lN (nCb N r)) := by rw [ms.1.J (by unfold mfA; omega), hg2, J_sJs, zput_self]
    have q3 : zK g3 139 = (1, 1) := L.2.2.2.2.2.2.2.2.2.2.2.2.2.2.1
    refine ⟨g3, _, _, _, _, _, ?_, L, by omega, by omega⟩
    refine Eq.trans gL_law_27_15 ?_
    simp only [p6, n1, c1, l1, ea, w1, z1, e3, z3, tw, q3, c_0, p_0, show ¬ 1 ≤ 0 by omega, j3, lg0, zmp_s, zlt_s, zcV_s, zcI_s, zcJ_s, zcA_s, zcD_s, zcF_s, zth_n, zth_t, zrt_s, zQ_l, zQ_r, false_or, or_false, true_or, or_true, false_and, and_false, not_false_eq_true, not_true_eq_false, and_self, true_and, and_true, if_true, if_false, ite_true, ite_false, zgd_t]
    rfl
  · have e1 := m_completionsByX c hx
    obtain ⟨g1, hg1⟩ : ∃ g1, g1 = h := ⟨_, rfl⟩
    have cz : CZ h g1 N P K xs ys := by rw [hg1]; exact CZ_rf C
    have e1 : sX5_completionsBy [.ref 0, .int (scr.2 (i + 1))] h = some (.inr 2, g1) := by rw [hg1]; exact e1
    have w1 : sL_completionsBy [.ref 0, .int (scr.2 (i + 1)), .ref 139] h = some (.inl (some (.int 1)), g1) := by
      refine zsem_eq (Nat.le_of_ble_eq_true rfl) (zTo_of (gL_completionsBy_t2 e1) ?_)
      simp only [z0, zmp_s, zlt_s, zcV_s, zcI_s, zcJ_s, zcA_s, zcD_s, zcF_s, zth_n, zth_t, zrt_s, zQ_l, zQ_r, false_or, or_false, true_or, or_true, false_and, and_false, not_false_eq_true, not_true_eq_false, and_self, true_and, and_true, if_true, if_false, ite_true, ite_false, zgd_t]
    have o := zFr.rf (h := g1) (A := fun c => c = 139 ∨ c = 140)
    have mm := LI_mid H cz o
    have m := mm.1
    obtain ⟨g3, e3, q3, th⟩ := r_completionsByX m hx
    have ms := MS2_z mm q3
    have tw := r_thrown ms.2.2.1.1
    rw [th] at tw
    obtain ⟨L, nn⟩ := LI_fin H cz o ms H.by
    have z1 := m.1.1
    have z3 := ms.2.2.1.1.1
    refine ⟨g3, _, _, _, _, _, ?_, L, by omega, by omega⟩
    refine Eq.trans gL_law_27_15 ?_
    simp only [p6, n1, c1, l1, w1, z1, e3, z3, tw, i10, i20, i30, zmp_s, zlt_s, zcV_s, zcI_s, zcJ_s, zcA_s, zcD_s, zcF_s, zth_n, zth_t, zrt_s, zQ_l, zQ_r, false_or, or_false, true_or, or_true, false_and, and_false, not_false_eq_true, not_true_eq_false, and_self, true_and, and_true, if_true, if_false, ite_true, ite_false, zgd_t]
    rfl
theorem kL_24 (H : LI h N P K xs ys) (hi : i + 6 ≤ scr.1) (hs : scr.1 ≤ 3072) : LG scr h i 24 := by
  have C := H.cp
  have M := H.mp
  have c := C.1
  have p6 : nI i + (6 : Int32) = nI (i + 6) := nI_add i 6
  have z0 : (zK h 0).1 = 11 := by rw [c.1.1]
  have F := c.2.2.1
  obtain ⟨n1, c1, l1⟩ := sidx hi hs 1 (by omega)
  have n1 : ((nI i + (1 : Int32)) < 0) = False := n1
  have c1 : (nI i + (1 : Int32)).toNatClampNeg = i + 1 := c1
  have l1 := l1 (by omega)
  rcases i_split (show N 0 < 2 ^ 31 by have := F.1.1; omega) (scr.2 (i + 1)) with ⟨r, hr, ea⟩ | hx
  · obtain ⟨g1, e1, q⟩ := m_toursFrom c hr
    have cz := CZ_q C q
    have k39 : zK g1 139 = (1, 1) := by rw [cz.1.K]; exact H.2.2.2.2.2.2.2.2.2.2.2.2.2.2.1
    obtain ⟨g2, hg2⟩ : ∃ g2, g2 = zsJ g1 139 0 (lN (nTT N (2 ^ r) r)) := ⟨_, rfl⟩
    have w1 : sL_toursFrom [.ref 0, .int (nI r), .ref 139] h = some (.inl (some (.int 0)), g2) := by
      refine zsem_eq (Nat.le_of_ble_eq_true rfl) (zTo_of (gL_toursFrom_n e1) ?_)
      simp only [z0, k39, c_0, p_0, show ¬ 1 ≤ 0 by omega, ← hg2, zmp_s, zlt_s, zcV_s, zcI_s, zcJ_s, zcA_s, zcD_s, zcF_s, zth_n, zth_t, zrt_s, zQ_l, zQ_r, false_or, or_false, true_or, or_true, false_and, and_false, not_false_eq_true, not_true_eq_false, and_self, true_and, and_true, if_true, if_false, ite_true, ite_false, zgd_t]
    have o : zFr (fun c => c = 139 ∨ c = 140) g1 g2 := by rw [hg2]; exact zFr.sJ (Or.inl rfl)
    have mm := LI_mid H cz o
    have m := mm.1
    obtain ⟨g3, e3, q3, th⟩ := r_toursFrom m hr
    have ms := MS2_z mm q3
    have tw := r_thrown ms.2.2.1.1
    rw [th] at tw
    obtain ⟨L, nn⟩ := LI_fin H cz o ms H.by
    have z1 := m.1.1
    have z3 := ms.2.2.1.1.1
    have j3 : zJ g3 139 0 = (lN (nTT N (2 ^ r) r)) := by rw [ms.1.J (by unfold mfA; omega), hg2, J_sJs, zput_self]
    have q3 : zK g3 139 = (1, 1) := L.2.2.2.2.2.2.2.2.2.2.2.2.2.2.1
    refine ⟨g3, _, _, _, _, _, ?_, L, by omega, by omega⟩
    refine Eq.trans gL_law_27_24 ?_
    simp only [p6, n1, c1, l1, ea, w1, z1, e3, z3, tw, q3, c_0, p_0, show ¬ 1 ≤ 0 by omega, j3, lg0, zmp_s, zlt_s, zcV_s, zcI_s, zcJ_s, zcA_s, zcD_s, zcF_s, zth_n, zth_t, zrt_s, zQ_l, zQ_r, false_or, or_false, true_or, or_true, false_and, and_false, not_false_eq_true, not_true_eq_false, and_self, true_and, and_true, if_true, if_false, ite_true, ite_false, zgd_t]
    rfl
  · have e1 := m_toursFromX c hx
    obtain ⟨g1, hg1⟩ : ∃ g1, g1 = h := ⟨_, rfl⟩
    have cz : CZ h g1 N P K xs ys := by rw [hg1]; exact CZ_rf C
    have e1 : sX5_toursFrom [.ref 0, .int (scr.2 (i + 1))] h = some (.inr 2, g1) := by rw [hg1]; exact e1
    have w1 : sL_toursFrom [.ref 0, .int (scr.2 (i + 1)), .ref 139] h = some (.inl (some (.int 1)), g1) := by
      refine zsem_eq (Nat.le_of_ble_eq_true rfl) (zTo_of (gL_toursFrom_t2 e1) ?_)
      simp only [z0, zmp_s, zlt_s, zcV_s, zcI_s, zcJ_s, zcA_s, zcD_s, zcF_s, zth_n, zth_t, zrt_s, zQ_l, zQ_r, false_or, or_false, true_or, or_true, false_and, and_false, not_false_eq_true, not_true_eq_false, and_self, true_and, and_true, if_true, if_false, ite_true, ite_false, zgd_t]
    have o := zFr.rf (h := g1) (A := fun c => c = 139 ∨ c = 140)
    have mm := LI_mid H cz o
    have m := mm.1
    obtain ⟨g3, e3, q3, th⟩ := r_toursFromX m hx
    have ms := MS2_z mm q3
    have tw := r_thrown ms.2.2.1.1
    rw [th] at tw
    obtain ⟨L, nn⟩ := LI_fin H cz o ms H.by
    have z1 := m.1.1
    have z3 := ms.2.2.1.1.1
    refine ⟨g3, _, _, _, _, _, ?_, L, by omega, by omega⟩
    refine Eq.trans gL_law_27_24 ?_
    simp only [p6, n1, c1, l1, w1, z1, e3, z3, tw, i10, i20, i30, zmp_s, zlt_s, zcV_s, zcI_s, zcJ_s, zcA_s, zcD_s, zcF_s, zth_n, zth_t, zrt_s, zQ_l, zQ_r, false_or, or_false, true_or, or_true, false_and, and_false, not_false_eq_true, not_true_eq_false, and_self, true_and, and_true, if_true, if_false, ite_true, ite_false, zgd_t]
    rfl
theorem kL_25 (H : LI h N P K xs ys) (hi : i + 6 ≤ scr.1) (hs : scr.1 ≤ 3072) : LG scr h i 25 := by
  have C := H.cp
  have M := H.mp
  have c := C.1
  have p6 : nI i + (6 : Int32) = nI (i + 6) := nI_add i 6
  have z0 : (zK h 0).1 = 11 := by rw [c.1.1]
  have F := c.2.2.1
  obtain ⟨n1, c1, l1⟩ := sidx hi hs 1 (by omega)
  have n1 : ((nI i + (1 : Int32)) < 0) = False := n1
  have c1 : (nI i + (1 : Int32)).toNatClampNeg = i + 1 := c1
  have l1 := l1 (by omega)
  rcases i_split (show N 0 < 2 ^ 31 by have := F.1.1; omega) (scr.2 (i + 1)) with ⟨r, hr, ea⟩ | hx
  · obtain ⟨g1, e1, q⟩ := m_toursTo c hr
    have cz := CZ_q C q
    have k39 : zK g1 139 = (1, 1) := by rw [cz.1.K]; exact H.2.2.2.2.2.2.2.2.2.2.2.2.2.2.1
    obtain ⟨g2, hg2⟩ : ∃ g2, g2 = zsJ g1 139 0 (lN (nTt N r)) := ⟨_, rfl⟩
    have w1 : sL_toursTo [.ref 0, .int (nI r), .ref 139] h = some (.inl (some (.int 0)), g2) := by
      refine zsem_eq (Nat.le_of_ble_eq_true rfl) (zTo_of (gL_toursTo_n e1) ?_)
      simp only [z0, k39, c_0, p_0, show ¬ 1 ≤ 0 by omega, ← hg2, zmp_s, zlt_s, zcV_s, zcI_s, zcJ_s, zcA_s, zcD_s, zcF_s, zth_n, zth_t, zrt_s, zQ_l, zQ_r, false_or, or_false, true_or, or_true, false_and, and_false, not_false_eq_true, not_true_eq_false, and_self, true_and, and_true, if_true, if_false, ite_true, ite_false, zgd_t]
    have o : zFr (fun c => c = 139 ∨ c = 140) g1 g2 := by rw [hg2]; exact zFr.sJ (Or.inl rfl)
    have mm := LI_mid H cz o
    have m := mm.1
    obtain ⟨g3, e3, q3, th⟩ := r_toursTo m hr
    have ms := MS2_z mm q3
    have tw := r_thrown ms.2.2.1.1
    rw [th] at tw
    obtain ⟨L, nn⟩ := LI_fin H cz o ms H.by
    have z1 := m.1.1
    have z3 := ms.2.2.1.1.1
    have j3 : zJ g3 139 0 = (lN (nTt N r)) := by rw [ms.1.J (by unfold mfA; omega), hg2, J_sJs, zput_self]
    have q3 : zK g3 139 = (1, 1) := L.2.2.2.2.2.2.2.2.2.2.2.2.2.2.1
    refine ⟨g3, _, _, _, _, _, ?_, L, by omega, by omega⟩
    refine Eq.trans gL_law_27_25 ?_
    simp only [p6, n1, c1, l1, ea, w1, z1, e3, z3, tw, q3, c_0, p_0, show ¬ 1 ≤ 0 by omega, j3, lg0, zmp_s, zlt_s, zcV_s, zcI_s, zcJ_s, zcA_s, zcD_s, zcF_s, zth_n, zth_t, zrt_s, zQ_l, zQ_r, false_or, or_false, true_or, or_true, false_and, and_false, not_false_eq_true, not_true_eq_false, and_self, true_and, and_true, if_true, if_false, ite_true, ite_false, zgd_t]
    rfl
  · have e1 := m_toursToX c hx
    obtain ⟨g1, hg1⟩ : ∃ g1, g1 = h := ⟨_, rfl⟩
    have cz : CZ h g1 N P K xs ys := by rw [hg1]; exact CZ_rf C
    have e1 : sX5_toursTo [.ref 0, .int (scr.2 (i + 1))] h = some (.inr 2, g1) := by rw [hg1]; exact e1
    have w1 : sL_toursTo [.ref 0, .int (scr.2 (i + 1)), .ref 139] h = some (.inl (some (.int 1)), g1) := by
      refine zsem_eq (Nat.le_of_ble_eq_true rfl) (zTo_of (gL_toursTo_t2 e1) ?_)
      simp only [z0, zmp_s, zlt_s, zcV_s, zcI_s, zcJ_s, zcA_s, zcD_s, zcF_s, zth_n, zth_t, zrt_s, zQ_l, zQ_r, false_or, or_false, true_or, or_true, false_and, and_false, not_false_eq_true, not_true_eq_false, and_self, true_and, and_true, if_true, if_false, ite_true, ite_false, zgd_t]
    have o := zFr.rf (h := g1) (A := fun c => c = 139 ∨ c = 140)
    have mm := LI_mid H cz o
    have m := mm.1
    obtain ⟨g3, e3, q3, th⟩ := r_toursToX m hx
    have ms := MS2_z mm q3
    have tw := r_thrown ms.2.2.1.1
    rw [th] at tw
    obtain ⟨L, nn⟩ := LI_fin H cz o ms H.by
    have z1 := m.1.1
    have z3 := ms.2.2.1.1.1
    refine ⟨g3, _, _, _, _, _, ?_, L, by omega, by omega⟩
    refine Eq.trans gL_law_27_25 ?_
    simp only [p6, n1, c1, l1, w1, z1, e3, z3, tw, i10, i20, i30, zmp_s, zlt_s, zcV_s, zcI_s, zcJ_s, zcA_s, zcD_s, zcF_s, zth_n, zth_t, zrt_s, zQ_l, zQ_r, false_or, or_false, true_or, or_true, false_and, and_false, not_false_eq_true, not_true_eq_false, and_self, true_and, and_true, if_true, if_false, ite_true, ite_false, zgd_t]
    rfl
theorem kL_27 (H : LI h N P K xs ys) (hi : i + 6 ≤ scr.1) (hs : scr.1 ≤ 3072) : LG scr h i 27 := by
  have C := H.cp
  have M := H.mp
  have c := C.1
  have p6 : nI i + (6 : Int32) = nI (i + 6) := nI_add i 6
  have z0 : (zK h 0).1 = 11 := by rw [c.1.1]
  have F := c.2.2.1
  obtain ⟨n1, c1, l1⟩ := sidx hi hs 1 (by omega)
  have n1 : ((nI i + (1 : Int32)) < 0) = False := n1
  have c1 : (nI i + (1 : Int32)).toNatClampNeg = i + 1 := c1
  have l1 := l1 (by omega)
  rcases i_split (show 8 < 2 ^ 31 by omega) (scr.2 (i + 1)) with ⟨r, hr, ea⟩ | hx
  · obtain ⟨g1, e1, q⟩ := m_without c hr
    have cz := CZ_q C q
    have k39 : zK g1 139 = (1, 1) := by rw [cz.1.K]; exact H.2.2.2.2.2.2.2.2.2.2.2.2.2.2.1
    obtain ⟨g2, hg2⟩ : ∃ g2, g2 = zsJ g1 139 0 (lN (nTwo N r)) := ⟨_, rfl⟩
    have w1 : sL_without [.ref 0, .int (nI r), .ref 139] h = some (.inl (some (.int 0)), g2) := by
      refine zsem_eq (Nat.le_of_ble_eq_true rfl) (zTo_of (gL_without_n e1) ?_)
      simp only [z0, k39, c_0, p_0, show ¬ 1 ≤ 0 by omega, ← hg2, zmp_s, zlt_s, zcV_s, zcI_s, zcJ_s, zcA_s, zcD_s, zcF_s, zth_n, zth_t, zrt_s, zQ_l, zQ_r, false_or, or_false, true_or, or_true, false_and, and_false, not_false_eq_true, not_true_eq_false, and_self, true_and, and_true, if_true, if_false, ite_true, ite_false, zgd_t]
    have o : zFr (fun c => c = 139 ∨ c = 140) g1 g2 := by rw [hg2]; exact zFr.sJ (Or.inl rfl)
    have mm := LI_mid H cz o
    have m := mm.1
    obtain ⟨g3, e3, q3, th⟩ := r_without m hr
    have ms := MS2_z mm q3
    have tw := r_thrown ms.2.2.1.1
    rw [th] at tw
    obtain ⟨L, nn⟩ := LI_fin H cz o ms H.by
    have z1 := m.1.1
    have z3 := ms.2.2.1.1.1
    have j3 : zJ g3 139 0 = (lN (nTwo N r)) := by rw [ms.1.J (by unfold mfA; omega), hg2, J_sJs, zput_self]
    have q3 : zK g3 139 = (1, 1) := L.2.2.2.2.2.2.2.2.2.2.2.2.2.2.1
    refine ⟨g3, _, _, _, _, _, ?_, L, by omega, by omega⟩
    refine Eq.trans gL_law_27_27 ?_
    simp only [p6, n1, c1, l1, ea, w1, z1, e3, z3, tw, q3, c_0, p_0, show ¬ 1 ≤ 0 by omega, j3, lg0, zmp_s, zlt_s, zcV_s, zcI_s, zcJ_s, zcA_s, zcD_s, zcF_s, zth_n, zth_t, zrt_s, zQ_l, zQ_r, false_or, or_false, true_or, or_true, false_and, and_false, not_false_eq_true, not_true_eq_false, and_self, true_and, and_true, if_true, if_false, ite_true, ite_false, zgd_t]
    rfl
  · have e1 := m_withoutX (h := h) hx
    obtain ⟨g1, hg1⟩ : ∃ g1, g1 = h := ⟨_, rfl⟩
    have cz : CZ h g1 N P K xs ys := by rw [hg1]; exact CZ_rf C
    have e1 : sX5_without [.ref 0, .int (scr.2 (i + 1))] h = some (.inr 2, g1) := by rw [hg1]; exact e1
    have w1 : sL_without [.ref 0, .int (scr.2 (i + 1)), .ref 139] h = some (.inl (some (.int 1)), g1) := by
      refine zsem_eq (Nat.le_of_ble_eq_true rfl) (zTo_of (gL_without_t2 e1) ?_)
      simp only [z0, zmp_s, zlt_s, zcV_s, zcI_s, zcJ_s, zcA_s, zcD_s, zcF_s, zth_n, zth_t, zrt_s, zQ_l, zQ_r, false_or, or_false, true_or, or_true, false_and, and_false, not_false_eq_true, not_true_eq_false, and_self, true_and, and_true, if_true, if_false, ite_true, ite_false, zgd_t]
    have o := zFr.rf (h := g1) (A := fun c => c = 139 ∨ c = 140)
    have mm := LI_mid H cz o
    have m := mm.1
    obtain ⟨g3, e3, q3, th⟩ := r_withoutX m hx
    have ms := MS2_z mm q3
    have tw := r_thrown ms.2.2.1.1
    rw [th] at tw
    obtain ⟨L, nn⟩ := LI_fin H cz o ms H.by
    have z1 := m.1.1
    have z3 := ms.2.2.1.1.1
    refine ⟨g3, _, _, _, _, _, ?_, L, by omega, by omega⟩
    refine Eq.trans gL_law_27_27 ?_
    simp only [p6, n1, c1, l1, w1, z1, e3, z3, tw, i10, i20, i30, zmp_s, zlt_s, zcV_s, zcI_s, zcJ_s, zcA_s, zcD_s, zcF_s, zth_n, zth_t, zrt_s, zQ_l, zQ_r, false_or, or_false, true_or, or_true, false_and, and_false, not_false_eq_true, not_true_eq_false, and_self, true_and, and_true, if_true, if_false, ite_true, ite_false, zgd_t]
    rfl
theorem kL_29 (H : LI h N P K xs ys) (hi : i + 6 ≤ scr.1) (hs : scr.1 ≤ 3072) : LG scr h i 29 := by
  have C := H.cp
  have M := H.mp
  have c := C.1
  have p6 : nI i + (6 : Int32) = nI (i + 6) := nI_add i 6
  have z0 : (zK h 0).1 = 11 := by rw [c.1.1]
  have F := c.2.2.1
  obtain ⟨n1, c1, l1⟩ := sidx hi hs 1 (by omega)
  have n1 : ((nI i + (1 : Int32)) < 0) = False := n1
  have c1 : (nI i + (1 : Int32)).toNatClampNeg = i + 1 := c1
  have l1 := l1 (by omega)
  rcases i_split (show N 1 < 2 ^ 31 by have := F.1.2.1; omega) (scr.2 (i + 1)) with ⟨r, hr, ea⟩ | hx
  · obtain ⟨g1, e1, q⟩ := m_toursWithout c hr
    have cz := CZ_q C q
    have k39 : zK g1 139 = (1, 1) := by rw [cz.1.K]; exact H.2.2.2.2.2.2.2.2.2.2.2.2.2.2.1
    obtain ⟨g2, hg2⟩ : ∃ g2, g2 = zsJ g1 139 0 (lN (nTwd N r)) := ⟨_, rfl⟩
    have w1 : sL_toursWithout [.ref 0, .int (nI r), .ref 139] h = some (.inl (some (.int 0)), g2) := by
      refine zsem_eq (Nat.le_of_ble_eq_true rfl) (zTo_of (gL_toursWithout_n e1) ?_)
      simp only [z0, k39, c_0, p_0, show ¬ 1 ≤ 0 by omega, ← hg2, zmp_s, zlt_s, zcV_s, zcI_s, zcJ_s, zcA_s, zcD_s, zcF_s, zth_n, zth_t, zrt_s, zQ_l, zQ_r, false_or, or_false, true_or, or_true, false_and, and_false, not_false_eq_true, not_true_eq_false, and_self, true_and, and_true, if_true, if_false, ite_true, ite_false, zgd_t]
    have o : zFr (fun c => c = 139 ∨ c = 140) g1 g2 := by rw [hg2]; exact zFr.sJ (Or.inl rfl)
    have mm := LI_mid H cz o
    have m := mm.1
    obtain ⟨g3, e3, q3, th⟩ := r_toursWithout m hr
    have ms := MS2_z mm q3
    have tw := r_thrown ms.2.2.1.1
    rw [th] at tw
    obtain ⟨L, nn⟩ := LI_fin H cz o ms H.by
    have z1 := m.1.1
    have z3 := ms.2.2.1.1.1
    have j3 : zJ g3 139 0 = (lN (nTwd N r)) := by rw [ms.1.J (by unfold mfA; omega), hg2, J_sJs, zput_self]
    have q3 : zK g3 139 = (1, 1) := L.2.2.2.2.2.2.2.2.2.2.2.2.2.2.1
    refine ⟨g3, _, _, _, _, _, ?_, L, by omega, by omega⟩
    refine Eq.trans gL_law_27_29 ?_
    simp only [p6, n1, c1, l1, ea, w1, z1, e3, z3, tw, q3, c_0, p_0, show ¬ 1 ≤ 0 by omega, j3, lg0, zmp_s, zlt_s, zcV_s, zcI_s, zcJ_s, zcA_s, zcD_s, zcF_s, zth_n, zth_t, zrt_s, zQ_l, zQ_r, false_or, or_false, true_or, or_true, false_and, and_false, not_false_eq_true, not_true_eq_false, and_self, true_and, and_true, if_true, if_false, ite_true, ite_false, zgd_t]
    rfl
  · have e1 := m_toursWithoutX c hx
    obtain ⟨g1, hg1⟩ : ∃ g1, g1 = h := ⟨_, rfl⟩
    have cz : CZ h g1 N P K xs ys := by rw [hg1]; exact CZ_rf C
    have e1 : sX5_toursWithout [.ref 0, .int (scr.2 (i + 1))] h = some (.inr 2, g1) := by rw [hg1]; exact e1
    have w1 : sL_toursWithout [.ref 0, .int (scr.2 (i + 1)), .ref 139] h = some (.inl (some (.int 1)), g1) := by
      refine zsem_eq (Nat.le_of_ble_eq_true rfl) (zTo_of (gL_toursWithout_t2 e1) ?_)
      simp only [z0, zmp_s, zlt_s, zcV_s, zcI_s, zcJ_s, zcA_s, zcD_s, zcF_s, zth_n, zth_t, zrt_s, zQ_l, zQ_r, false_or, or_false, true_or, or_true, false_and, and_false, not_false_eq_true, not_true_eq_false, and_self, true_and, and_true, if_true, if_false, ite_true, ite_false, zgd_t]
    have o := zFr.rf (h := g1) (A := fun c => c = 139 ∨ c = 140)
    have mm := LI_mid H cz o
    have m := mm.1
    obtain ⟨g3, e3, q3, th⟩ := r_toursWithoutX m hx
    have ms := MS2_z mm q3
    have tw := r_thrown ms.2.2.1.1
    rw [th] at tw
    obtain ⟨L, nn⟩ := LI_fin H cz o ms H.by
    have z1 := m.1.1
    have z3 := ms.2.2.1.1.1
    refine ⟨g3, _, _, _, _, _, ?_, L, by omega, by omega⟩
    refine Eq.trans gL_law_27_29 ?_
    simp only [p6, n1, c1, l1, w1, z1, e3, z3, tw, i10, i20, i30, zmp_s, zlt_s, zcV_s, zcI_s, zcJ_s, zcA_s, zcD_s, zcF_s, zth_n, zth_t, zrt_s, zQ_l, zQ_r, false_or, or_false, true_or, or_true, false_and, and_false, not_false_eq_true, not_true_eq_false, and_self, true_and, and_true, if_true, if_false, ite_true, ite_false, zgd_t]
    rfl
theorem kL_31 (H : LI h N P K xs ys) (hi : i + 6 ≤ scr.1) (hs : scr.1 ≤ 3072) : LG scr h i 31 := by
  have C := H.cp
  have M := H.mp
  have c := C.1
  have p6 : nI i + (6 : Int32) = nI (i + 6) := nI_add i 6
  have z0 : (zK h 0).1 = 11 := by rw [c.1.1]
  have F := c.2.2.1
  obtain ⟨n1, c1, l1⟩ := sidx hi hs 1 (by omega)
  have n1 : ((nI i + (1 : Int32)) < 0) = False := n1
  have c1 : (nI i + (1 : Int32)).toNatClampNeg = i + 1 := c1
  have l1 := l1 (by omega)
  rcases i_split (show N 1 < 2 ^ 31 by have := F.1.2.1; omega) (scr.2 (i + 1)) with ⟨r, hr, ea⟩ | hx
  · obtain ⟨g1, e1, q⟩ := m_toursIfOpen c hr
    have cz := CZ_q C q
    have k39 : zK g1 139 = (1, 1) := by rw [cz.1.K]; exact H.2.2.2.2.2.2.2.2.2.2.2.2.2.2.1
    obtain ⟨g2, hg2⟩ : ∃ g2, g2 = zsJ g1 139 0 (lN (nTio N r)) := ⟨_, rfl⟩
    have w1 : sL_toursIfOpen [.ref 0, .int (nI r), .ref 139] h = some (.inl (some (.int 0)), g2) := by
      refine zsem_eq (Nat.le_of_ble_eq_true rfl) (zTo_of (gL_toursIfOpen_n e1) ?_)
      simp only [z0, k39, c_0, p_0, show ¬ 1 ≤ 0 by omega, ← hg2, zmp_s, zlt_s, zcV_s, zcI_s, zcJ_s, zcA_s, zcD_s, zcF_s, zth_n, zth_t, zrt_s, zQ_l, zQ_r, false_or, or_false, true_or, or_true, false_and, and_false, not_false_eq_true, not_true_eq_false, and_self, true_and, and_true, if_true, if_false, ite_true, ite_false, zgd_t]
    have o : zFr (fun c => c = 139 ∨ c = 140) g1 g2 := by rw [hg2]; exact zFr.sJ (Or.inl rfl)
    have mm := LI_mid H cz o
    have m := mm.1
    obtain ⟨g3, e3, q3, th⟩ := r_toursIfOpen m hr
    have ms := MS2_z mm q3
    have tw := r_thrown ms.2.2.1.1
    rw [th] at tw
    obtain ⟨L, nn⟩ := LI_fin H cz o ms H.by
    have z1 := m.1.1
    have z3 := ms.2.2.1.1.1
    have j3 : zJ g3 139 0 = (lN (nTio N r)) := by rw [ms.1.J (by unfold mfA; omega), hg2, J_sJs, zput_self]
    have q3 : zK g3 139 = (1, 1) := L.2.2.2.2.2.2.2.2.2.2.2.2.2.2.1
    refine ⟨g3, _, _, _, _, _, ?_, L, by omega, by omega⟩
    refine Eq.trans gL_law_27_31 ?_
    simp only [p6, n1, c1, l1, ea, w1, z1, e3, z3, tw, q3, c_0, p_0, show ¬ 1 ≤ 0 by omega, j3, lg0, zmp_s, zlt_s, zcV_s, zcI_s, zcJ_s, zcA_s, zcD_s, zcF_s, zth_n, zth_t, zrt_s, zQ_l, zQ_r, false_or, or_false, true_or, or_true, false_and, and_false, not_false_eq_true, not_true_eq_false, and_self, true_and, and_true, if_true, if_false, ite_true, ite_false, zgd_t]
    rfl
  · have e1 := m_toursIfOpenX c hx
    obtain ⟨g1, hg1⟩ : ∃ g1, g1 = h := ⟨_, rfl⟩
    have cz : CZ h g1 N P K xs ys := by rw [hg1]; exact CZ_rf C
    have e1 : sX5_toursIfOpen [.ref 0, .int (scr.2 (i + 1))] h = some (.inr 2, g1) := by rw [hg1]; exact e1
    have w1 : sL_toursIfOpen [.ref 0, .int (scr.2 (i + 1)), .ref 139] h = some (.inl (some (.int 1)), g1) := by
      refine zsem_eq (Nat.le_of_ble_eq_true rfl) (zTo_of (gL_toursIfOpen_t2 e1) ?_)
      simp only [z0, zmp_s, zlt_s, zcV_s, zcI_s, zcJ_s, zcA_s, zcD_s, zcF_s, zth_n, zth_t, zrt_s, zQ_l, zQ_r, false_or, or_false, true_or, or_true, false_and, and_false, not_false_eq_true, not_true_eq_false, and_self, true_and, and_true, if_true, if_false, ite_true, ite_false, zgd_t]
    have o := zFr.rf (h := g1) (A := fun c => c = 139 ∨ c = 140)
    have mm := LI_mid H cz o
    have m := mm.1
    obtain ⟨g3, e3, q3, th⟩ := r_toursIfOpenX m hx
    have ms := MS2_z mm q3
    have tw := r_thrown ms.2.2.1.1
    rw [th] at tw
    obtain ⟨L, nn⟩ := LI_fin H cz o ms H.by
    have z1 := m.1.1
    have z3 := ms.2.2.1.1.1
    refine ⟨g3, _, _, _, _, _, ?_, L, by omega, by omega⟩
    refine Eq.trans gL_law_27_31 ?_
    simp only [p6, n1, c1, l1, w1, z1, e3, z3, tw, i10, i20, i30, zmp_s, zlt_s, zcV_s, zcI_s, zcJ_s, zcA_s, zcD_s, zcF_s, zth_n, zth_t, zrt_s, zQ_l, zQ_r, false_or, or_false, true_or, or_true, false_and, and_false, not_false_eq_true, not_true_eq_false, and_self, true_and, and_true, if_true, if_false, ite_true, ite_false, zgd_t]
    rfl
end ZLK
