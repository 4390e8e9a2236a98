/-! THE LAW: rounds with more arguments (written by wip/whole/cases.py). -/
section ZLM
theorem zFr.D {A : Nat → Prop} {h h2 : zm_H} (p : zFr A h h2) {b : Nat} (hb : ¬ A b) : zD h2 b = zD h b := (p.2.2.2 b hb).2.2
theorem zFr.sD {A : Nat → Prop} {h : zm_H} {a i : Nat} {x : UInt64} (ha : A a) : zFr A h (zsD h a i x) := ⟨rfl, rfl, rfl, fun b hb => ⟨rfl, rfl, by rw [D_sD, if_neg (fun e : b = a => hb (by rw [e]; exact ha))]⟩⟩
theorem i_to {n : Nat} {x : Int32} (hn : n < 2 ^ 31) (hx : x < 0 ∨ nI n ≤ x) : x.toInt < 0 ∨ (n : Int) ≤ x.toInt := by
  rcases hx with q | q
  · left
    have := Int32.lt_iff_toInt_lt.mp q
    have z : (0 : Int32).toInt = 0 := by decide
    omega
  · right
    have := Int32.le_iff_toInt_le.mp q
    rw [nI_toInt hn] at this
    exact this
theorem l_split {n : Nat} (hn : n < 2 ^ 62) (x : Int64) : (∃ r, r < n ∧ x = lN r) ∨ (x < 0 ∨ lN n ≤ x) := by
  by_cases h : x < 0 ∨ lN n ≤ x
  · exact Or.inr h
  · left
    have h1 : ¬ x < 0 := fun q => h (Or.inl q)
    have h2 : ¬ lN n ≤ x := fun q => h (Or.inr q)
    have a1 : 0 ≤ x.toInt := by
      refine Classical.byContradiction (fun q => h1 ?_)
      rw [Int64.lt_iff_toInt_lt]
      have : (0 : Int64).toInt = 0 := by decide
      omega
    have a2 : x.toInt < n := by
      refine Classical.byContradiction (fun q => h2 ?_)
      rw [Int64.le_iff_toInt_le, lN_toInt63 hn]
      omega
    refine ⟨x.toInt.toNat, by omega, ?_⟩
    apply Int64.toInt_inj.mp
    rw [lN_toInt63 (by omega)]
    omega
variable {scr : Nat × (Nat → Int32)} {h : zm_H} {i : Nat} {N : zLv} {P : List zLv} {K : Nat → Option zLv} {xs ys : List Int32}
theorem kL_6 (H : LI h N P K xs ys) (hi : i + 6 ≤ scr.1) (hs : scr.1 ≤ 3072) : LG scr h i 6 := by
  have C := H.cp
  have M := H.mp
  have c := C.1
  have p6 : nI i + (6 : Int32) = nI (i + 6) := nI_add i 6
  have z0 : (zK h 0).1 = 11 := by rw [c.1.1]
  have F := c.2.2.1
  obtain ⟨n1, c1, l1⟩ := sidx hi hs 1 (by omega)
  have n1 : ((nI i + (1 : Int32)) < 0) = False := n1
  have c1 : (nI i + (1 : Int32)).toNatClampNeg = i + 1 := c1
  have l1 := l1 (by omega)
  rcases i_split (show 9 < 2 ^ 31 by omega) (scr.2 (i + 1)) with ⟨r, hr, ea⟩ | hx
  · have e1 := m_property c (show r ≤ 8 by omega)
    obtain ⟨g1, hg1⟩ : ∃ g1, g1 = h := ⟨_, rfl⟩
    have cz : CZ h g1 N P K xs ys := by rw [hg1]; exact CZ_rf C
    have e1 : sX5_property [.ref 0, .int (nI r)] h = some (.inl (some (.int (nPr N r))), g1) := by rw [hg1]; exact e1
    have k39 : zK g1 139 = (1, 1) := by rw [cz.1.K]; exact H.2.2.2.2.2.2.2.2.2.2.2.2.2.2.1
    obtain ⟨g2, hg2⟩ : ∃ g2, g2 = zsJ g1 139 0 ((nPr N r)).toInt64 := ⟨_, rfl⟩
    have w1 : sL_property [.ref 0, .int (nI r), .ref 139] h = some (.inl (some (.int 0)), g2) := by
      refine zsem_eq (Nat.le_of_ble_eq_true rfl) (zTo_of (gL_property_n e1) ?_)
      simp only [z0, k39, c_0, p_0, show ¬ 1 ≤ 0 by omega, ← hg2, zmp_s, zlt_s, zcV_s, zcI_s, zcJ_s, zcA_s, zcD_s, zcF_s, zth_n, zth_t, zrt_s, zQ_l, zQ_r, false_or, or_false, true_or, or_true, false_and, and_false, not_false_eq_true, not_true_eq_false, and_self, true_and, and_true, if_true, if_false, ite_true, ite_false, zgd_t]
    have o : zFr (fun c => c = 139 ∨ c = 140) g1 g2 := by rw [hg2]; exact zFr.sJ (Or.inl rfl)
    have mm := LI_mid H cz o
    have m := mm.1
    obtain ⟨g3, e3, q3, th⟩ := r_property m (show r ≤ 8 by omega)
    have ms := MS2_z mm q3
    have tw := r_thrown ms.2.2.1.1
    rw [th] at tw
    obtain ⟨L, nn⟩ := LI_fin H cz o ms H.by
    have z1 := m.1.1
    have z3 := ms.2.2.1.1.1
    have j3 : zJ g3 139 0 = ((nPr N r)).toInt64 := by rw [ms.1.J (by unfold mfA; omega), hg2, J_sJs, zput_self]
    have q3 : zK g3 139 = (1, 1) := L.2.2.2.2.2.2.2.2.2.2.2.2.2.2.1
    refine ⟨g3, _, _, _, _, _, ?_, L, by omega, by omega⟩
    refine Eq.trans gL_law_27_6 ?_
    simp only [p6, n1, c1, l1, ea, w1, z1, e3, z3, tw, q3, c_0, p_0, show ¬ 1 ≤ 0 by omega, j3, lg0, zmp_s, zlt_s, zcV_s, zcI_s, zcJ_s, zcA_s, zcD_s, zcF_s, zth_n, zth_t, zrt_s, zQ_l, zQ_r, false_or, or_false, true_or, or_true, false_and, and_false, not_false_eq_true, not_true_eq_false, and_self, true_and, and_true, if_true, if_false, ite_true, ite_false, zgd_t]
    rfl
  · have hx := i_to (show 9 < 2 ^ 31 by omega) hx
    have hx : (scr.2 (i + 1)).toInt < 0 ∨ 8 < (scr.2 (i + 1)).toInt := by omega
    have e1 := m_propertyX (h := h) hx
    obtain ⟨g1, hg1⟩ : ∃ g1, g1 = h := ⟨_, rfl⟩
    have cz : CZ h g1 N P K xs ys := by rw [hg1]; exact CZ_rf C
    have e1 : sX5_property [.ref 0, .int (scr.2 (i + 1))] h = some (.inr 1, g1) := by rw [hg1]; exact e1
    have w1 : sL_property [.ref 0, .int (scr.2 (i + 1)), .ref 139] h = some (.inl (some (.int 1)), g1) := by
      refine zsem_eq (Nat.le_of_ble_eq_true rfl) (zTo_of (gL_property_t1 e1) ?_)
      simp only [z0, zmp_s, zlt_s, zcV_s, zcI_s, zcJ_s, zcA_s, zcD_s, zcF_s, zth_n, zth_t, zrt_s, zQ_l, zQ_r, false_or, or_false, true_or, or_true, false_and, and_false, not_false_eq_true, not_true_eq_false, and_self, true_and, and_true, if_true, if_false, ite_true, ite_false, zgd_t]
    have o := zFr.rf (h := g1) (A := fun c => c = 139 ∨ c = 140)
    have mm := LI_mid H cz o
    have m := mm.1
    obtain ⟨g3, e3, q3, th⟩ := r_propertyX m hx
    have ms := MS2_z mm q3
    have tw := r_thrown ms.2.2.1.1
    rw [th] at tw
    obtain ⟨L, nn⟩ := LI_fin H cz o ms H.by
    have z1 := m.1.1
    have z3 := ms.2.2.1.1.1
    refine ⟨g3, _, _, _, _, _, ?_, L, by omega, by omega⟩
    refine Eq.trans gL_law_27_6 ?_
    simp only [p6, n1, c1, l1, w1, z1, e3, z3, tw, i10, i20, i30, zmp_s, zlt_s, zcV_s, zcI_s, zcJ_s, zcA_s, zcD_s, zcF_s, zth_n, zth_t, zrt_s, zQ_l, zQ_r, false_or, or_false, true_or, or_true, false_and, and_false, not_false_eq_true, not_true_eq_false, and_self, true_and, and_true, if_true, if_false, ite_true, ite_false, zgd_t]
    rfl
theorem kL_7 (H : LI h N P K xs ys) (hi : i + 6 ≤ scr.1) (hs : scr.1 ≤ 3072) : LG scr h i 7 := by
  have C := H.cp
  have M := H.mp
  have c := C.1
  have p6 : nI i + (6 : Int32) = nI (i + 6) := nI_add i 6
  have z0 : (zK h 0).1 = 11 := by rw [c.1.1]
  have F := c.2.2.1
  obtain ⟨n1, c1, l1⟩ := sidx hi hs 1 (by omega)
  have n1 : ((nI i + (1 : Int32)) < 0) = False := n1
  have c1 : (nI i + (1 : Int32)).toNatClampNeg = i + 1 := c1
  have l1 := l1 (by omega)
  obtain ⟨n2, c2, l2⟩ := sidx hi hs 2 (by omega)
  have n2 : ((nI i + (2 : Int32)) < 0) = False := n2
  have c2 : (nI i + (2 : Int32)).toNatClampNeg = i + 2 := c2
  have l2 := l2 (by omega)
  rcases i_split (show N 0 < 2 ^ 31 by have := F.1.1; omega) (scr.2 (i + 1)) with ⟨r, hr, ea⟩ | hx
  · rcases i_split (show 5 < 2 ^ 31 by omega) (scr.2 (i + 2)) with ⟨s, hs2, eb⟩ | hy
    · have e1 := m_room c hr (show s ≤ 4 by omega)
      obtain ⟨g1, hg1⟩ : ∃ g1, g1 = h := ⟨_, rfl⟩
      have cz : CZ h g1 N P K xs ys := by rw [hg1]; exact CZ_rf C
      have e1 : sX5_room [.ref 0, .int (nI r), .int (nI s)] h = some (.inl (some (.int (nRo N r s))), g1) := by rw [hg1]; exact e1
      have k39 : zK g1 139 = (1, 1) := by rw [cz.1.K]; exact H.2.2.2.2.2.2.2.2.2.2.2.2.2.2.1
      obtain ⟨g2, hg2⟩ : ∃ g2, g2 = zsJ g1 139 0 ((nRo N r s)).toInt64 := ⟨_, rfl⟩
      have w1 : sL_room [.ref 0, .int (nI r), .int (nI s), .ref 139] h = some (.inl (some (.int 0)), g2) := by
        refine zsem_eq (Nat.le_of_ble_eq_true rfl) (zTo_of (gL_room_n e1) ?_)
        simp only [z0, k39, c_0, p_0, show ¬ 1 ≤ 0 by omega, ← hg2, zmp_s, zlt_s, zcV_s, zcI_s, zcJ_s, zcA_s, zcD_s, zcF_s, zth_n, zth_t, zrt_s, zQ_l, zQ_r, false_or, or_false, true_or, or_true, false_and, and_false, not_false_eq_true, not_true_eq_false, and_self, true_and, and_true, if_true, if_false, ite_true, ite_false, zgd_t]
      have o : zFr (fun c => c = 139 ∨ c = 140) g1 g2 := by rw [hg2]; exact zFr.sJ (Or.inl rfl)
      have mm := LI_mid H cz o
      have m := mm.1
      obtain ⟨g3, e3, q3, th⟩ := r_room m hr (show s ≤ 4 by omega)
      have ms := MS2_z mm q3
      have tw := r_thrown ms.2.2.1.1
      rw [th] at tw
      obtain ⟨L, nn⟩ := LI_fin H cz o ms H.by
      have z1 := m.1.1
      have z3 := ms.2.2.1.1.1
      have j3 : zJ g3 139 0 = ((nRo N r s)).toInt64 := by rw [ms.1.J (by unfold mfA; omega), hg2, J_sJs, zput_self]
      have q3 : zK g3 139 = (1, 1) := L.2.2.2.2.2.2.2.2.2.2.2.2.2.2.1
      refine ⟨g3, _, _, _, _, _, ?_, L, by omega, by omega⟩
      refine Eq.trans gL_law_27_7 ?_
      simp only [p6, n1, c1, l1, n2, c2, l2, ea, eb, w1, z1, e3, z3, tw, q3, c_0, p_0, show ¬ 1 ≤ 0 by omega, j3, lg0, zmp_s, zlt_s, zcV_s, zcI_s, zcJ_s, zcA_s, zcD_s, zcF_s, zth_n, zth_t, zrt_s, zQ_l, zQ_r, false_or, or_false, true_or, or_true, false_and, and_false, not_false_eq_true, not_true_eq_false, and_self, true_and, and_true, if_true, if_false, ite_true, ite_false, zgd_t]
      rfl
    · have hy := i_to (show 5 < 2 ^ 31 by omega) hy
      have hy : (scr.2 (i + 2)).toInt < 0 ∨ 4 < (scr.2 (i + 2)).toInt := by omega
      have e1 := m_roomY c hr hy
      obtain ⟨g1, hg1⟩ : ∃ g1, g1 = h := ⟨_, rfl⟩
      have cz : CZ h g1 N P K xs ys := by rw [hg1]; exact CZ_rf C
      have e1 : sX5_room [.ref 0, .int (nI r), .int (scr.2 (i + 2))] h = some (.inr 1, g1) := by rw [hg1]; exact e1
      have w1 : sL_room [.ref 0, .int (nI r), .int (scr.2 (i + 2)), .ref 139] h = some (.inl (some (.int 2)), g1) := by
        refine zsem_eq (Nat.le_of_ble_eq_true rfl) (zTo_of (gL_room_t1 e1) ?_)
        simp only [z0, zmp_s, zlt_s, zcV_s, zcI_s, zcJ_s, zcA_s, zcD_s, zcF_s, zth_n, zth_t, zrt_s, zQ_l, zQ_r, false_or, or_false, true_or, or_true, false_and, and_false, not_false_eq_true, not_true_eq_false, and_self, true_and, and_true, if_true, if_false, ite_true, ite_false, zgd_t]
      have o := zFr.rf (h := g1) (A := fun c => c = 139 ∨ c = 140)
      have mm := LI_mid H cz o
      have m := mm.1
      obtain ⟨g3, e3, q3, th⟩ := r_roomY m hr hy
      have ms := MS2_z mm q3
      have tw := r_thrown ms.2.2.1.1
      rw [th] at tw
      obtain ⟨L, nn⟩ := LI_fin H cz o ms H.by
      have z1 := m.1.1
      have z3 := ms.2.2.1.1.1
      refine ⟨g3, _, _, _, _, _, ?_, L, by omega, by omega⟩
      refine Eq.trans gL_law_27_7 ?_
      simp only [p6, n1, c1, l1, n2, c2, l2, ea, w1, z1, e3, z3, tw, i10, i20, i30, zmp_s, zlt_s, zcV_s, zcI_s, zcJ_s, zcA_s, zcD_s, zcF_s, zth_n, zth_t, zrt_s, zQ_l, zQ_r, false_or, or_false, true_or, or_true, false_and, and_false, not_false_eq_true, not_true_eq_false, and_self, true_and, and_true, if_true, if_false, ite_true, ite_false, zgd_t]
      rfl
  · have e1 := m_roomX (y := (scr.2 (i + 2))) c hx
    obtain ⟨g1, hg1⟩ : ∃ g1, g1 = h := ⟨_, rfl⟩
    have cz : CZ h g1 N P K xs ys := by rw [hg1]; exact CZ_rf C
    have e1 : sX5_room [.ref 0, .int (scr.2 (i + 1)), .int (scr.2 (i + 2))] h = some (.inr 2, g1) := by rw [hg1]; exact e1
    have w1 : sL_room [.ref 0, .int (scr.2 (i + 1)), .int (scr.2 (i + 2)), .ref 139] h = some (.inl (some (.int 1)), g1) := by
      refine zsem_eq (Nat.le_of_ble_eq_true rfl) (zTo_of (gL_room_t2 e1) ?_)
      simp only [z0, zmp_s, zlt_s, zcV_s, zcI_s, zcJ_s, zcA_s, zcD_s, zcF_s, zth_n, zth_t, zrt_s, zQ_l, zQ_r, false_or, or_false, true_or, or_true, false_and, and_false, not_false_eq_true, not_true_eq_false, and_self, true_and, and_true, if_true, if_false, ite_true, ite_false, zgd_t]
    have o := zFr.rf (h := g1) (A := fun c => c = 139 ∨ c = 140)
    have mm := LI_mid H cz o
    have m := mm.1
    obtain ⟨g3, e3, q3, th⟩ := r_roomX (y := (scr.2 (i + 2))) m hx
    have ms := MS2_z mm q3
    have tw := r_thrown ms.2.2.1.1
    rw [th] at tw
    obtain ⟨L, nn⟩ := LI_fin H cz o ms H.by
    have z1 := m.1.1
    have z3 := ms.2.2.1.1.1
    refine ⟨g3, _, _, _, _, _, ?_, L, by omega, by omega⟩
    refine Eq.trans gL_law_27_7 ?_
    simp only [p6, n1, c1, l1, n2, c2, l2, w1, z1, e3, z3, tw, i10, i20, i30, zmp_s, zlt_s, zcV_s, zcI_s, zcJ_s, zcA_s, zcD_s, zcF_s, zth_n, zth_t, zrt_s, zQ_l, zQ_r, false_or, or_false, true_or, or_true, false_and, and_false, not_false_eq_true, not_true_eq_false, and_self, true_and, and_true, if_true, if_false, ite_true, ite_false, zgd_t]
    rfl
theorem kL_8 (H : LI h N P K xs ys) (hi : i + 6 ≤ scr.1) (hs : scr.1 ≤ 3072) : LG scr h i 8 := by
  have C := H.cp
  have M := H.mp
  have c := C.1
  have p6 : nI i + (6 : Int32) = nI (i + 6) := nI_add i 6
  have z0 : (zK h 0).1 = 11 := by rw [c.1.1]
  have F := c.2.2.1
  obtain ⟨n1, c1, l1⟩ := sidx hi hs 1 (by omega)
  have n1 : ((nI i + (1 : Int32)) < 0) = False := n1
  have c1 : (nI i + (1 : Int32)).toNatClampNeg = i + 1 := c1
  have l1 := l1 (by omega)
  obtain ⟨n2, c2, l2⟩ := sidx hi hs 2 (by omega)
  have n2 : ((nI i + (2 : Int32)) < 0) = False := n2
  have c2 : (nI i + (2 : Int32)).toNatClampNeg = i + 2 := c2
  have l2 := l2 (by omega)
  rcases i_split (show N 1 < 2 ^ 31 by have := F.1.2.1; omega) (scr.2 (i + 1)) with ⟨r, hr, ea⟩ | hx
  · rcases i_split (show 6 < 2 ^ 31 by omega) (scr.2 (i + 2)) with ⟨s, hs2, eb⟩ | hy
    · have e1 := m_door c hr (show s ≤ 5 by omega)
      obtain ⟨g1, hg1⟩ : ∃ g1, g1 = h := ⟨_, rfl⟩
      have cz : CZ h g1 N P K xs ys := by rw [hg1]; exact CZ_rf C
      have e1 : sX5_door [.ref 0, .int (nI r), .int (nI s)] h = some (.inl (some (.int (nDo N r s))), g1) := by rw [hg1]; exact e1
      have k39 : zK g1 139 = (1, 1) := by rw [cz.1.K]; exact H.2.2.2.2.2.2.2.2.2.2.2.2.2.2.1
      obtain ⟨g2, hg2⟩ : ∃ g2, g2 = zsJ g1 139 0 ((nDo N r s)).toInt64 := ⟨_, rfl⟩
      have w1 : sL_door [.ref 0, .int (nI r), .int (nI s), .ref 139] h = some (.inl (some (.int 0)), g2) := by
        refine zsem_eq (Nat.le_of_ble_eq_true rfl) (zTo_of (gL_door_n e1) ?_)
        simp only [z0, k39, c_0, p_0, show ¬ 1 ≤ 0 by omega, ← hg2, zmp_s, zlt_s, zcV_s, zcI_s, zcJ_s, zcA_s, zcD_s, zcF_s, zth_n, zth_t, zrt_s, zQ_l, zQ_r, false_or, or_false, true_or, or_true, false_and, and_false, not_false_eq_true, not_true_eq_false, and_self, true_and, and_true, if_true, if_false, ite_true, ite_false, zgd_t]
      have o : zFr (fun c => c = 139 ∨ c = 140) g1 g2 := by rw [hg2]; exact zFr.sJ (Or.inl rfl)
      have mm := LI_mid H cz o
      have m := mm.1
      obtain ⟨g3, e3, q3, th⟩ := r_door m hr (show s ≤ 5 by omega)
      have ms := MS2_z mm q3
      have tw := r_thrown ms.2.2.1.1
      rw [th] at tw
      obtain ⟨L, nn⟩ := LI_fin H cz o ms H.by
      have z1 := m.1.1
      have z3 := ms.2.2.1.1.1
      have j3 : zJ g3 139 0 = ((nDo N r s)).toInt64 := by rw [ms.1.J (by unfold mfA; omega), hg2, J_sJs, zput_self]
      have q3 : zK g3 139 = (1, 1) := L.2.2.2.2.2.2.2.2.2.2.2.2.2.2.1
      refine ⟨g3, _, _, _, _, _, ?_, L, by omega, by omega⟩
      refine Eq.trans gL_law_27_8 ?_
      simp only [p6, n1, c1, l1, n2, c2, l2, ea, eb, w1, z1, e3, z3, tw, q3, c_0, p_0, show ¬ 1 ≤ 0 by omega, j3, lg0, zmp_s, zlt_s, zcV_s, zcI_s, zcJ_s, zcA_s, zcD_s, zcF_s, zth_n, zth_t, zrt_s, zQ_l, zQ_r, false_or, or_false, true_or, or_true, false_and, and_false, not_false_eq_true, not_true_eq_false, and_self, true_and, and_true, if_true, if_false, ite_true, ite_false, zgd_t]
      rfl
    · have hy := i_to (show 6 < 2 ^ 31 by omega) hy
      have hy : (scr.2 (i + 2)).toInt < 0 ∨ 5 < (scr.2 (i + 2)).toInt := by omega
      have e1 := m_doorY c hr hy
      obtain ⟨g1, hg1⟩ : ∃ g1, g1 = h := ⟨_, rfl⟩
      have cz : CZ h g1 N P K xs ys := by rw [hg1]; exact CZ_rf C
      have e1 : sX5_door [.ref 0, .int (nI r), .int (scr.2 (i + 2))] h = some (.inr 1, g1) := by rw [hg1]; exact e1
      have w1 : sL_door [.ref 0, .int (nI r), .int (scr.2 (i + 2)), .ref 139] h = some (.inl (some (.int 2)), g1) := by
        refine zsem_eq (Nat.le_of_ble_eq_true rfl) (zTo_of (gL_door_t1 e1) ?_)
        simp only [z0, zmp_s, zlt_s, zcV_s, zcI_s, zcJ_s, zcA_s, zcD_s, zcF_s, zth_n, zth_t, zrt_s, zQ_l, zQ_r, false_or, or_false, true_or, or_true, false_and, and_false, not_false_eq_true, not_true_eq_false, and_self, true_and, and_true, if_true, if_false, ite_true, ite_false, zgd_t]
      have o := zFr.rf (h := g1) (A := fun c => c = 139 ∨ c = 140)
      have mm := LI_mid H cz o
      have m := mm.1
      obtain ⟨g3, e3, q3, th⟩ := r_doorY m hr hy
      have ms := MS2_z mm q3
      have tw := r_thrown ms.2.2.1.1
      rw [th] at tw
      obtain ⟨L, nn⟩ := LI_fin H cz o ms H.by
      have z1 := m.1.1
      have z3 := ms.2.2.1.1.1
      refine ⟨g3, _, _, _, _, _, ?_, L, by omega, by omega⟩
      refine Eq.trans gL_law_27_8 ?_
      simp only [p6, n1, c1, l1, n2, c2, l2, ea, w1, z1, e3, z3, tw, i10, i20, i30, zmp_s, zlt_s, zcV_s, zcI_s, zcJ_s, zcA_s, zcD_s, zcF_s, zth_n, zth_t, zrt_s, zQ_l, zQ_r, false_or, or_false, true_or, or_true, false_and, and_false, not_false_eq_true, not_true_eq_false, and_self, true_and, and_true, if_true, if_false, ite_true, ite_false, zgd_t]
      rfl
  · have e1 := m_doorX (y := (scr.2 (i + 2))) c hx
    obtain ⟨g1, hg1⟩ : ∃ g1, g1 = h := ⟨_, rfl⟩
    have cz : CZ h g1 N P K xs ys := by rw [hg1]; exact CZ_rf C
    have e1 : sX5_door [.ref 0, .int (scr.2 (i + 1)), .int (scr.2 (i + 2))] h = some (.inr 2, g1) := by rw [hg1]; exact e1
    have w1 : sL_door [.ref 0, .int (scr.2 (i + 1)), .int (scr.2 (i + 2)), .ref 139] h = some (.inl (some (.int 1)), g1) := by
      refine zsem_eq (Nat.le_of_ble_eq_true rfl) (zTo_of (gL_door_t2 e1) ?_)
      simp only [z0, zmp_s, zlt_s, zcV_s, zcI_s, zcJ_s, zcA_s, zcD_s, zcF_s, zth_n, zth_t, zrt_s, zQ_l, zQ_r, false_or, or_false, true_or, or_true, false_and, and_false, not_false_eq_true, not_true_eq_false, and_self, true_and, and_true, if_true, if_false, ite_true, ite_false, zgd_t]
    have o := zFr.rf (h := g1) (A := fun c => c = 139 ∨ c = 140)
    have mm := LI_mid H cz o
    have m := mm.1
    obtain ⟨g3, e3, q3, th⟩ := r_doorX (y := (scr.2 (i + 2))) m hx
    have ms := MS2_z mm q3
    have tw := r_thrown ms.2.2.1.1
    rw [th] at tw
    obtain ⟨L, nn⟩ := LI_fin H cz o ms H.by
    have z1 := m.1.1
    have z3 := ms.2.2.1.1.1
    refine ⟨g3, _, _, _, _, _, ?_, L, by omega, by omega⟩
    refine Eq.trans gL_law_27_8 ?_
    simp only [p6, n1, c1, l1, n2, c2, l2, w1, z1, e3, z3, tw, i10, i20, i30, zmp_s, zlt_s, zcV_s, zcI_s, zcJ_s, zcA_s, zcD_s, zcF_s, zth_n, zth_t, zrt_s, zQ_l, zQ_r, false_or, or_false, true_or, or_true, false_and, and_false, not_false_eq_true, not_true_eq_false, and_self, true_and, and_true, if_true, if_false, ite_true, ite_false, zgd_t]
    rfl
theorem kL_33 (H : LI h N P K xs ys) (hi : i + 6 ≤ scr.1) (hs : scr.1 ≤ 3072) : LG scr h i 33 := by
  have C := H.cp
  have M := H.mp
  have c := C.1
  have p6 : nI i + (6 : Int32) = nI (i + 6) := nI_add i 6
  have z0 : (zK h 0).1 = 11 := by rw [c.1.1]
  have F := c.2.2.1
  obtain ⟨n1, c1, l1⟩ := sidx hi hs 1 (by omega)
  have n1 : ((nI i + (1 : Int32)) < 0) = False := n1
  have c1 : (nI i + (1 : Int32)).toNatClampNeg = i + 1 := c1
  have l1 := l1 (by omega)
  obtain ⟨n2, c2, l2⟩ := sidx hi hs 2 (by omega)
  have n2 : ((nI i + (2 : Int32)) < 0) = False := n2
  have c2 : (nI i + (2 : Int32)).toNatClampNeg = i + 2 := c2
  have l2 := l2 (by omega)
  rcases i_split (show N 0 < 2 ^ 31 by have := F.1.1; omega) (scr.2 (i + 1)) with ⟨r, hr, ea⟩ | hx
  · rcases i_split (show N 0 < 2 ^ 31 by have := F.1.1; omega) (scr.2 (i + 2)) with ⟨s, hs2, eb⟩ | hy
    · by_cases ne : r = s
      · subst ne
        have e1 := m_aheadS c hr
        obtain ⟨g1, hg1⟩ : ∃ g1, g1 = h := ⟨_, rfl⟩
        have cz : CZ h g1 N P K xs ys := by rw [hg1]; exact CZ_rf C
        have e1 : sX5_ahead [.ref 0, .int (nI r), .int (nI r)] h = some (.inr 1, g1) := by rw [hg1]; exact e1
        have w1 : sL_ahead [.ref 0, .int (nI r), .int (nI r), .ref 139] h = some (.inl (some (.int 2)), g1) := by
          refine zsem_eq (Nat.le_of_ble_eq_true rfl) (zTo_of (gL_ahead_t1 e1) ?_)
          simp only [z0, zmp_s, zlt_s, zcV_s, zcI_s, zcJ_s, zcA_s, zcD_s, zcF_s, zth_n, zth_t, zrt_s, zQ_l, zQ_r, false_or, or_false, true_or, or_true, false_and, and_false, not_false_eq_true, not_true_eq_false, and_self, true_and, and_true, if_true, if_false, ite_true, ite_false, zgd_t]
        have o := zFr.rf (h := g1) (A := fun c => c = 139 ∨ c = 140)
        have mm := LI_mid H cz o
        have m := mm.1
        obtain ⟨g3, e3, q3, th⟩ := r_aheadS m hr
        have ms := MS2_z mm q3
        have tw := r_thrown ms.2.2.1.1
        rw [th] at tw
        obtain ⟨L, nn⟩ := LI_fin H cz o ms H.by
        have z1 := m.1.1
        have z3 := ms.2.2.1.1.1
        refine ⟨g3, _, _, _, _, _, ?_, L, by omega, by omega⟩
        refine Eq.trans gL_law_27_33 ?_
        simp only [p6, n1, c1, l1, n2, c2, l2, ea, eb, w1, z1, e3, z3, tw, i10, i20, i30, zmp_s, zlt_s, zcV_s, zcI_s, zcJ_s, zcA_s, zcD_s, zcF_s, zth_n, zth_t, zrt_s, zQ_l, zQ_r, false_or, or_false, true_or, or_true, false_and, and_false, not_false_eq_true, not_true_eq_false, and_self, true_and, and_true, if_true, if_false, ite_true, ite_false, zgd_t]
        rfl
      · obtain ⟨g1, e1, q⟩ := m_ahead c hr hs2 ne
        have cz := CZ_q C q
        have k39 : zK g1 139 = (1, 1) := by rw [cz.1.K]; exact H.2.2.2.2.2.2.2.2.2.2.2.2.2.2.1
        obtain ⟨g2, hg2⟩ : ∃ g2, g2 = zsJ g1 139 0 (lN (nAh N r s)) := ⟨_, rfl⟩
        have w1 : sL_ahead [.ref 0, .int (nI r), .int (nI s), .ref 139] h = some (.inl (some (.int 0)), g2) := by
          refine zsem_eq (Nat.le_of_ble_eq_true rfl) (zTo_of (gL_ahead_n e1) ?_)
          simp only [z0, k39, c_0, p_0, show ¬ 1 ≤ 0 by omega, ← hg2, zmp_s, zlt_s, zcV_s, zcI_s, zcJ_s, zcA_s, zcD_s, zcF_s, zth_n, zth_t, zrt_s, zQ_l, zQ_r, false_or, or_false, true_or, or_true, false_and, and_false, not_false_eq_true, not_true_eq_false, and_self, true_and, and_true, if_true, if_false, ite_true, ite_false, zgd_t]
        have o : zFr (fun c => c = 139 ∨ c = 140) g1 g2 := by rw [hg2]; exact zFr.sJ (Or.inl rfl)
        have mm := LI_mid H cz o
        have m := mm.1
        obtain ⟨g3, e3, q3, th⟩ := r_ahead m hr hs2 ne
        have ms := MS2_z mm q3
        have tw := r_thrown ms.2.2.1.1
        rw [th] at tw
        obtain ⟨L, nn⟩ := LI_fin H cz o ms H.by
        have z1 := m.1.1
        have z3 := ms.2.2.1.1.1
        have j3 : zJ g3 139 0 = (lN (nAh N r s)) := by rw [ms.1.J (by unfold mfA; omega), hg2, J_sJs, zput_self]
        have q3 : zK g3 139 = (1, 1) := L.2.2.2.2.2.2.2.2.2.2.2.2.2.2.1
        refine ⟨g3, _, _, _, _, _, ?_, L, by omega, by omega⟩
        refine Eq.trans gL_law_27_33 ?_
        simp only [p6, n1, c1, l1, n2, c2, l2, ea, eb, w1, z1, e3, z3, tw, q3, c_0, p_0, show ¬ 1 ≤ 0 by omega, j3, lg0, zmp_s, zlt_s, zcV_s, zcI_s, zcJ_s, zcA_s, zcD_s, zcF_s, zth_n, zth_t, zrt_s, zQ_l, zQ_r, false_or, or_false, true_or, or_true, false_and, and_false, not_false_eq_true, not_true_eq_false, and_self, true_and, and_true, if_true, if_false, ite_true, ite_false, zgd_t]
        rfl
    · have hxy : (nI r < 0 ∨ nI (N 0) ≤ nI r) ∨ ((∃ r2, r2 < N 0 ∧ nI r = nI r2) ∧ ((scr.2 (i + 2)) < 0 ∨ nI (N 0) ≤ (scr.2 (i + 2)))) := Or.inr ⟨⟨r, hr, rfl⟩, hy⟩
      have e1 := m_aheadX c hxy
      obtain ⟨g1, hg1⟩ : ∃ g1, g1 = h := ⟨_, rfl⟩
      have cz : CZ h g1 N P K xs ys := by rw [hg1]; exact CZ_rf C
      have e1 : sX5_ahead [.ref 0, .int (nI r), .int (scr.2 (i + 2))] h = some (.inr 2, g1) := by rw [hg1]; exact e1
      have w1 : sL_ahead [.ref 0, .int (nI r), .int (scr.2 (i + 2)), .ref 139] h = some (.inl (some (.int 1)), g1) := by
        refine zsem_eq (Nat.le_of_ble_eq_true rfl) (zTo_of (gL_ahead_t2 e1) ?_)
        simp only [z0, zmp_s, zlt_s, zcV_s, zcI_s, zcJ_s, zcA_s, zcD_s, zcF_s, zth_n, zth_t, zrt_s, zQ_l, zQ_r, false_or, or_false, true_or, or_true, false_and, and_false, not_false_eq_true, not_true_eq_false, and_self, true_and, and_true, if_true, if_false, ite_true, ite_false, zgd_t]
      have o := zFr.rf (h := g1) (A := fun c => c = 139 ∨ c = 140)
      have mm := LI_mid H cz o
      have m := mm.1
      obtain ⟨g3, e3, q3, th⟩ := r_aheadX m hxy
      have ms := MS2_z mm q3
      have tw := r_thrown ms.2.2.1.1
      rw [th] at tw
      obtain ⟨L, nn⟩ := LI_fin H cz o ms H.by
      have z1 := m.1.1
      have z3 := ms.2.2.1.1.1
      refine ⟨g3, _, _, _, _, _, ?_, L, by omega, by omega⟩
      refine Eq.trans gL_law_27_33 ?_
      simp only [p6, n1, c1, l1, n2, c2, l2, ea, w1, z1, e3, z3, tw, i10, i20, i30, zmp_s, zlt_s, zcV_s, zcI_s, zcJ_s, zcA_s, zcD_s, zcF_s, zth_n, zth_t, zrt_s, zQ_l, zQ_r, false_or, or_false, true_or, or_true, false_and, and_false, not_false_eq_true, not_true_eq_false, and_self, true_and, and_true, if_true, if_false, ite_true, ite_false, zgd_t]
      rfl
  · have hxy : ((scr.2 (i + 1)) < 0 ∨ nI (N 0) ≤ (scr.2 (i + 1))) ∨ ((∃ r2, r2 < N 0 ∧ (scr.2 (i + 1)) = nI r2) ∧ ((scr.2 (i + 2)) < 0 ∨ nI (N 0) ≤ (scr.2 (i + 2)))) := Or.inl hx
    have e1 := m_aheadX c hxy
    obtain ⟨g1, hg1⟩ : ∃ g1, g1 = h := ⟨_, rfl⟩
    have cz : CZ h g1 N P K xs ys := by rw [hg1]; exact CZ_rf C
    have e1 : sX5_ahead [.ref 0, .int (scr.2 (i + 1)), .int (scr.2 (i + 2))] h = some (.inr 2, g1) := by rw [hg1]; exact e1
    have w1 : sL_ahead [.ref 0, .int (scr.2 (i + 1)), .int (scr.2 (i + 2)), .ref 139] h = some (.inl (some (.int 1)), g1) := by
      refine zsem_eq (Nat.le_of_ble_eq_true rfl) (zTo_of (gL_ahead_t2 e1) ?_)
      simp only [z0, zmp_s, zlt_s, zcV_s, zcI_s, zcJ_s, zcA_s, zcD_s, zcF_s, zth_n, zth_t, zrt_s, zQ_l, zQ_r, false_or, or_false, true_or, or_true, false_and, and_false, not_false_eq_true, not_true_eq_false, and_self, true_and, and_true, if_true, if_false, ite_true, ite_false, zgd_t]
    have o := zFr.rf (h := g1) (A := fun c => c = 139 ∨ c = 140)
    have mm := LI_mid H cz o
    have m := mm.1
    obtain ⟨g3, e3, q3, th⟩ := r_aheadX m hxy
    have ms := MS2_z mm q3
    have tw := r_thrown ms.2.2.1.1
    rw [th] at tw
    obtain ⟨L, nn⟩ := LI_fin H cz o ms H.by
    have z1 := m.1.1
    have z3 := ms.2.2.1.1.1
    refine ⟨g3, _, _, _, _, _, ?_, L, by omega, by omega⟩
    refine Eq.trans gL_law_27_33 ?_
    simp only [p6, n1, c1, l1, n2, c2, l2, w1, z1, e3, z3, tw, i10, i20, i30, zmp_s, zlt_s, zcV_s, zcI_s, zcJ_s, zcA_s, zcD_s, zcF_s, zth_n, zth_t, zrt_s, zQ_l, zQ_r, false_or, or_false, true_or, or_true, false_and, and_false, not_false_eq_true, not_true_eq_false, and_self, true_and, and_true, if_true, if_false, ite_true, ite_false, zgd_t]
    rfl
theorem kL_35 (H : LI h N P K xs ys) (hi : i + 6 ≤ scr.1) (hs : scr.1 ≤ 3072) : LG scr h i 35 := by
  have C := H.cp
  have M := H.mp
  have c := C.1
  have p6 : nI i + (6 : Int32) = nI (i + 6) := nI_add i 6
  have z0 : (zK h 0).1 = 11 := by rw [c.1.1]
  have F := c.2.2.1
  obtain ⟨n1, c1, l1⟩ := sidx hi hs 1 (by omega)
  have n1 : ((nI i + (1 : Int32)) < 0) = False := n1
  have c1 : (nI i + (1 : Int32)).toNatClampNeg = i + 1 := c1
  have l1 := l1 (by omega)
  obtain ⟨n2, c2, l2⟩ := sidx hi hs 2 (by omega)
  have n2 : ((nI i + (2 : Int32)) < 0) = False := n2
  have c2 : (nI i + (2 : Int32)).toNatClampNeg = i + 2 := c2
  have l2 := l2 (by omega)
  rcases i_split (show N 0 < 2 ^ 31 by have := F.1.1; omega) (scr.2 (i + 1)) with ⟨r, hr, ea⟩ | hx
  · rcases i_split (show N 0 < 2 ^ 31 by have := F.1.1; omega) (scr.2 (i + 2)) with ⟨s, hs2, eb⟩ | hy
    · by_cases ne : r = s
      · subst ne
        have e1 := m_behindS c hr
        obtain ⟨g1, hg1⟩ : ∃ g1, g1 = h := ⟨_, rfl⟩
        have cz : CZ h g1 N P K xs ys := by rw [hg1]; exact CZ_rf C
        have e1 : sX5_behind [.ref 0, .int (nI r), .int (nI r)] h = some (.inr 1, g1) := by rw [hg1]; exact e1
        have w1 : sL_behind [.ref 0, .int (nI r), .int (nI r), .ref 139] h = some (.inl (some (.int 2)), g1) := by
          refine zsem_eq (Nat.le_of_ble_eq_true rfl) (zTo_of (gL_behind_t1 e1) ?_)
          simp only [z0, zmp_s, zlt_s, zcV_s, zcI_s, zcJ_s, zcA_s, zcD_s, zcF_s, zth_n, zth_t, zrt_s, zQ_l, zQ_r, false_or, or_false, true_or, or_true, false_and, and_false, not_false_eq_true, not_true_eq_false, and_self, true_and, and_true, if_true, if_false, ite_true, ite_false, zgd_t]
        have o := zFr.rf (h := g1) (A := fun c => c = 139 ∨ c = 140)
        have mm := LI_mid H cz o
        have m := mm.1
        obtain ⟨g3, e3, q3, th⟩ := r_behindS m hr
        have ms := MS2_z mm q3
        have tw := r_thrown ms.2.2.1.1
        rw [th] at tw
        obtain ⟨L, nn⟩ := LI_fin H cz o ms H.by
        have z1 := m.1.1
        have z3 := ms.2.2.1.1.1
        refine ⟨g3, _, _, _, _, _, ?_, L, by omega, by omega⟩
        refine Eq.trans gL_law_27_35 ?_
        simp only [p6, n1, c1, l1, n2, c2, l2, ea, eb, w1, z1, e3, z3, tw, i10, i20, i30, zmp_s, zlt_s, zcV_s, zcI_s, zcJ_s, zcA_s, zcD_s, zcF_s, zth_n, zth_t, zrt_s, zQ_l, zQ_r, false_or, or_false, true_or, or_true, false_and, and_false, not_false_eq_true, not_true_eq_false, and_self, true_and, and_true, if_true, if_false, ite_true, ite_false, zgd_t]
        rfl
      · obtain ⟨g1, e1, q⟩ := m_behind c hr hs2 ne
        have cz := CZ_q C q
        have k39 : zK g1 139 = (1, 1) := by rw [cz.1.K]; exact H.2.2.2.2.2.2.2.2.2.2.2.2.2.2.1
        obtain ⟨g2, hg2⟩ : ∃ g2, g2 = zsJ g1 139 0 (lN (nBe N r s)) := ⟨_, rfl⟩
        have w1 : sL_behind [.ref 0, .int (nI r), .int (nI s), .ref 139] h = some (.inl (some (.int 0)), g2) := by
          refine zsem_eq (Nat.le_of_ble_eq_true rfl) (zTo_of (gL_behind_n e1) ?_)
          simp only [z0, k39, c_0, p_0, show ¬ 1 ≤ 0 by omega, ← hg2, zmp_s, zlt_s, zcV_s, zcI_s, zcJ_s, zcA_s, zcD_s, zcF_s, zth_n, zth_t, zrt_s, zQ_l, zQ_r, false_or, or_false, true_or, or_true, false_and, and_false, not_false_eq_true, not_true_eq_false, and_self, true_and, and_true, if_true, if_false, ite_true, ite_false, zgd_t]
        have o : zFr (fun c => c = 139 ∨ c = 140) g1 g2 := by rw [hg2]; exact zFr.sJ (Or.inl rfl)
        have mm := LI_mid H cz o
        have m := mm.1
        obtain ⟨g3, e3, q3, th⟩ := r_behind m hr hs2 ne
        have ms := MS2_z mm q3
        have tw := r_thrown ms.2.2.1.1
        rw [th] at tw
        obtain ⟨L, nn⟩ := LI_fin H cz o ms H.by
        have z1 := m.1.1
        have z3 := ms.2.2.1.1.1
        have j3 : zJ g3 139 0 = (lN (nBe N r s)) := by rw [ms.1.J (by unfold mfA; omega), hg2, J_sJs, zput_self]
        have q3 : zK g3 139 = (1, 1) := L.2.2.2.2.2.2.2.2.2.2.2.2.2.2.1
        refine ⟨g3, _, _, _, _, _, ?_, L, by omega, by omega⟩
        refine Eq.trans gL_law_27_35 ?_
        simp only [p6, n1, c1, l1, n2, c2, l2, ea, eb, w1, z1, e3, z3, tw, q3, c_0, p_0, show ¬ 1 ≤ 0 by omega, j3, lg0, zmp_s, zlt_s, zcV_s, zcI_s, zcJ_s, zcA_s, zcD_s, zcF_s, zth_n, zth_t, zrt_s, zQ_l, zQ_r, false_or, or_false, true_or, or_true, false_and, and_false, not_false_eq_true, not_true_eq_false, and_self, true_and, and_true, if_true, if_false, ite_true, ite_false, zgd_t]
        rfl
    · have hxy : (nI r < 0 ∨ nI (N 0) ≤ nI r) ∨ ((∃ r2, r2 < N 0 ∧ nI r = nI r2) ∧ ((scr.2 (i + 2)) < 0 ∨ nI (N 0) ≤ (scr.2 (i + 2)))) := Or.inr ⟨⟨r, hr, rfl⟩, hy⟩
      have e1 := m_behindX c hxy
      obtain ⟨g1, hg1⟩ : ∃ g1, g1 = h := ⟨_, rfl⟩
      have cz : CZ h g1 N P K xs ys := by rw [hg1]; exact CZ_rf C
      have e1 : sX5_behind [.ref 0, .int (nI r), .int (scr.2 (i + 2))] h = some (.inr 2, g1) := by rw [hg1]; exact e1
      have w1 : sL_behind [.ref 0, .int (nI r), .int (scr.2 (i + 2)), .ref 139] h = some (.inl (some (.int 1)), g1) := by
        refine zsem_eq (Nat.le_of_ble_eq_true rfl) (zTo_of (gL_behind_t2 e1) ?_)
        simp only [z0, zmp_s, zlt_s, zcV_s, zcI_s, zcJ_s, zcA_s, zcD_s, zcF_s, zth_n, zth_t, zrt_s, zQ_l, zQ_r, false_or, or_false, true_or, or_true, false_and, and_false, not_false_eq_true, not_true_eq_false, and_self, true_and, and_true, if_true, if_false, ite_true, ite_false, zgd_t]
      have o := zFr.rf (h := g1) (A := fun c => c = 139 ∨ c = 140)
      have mm := LI_mid H cz o
      have m := mm.1
      obtain ⟨g3, e3, q3, th⟩ := r_behindX m hxy
      have ms := MS2_z mm q3
      have tw := r_thrown ms.2.2.1.1
      rw [th] at tw
      obtain ⟨L, nn⟩ := LI_fin H cz o ms H.by
      have z1 := m.1.1
      have z3 := ms.2.2.1.1.1
      refine ⟨g3, _, _, _, _, _, ?_, L, by omega, by omega⟩
      refine Eq.trans gL_law_27_35 ?_
      simp only [p6, n1, c1, l1, n2, c2, l2, ea, w1, z1, e3, z3, tw, i10, i20, i30, zmp_s, zlt_s, zcV_s, zcI_s, zcJ_s, zcA_s, zcD_s, zcF_s, zth_n, zth_t, zrt_s, zQ_l, zQ_r, false_or, or_false, true_or, or_true, false_and, and_false, not_false_eq_true, not_true_eq_false, and_self, true_and, and_true, if_true, if_false, ite_true, ite_false, zgd_t]
      rfl
  · have hxy : ((scr.2 (i + 1)) < 0 ∨ nI (N 0) ≤ (scr.2 (i + 1))) ∨ ((∃ r2, r2 < N 0 ∧ (scr.2 (i + 1)) = nI r2) ∧ ((scr.2 (i + 2)) < 0 ∨ nI (N 0) ≤ (scr.2 (i + 2)))) := Or.inl hx
    have e1 := m_behindX c hxy
    obtain ⟨g1, hg1⟩ : ∃ g1, g1 = h := ⟨_, rfl⟩
    have cz : CZ h g1 N P K xs ys := by rw [hg1]; exact CZ_rf C
    have e1 : sX5_behind [.ref 0, .int (scr.2 (i + 1)), .int (scr.2 (i + 2))] h = some (.inr 2, g1) := by rw [hg1]; exact e1
    have w1 : sL_behind [.ref 0, .int (scr.2 (i + 1)), .int (scr.2 (i + 2)), .ref 139] h = some (.inl (some (.int 1)), g1) := by
      refine zsem_eq (Nat.le_of_ble_eq_true rfl) (zTo_of (gL_behind_t2 e1) ?_)
      simp only [z0, zmp_s, zlt_s, zcV_s, zcI_s, zcJ_s, zcA_s, zcD_s, zcF_s, zth_n, zth_t, zrt_s, zQ_l, zQ_r, false_or, or_false, true_or, or_true, false_and, and_false, not_false_eq_true, not_true_eq_false, and_self, true_and, and_true, if_true, if_false, ite_true, ite_false, zgd_t]
    have o := zFr.rf (h := g1) (A := fun c => c = 139 ∨ c = 140)
    have mm := LI_mid H cz o
    have m := mm.1
    obtain ⟨g3, e3, q3, th⟩ := r_behindX m hxy
    have ms := MS2_z mm q3
    have tw := r_thrown ms.2.2.1.1
    rw [th] at tw
    obtain ⟨L, nn⟩ := LI_fin H cz o ms H.by
    have z1 := m.1.1
    have z3 := ms.2.2.1.1.1
    refine ⟨g3, _, _, _, _, _, ?_, L, by omega, by omega⟩
    refine Eq.trans gL_law_27_35 ?_
    simp only [p6, n1, c1, l1, n2, c2, l2, w1, z1, e3, z3, tw, i10, i20, i30, zmp_s, zlt_s, zcV_s, zcI_s, zcJ_s, zcA_s, zcD_s, zcF_s, zth_n, zth_t, zrt_s, zQ_l, zQ_r, false_or, or_false, true_or, or_true, false_and, and_false, not_false_eq_true, not_true_eq_false, and_self, true_and, and_true, if_true, if_false, ite_true, ite_false, zgd_t]
    rfl
theorem kL_34 (H : LI h N P K xs ys) (hi : i + 6 ≤ scr.1) (hs : scr.1 ≤ 3072) : LG scr h i 34 := by
  have C := H.cp
  have M := H.mp
  have c := C.1
  have p6 : nI i + (6 : Int32) = nI (i + 6) := nI_add i 6
  have z0 : (zK h 0).1 = 11 := by rw [c.1.1]
  have F := c.2.2.1
  obtain ⟨n1, c1, l1⟩ := sidx hi hs 1 (by omega)
  have n1 : ((nI i + (1 : Int32)) < 0) = False := n1
  have c1 : (nI i + (1 : Int32)).toNatClampNeg = i + 1 := c1
  have l1 := l1 (by omega)
  obtain ⟨n2, c2, l2⟩ := sidx hi hs 2 (by omega)
  have n2 : ((nI i + (2 : Int32)) < 0) = False := n2
  have c2 : (nI i + (2 : Int32)).toNatClampNeg = i + 2 := c2
  have l2 := l2 (by omega)
  rcases i_split (show N 0 < 2 ^ 31 by have := F.1.1; omega) (scr.2 (i + 1)) with ⟨r, hr, ea⟩ | hx
  · rcases i_split (show N 0 < 2 ^ 31 by have := F.1.1; omega) (scr.2 (i + 2)) with ⟨s, hs2, eb⟩ | hy
    · obtain ⟨g1, e1, q⟩ := m_atPlace c hr hs2
      have cz := CZ_q C q
      have k39 : zK g1 139 = (1, 1) := by rw [cz.1.K]; exact H.2.2.2.2.2.2.2.2.2.2.2.2.2.2.1
      obtain ⟨g2, hg2⟩ : ∃ g2, g2 = zsJ g1 139 0 (lN (nAt N r s)) := ⟨_, rfl⟩
      have w1 : sL_atPlace [.ref 0, .int (nI r), .int (nI s), .ref 139] h = some (.inl (some (.int 0)), g2) := by
        refine zsem_eq (Nat.le_of_ble_eq_true rfl) (zTo_of (gL_atPlace_n e1) ?_)
        simp only [z0, k39, c_0, p_0, show ¬ 1 ≤ 0 by omega, ← hg2, zmp_s, zlt_s, zcV_s, zcI_s, zcJ_s, zcA_s, zcD_s, zcF_s, zth_n, zth_t, zrt_s, zQ_l, zQ_r, false_or, or_false, true_or, or_true, false_and, and_false, not_false_eq_true, not_true_eq_false, and_self, true_and, and_true, if_true, if_false, ite_true, ite_false, zgd_t]
      have o : zFr (fun c => c = 139 ∨ c = 140) g1 g2 := by rw [hg2]; exact zFr.sJ (Or.inl rfl)
      have mm := LI_mid H cz o
      have m := mm.1
      obtain ⟨g3, e3, q3, th⟩ := r_atPlace m hr hs2
      have ms := MS2_z mm q3
      have tw := r_thrown ms.2.2.1.1
      rw [th] at tw
      obtain ⟨L, nn⟩ := LI_fin H cz o ms H.by
      have z1 := m.1.1
      have z3 := ms.2.2.1.1.1
      have j3 : zJ g3 139 0 = (lN (nAt N r s)) := by rw [ms.1.J (by unfold mfA; omega), hg2, J_sJs, zput_self]
      have q3 : zK g3 139 = (1, 1) := L.2.2.2.2.2.2.2.2.2.2.2.2.2.2.1
      refine ⟨g3, _, _, _, _, _, ?_, L, by omega, by omega⟩
      refine Eq.trans gL_law_27_34 ?_
      simp only [p6, n1, c1, l1, n2, c2, l2, ea, eb, w1, z1, e3, z3, tw, q3, c_0, p_0, show ¬ 1 ≤ 0 by omega, j3, lg0, zmp_s, zlt_s, zcV_s, zcI_s, zcJ_s, zcA_s, zcD_s, zcF_s, zth_n, zth_t, zrt_s, zQ_l, zQ_r, false_or, or_false, true_or, or_true, false_and, and_false, not_false_eq_true, not_true_eq_false, and_self, true_and, and_true, if_true, if_false, ite_true, ite_false, zgd_t]
      rfl
    · have e1 := m_atPlaceY c hr hy
      obtain ⟨g1, hg1⟩ : ∃ g1, g1 = h := ⟨_, rfl⟩
      have cz : CZ h g1 N P K xs ys := by rw [hg1]; exact CZ_rf C
      have e1 : sX5_atPlace [.ref 0, .int (nI r), .int (scr.2 (i + 2))] h = some (.inr 1, g1) := by rw [hg1]; exact e1
      have w1 : sL_atPlace [.ref 0, .int (nI r), .int (scr.2 (i + 2)), .ref 139] h = some (.inl (some (.int 2)), g1) := by
        refine zsem_eq (Nat.le_of_ble_eq_true rfl) (zTo_of (gL_atPlace_t1 e1) ?_)
        simp only [z0, zmp_s, zlt_s, zcV_s, zcI_s, zcJ_s, zcA_s, zcD_s, zcF_s, zth_n, zth_t, zrt_s, zQ_l, zQ_r, false_or, or_false, true_or, or_true, false_and, and_false, not_false_eq_true, not_true_eq_false, and_self, true_and, and_true, if_true, if_false, ite_true, ite_false, zgd_t]
      have o := zFr.rf (h := g1) (A := fun c => c = 139 ∨ c = 140)
      have mm := LI_mid H cz o
      have m := mm.1
      obtain ⟨g3, e3, q3, th⟩ := r_atPlaceY m hr hy
      have ms := MS2_z mm q3
      have tw := r_thrown ms.2.2.1.1
      rw [th] at tw
      obtain ⟨L, nn⟩ := LI_fin H cz o ms H.by
      have z1 := m.1.1
      have z3 := ms.2.2.1.1.1
      refine ⟨g3, _, _, _, _, _, ?_, L, by omega, by omega⟩
      refine Eq.trans gL_law_27_34 ?_
      simp only [p6, n1, c1, l1, n2, c2, l2, ea, w1, z1, e3, z3, tw, i10, i20, i30, zmp_s, zlt_s, zcV_s, zcI_s, zcJ_s, zcA_s, zcD_s, zcF_s, zth_n, zth_t, zrt_s, zQ_l, zQ_r, false_or, or_false, true_or, or_true, false_and, and_false, not_false_eq_true, not_true_eq_false, and_self, true_and, and_true, if_true, if_false, ite_true, ite_false, zgd_t]
      rfl
  · have e1 := m_atPlaceX (y := (scr.2 (i + 2))) c hx
    obtain ⟨g1, hg1⟩ : ∃ g1, g1 = h := ⟨_, rfl⟩
    have cz : CZ h g1 N P K xs ys := by rw [hg1]; exact CZ_rf C
    have e1 : sX5_atPlace [.ref 0, .int (scr.2 (i + 1)), .int (scr.2 (i + 2))] h = some (.inr 2, g1) := by rw [hg1]; exact e1
    have w1 : sL_atPlace [.ref 0, .int (scr.2 (i + 1)), .int (scr.2 (i + 2)), .ref 139] h = some (.inl (some (.int 1)), g1) := by
      refine zsem_eq (Nat.le_of_ble_eq_true rfl) (zTo_of (gL_atPlace_t2 e1) ?_)
      simp only [z0, zmp_s, zlt_s, zcV_s, zcI_s, zcJ_s, zcA_s, zcD_s, zcF_s, zth_n, zth_t, zrt_s, zQ_l, zQ_r, false_or, or_false, true_or, or_true, false_and, and_false, not_false_eq_true, not_true_eq_false, and_self, true_and, and_true, if_true, if_false, ite_true, ite_false, zgd_t]
    have o := zFr.rf (h := g1) (A := fun c => c = 139 ∨ c = 140)
    have mm := LI_mid H cz o
    have m := mm.1
    obtain ⟨g3, e3, q3, th⟩ := r_atPlaceX (y := (scr.2 (i + 2))) m hx
    have ms := MS2_z mm q3
    have tw := r_thrown ms.2.2.1.1
    rw [th] at tw
    obtain ⟨L, nn⟩ := LI_fin H cz o ms H.by
    have z1 := m.1.1
    have z3 := ms.2.2.1.1.1
    refine ⟨g3, _, _, _, _, _, ?_, L, by omega, by omega⟩
    refine Eq.trans gL_law_27_34 ?_
    simp only [p6, n1, c1, l1, n2, c2, l2, w1, z1, e3, z3, tw, i10, i20, i30, zmp_s, zlt_s, zcV_s, zcI_s, zcJ_s, zcA_s, zcD_s, zcF_s, zth_n, zth_t, zrt_s, zQ_l, zQ_r, false_or, or_false, true_or, or_true, false_and, and_false, not_false_eq_true, not_true_eq_false, and_self, true_and, and_true, if_true, if_false, ite_true, ite_false, zgd_t]
    rfl
theorem kL_36 (H : LI h N P K xs ys) (hi : i + 6 ≤ scr.1) (hs : scr.1 ≤ 3072) : LG scr h i 36 := by
  have C := H.cp
  have M := H.mp
  have c := C.1
  have p6 : nI i + (6 : Int32) = nI (i + 6) := nI_add i 6
  have z0 : (zK h 0).1 = 11 := by rw [c.1.1]
  have F := c.2.2.1
  obtain ⟨n1, c1, l1⟩ := sidx hi hs 1 (by omega)
  have n1 : ((nI i + (1 : Int32)) < 0) = False := n1
  have c1 : (nI i + (1 : Int32)).toNatClampNeg = i + 1 := c1
  have l1 := l1 (by omega)
  obtain ⟨n2, c2, l2⟩ := sidx hi hs 2 (by omega)
  have n2 : ((nI i + (2 : Int32)) < 0) = False := n2
  have c2 : (nI i + (2 : Int32)).toNatClampNeg = i + 2 := c2
  have l2 := l2 (by omega)
  rcases i_split (show N 0 < 2 ^ 31 by have := F.1.1; omega) (scr.2 (i + 1)) with ⟨r, hr, ea⟩ | hx
  · rcases i_split (show N 0 < 2 ^ 31 by have := F.1.1; omega) (scr.2 (i + 2)) with ⟨s, hs2, eb⟩ | hy
    · obtain ⟨g1, e1, q⟩ := m_share c hr hs2
      have cz := CZ_q C q
      have k39 : zK g1 140 = (4, 1) := by rw [cz.1.K]; exact H.2.2.2.2.2.2.2.2.2.2.2.2.2.2.2
      obtain ⟨g2, hg2⟩ : ∃ g2, g2 = zsD g1 140 0 (nSh N r s) := ⟨_, rfl⟩
      have w1 : sL_share [.ref 0, .int (nI r), .int (nI s), .ref 140] h = some (.inl (some (.int 0)), g2) := by
        refine zsem_eq (Nat.le_of_ble_eq_true rfl) (zTo_of (gL_share_n e1) ?_)
        simp only [z0, k39, c_0, p_0, show ¬ 1 ≤ 0 by omega, ← hg2, zmp_s, zlt_s, zcV_s, zcI_s, zcJ_s, zcA_s, zcD_s, zcF_s, zth_n, zth_t, zrt_s, zQ_l, zQ_r, false_or, or_false, true_or, or_true, false_and, and_false, not_false_eq_true, not_true_eq_false, and_self, true_and, and_true, if_true, if_false, ite_true, ite_false, zgd_t]
      have o : zFr (fun c => c = 139 ∨ c = 140) g1 g2 := by rw [hg2]; exact zFr.sD (Or.inr rfl)
      have mm := LI_mid H cz o
      have m := mm.1
      obtain ⟨g3, e3, q3, th⟩ := r_share m hr hs2
      have ms := MS2_z mm q3
      have tw := r_thrown ms.2.2.1.1
      rw [th] at tw
      obtain ⟨L, nn⟩ := LI_fin H cz o ms H.by
      have z1 := m.1.1
      have z3 := ms.2.2.1.1.1
      have j3 : zD g3 140 0 = (nSh N r s) := by rw [ms.1.D (by unfold mfA; omega), hg2, D_sD, if_pos rfl, zput_self]
      have q3 : zK g3 140 = (4, 1) := L.2.2.2.2.2.2.2.2.2.2.2.2.2.2.2
      refine ⟨g3, _, _, _, _, _, ?_, L, by omega, by omega⟩
      refine Eq.trans gL_law_27_36 ?_
      by_cases nan : Op.cmpValue (FP.dcmp ((nSh N r s)) ((nSh N r s))) .l = 0
      · simp only [p6, n1, c1, l1, n2, c2, l2, ea, eb, w1, z1, e3, z3, tw, q3, c_0, p_0, show ¬ 1 ≤ 0 by omega, j3, eq_true nan, zmp_s, zlt_s, zcV_s, zcI_s, zcJ_s, zcA_s, zcD_s, zcF_s, zth_n, zth_t, zrt_s, zQ_l, zQ_r, false_or, or_false, true_or, or_true, false_and, and_false, not_false_eq_true, not_true_eq_false, and_self, true_and, and_true, if_true, if_false, ite_true, ite_false, zgd_t]
        rfl
      · simp only [p6, n1, c1, l1, n2, c2, l2, ea, eb, w1, z1, e3, z3, tw, q3, c_0, p_0, show ¬ 1 ≤ 0 by omega, j3, eq_false nan, zmp_s, zlt_s, zcV_s, zcI_s, zcJ_s, zcA_s, zcD_s, zcF_s, zth_n, zth_t, zrt_s, zQ_l, zQ_r, false_or, or_false, true_or, or_true, false_and, and_false, not_false_eq_true, not_true_eq_false, and_self, true_and, and_true, if_true, if_false, ite_true, ite_false, zgd_t]
        rfl
    · have e1 := m_shareY c hr hy
      obtain ⟨g1, hg1⟩ : ∃ g1, g1 = h := ⟨_, rfl⟩
      have cz : CZ h g1 N P K xs ys := by rw [hg1]; exact CZ_rf C
      have e1 : sX5_share [.ref 0, .int (nI r), .int (scr.2 (i + 2))] h = some (.inr 1, g1) := by rw [hg1]; exact e1
      have w1 : sL_share [.ref 0, .int (nI r), .int (scr.2 (i + 2)), .ref 140] h = some (.inl (some (.int 2)), g1) := by
        refine zsem_eq (Nat.le_of_ble_eq_true rfl) (zTo_of (gL_share_t1 e1) ?_)
        simp only [z0, zmp_s, zlt_s, zcV_s, zcI_s, zcJ_s, zcA_s, zcD_s, zcF_s, zth_n, zth_t, zrt_s, zQ_l, zQ_r, false_or, or_false, true_or, or_true, false_and, and_false, not_false_eq_true, not_true_eq_false, and_self, true_and, and_true, if_true, if_false, ite_true, ite_false, zgd_t]
      have o := zFr.rf (h := g1) (A := fun c => c = 139 ∨ c = 140)
      have mm := LI_mid H cz o
      have m := mm.1
      obtain ⟨g3, e3, q3, th⟩ := r_shareY m hr hy
      have ms := MS2_z mm q3
      have tw := r_thrown ms.2.2.1.1
      rw [th] at tw
      obtain ⟨L, nn⟩ := LI_fin H cz o ms H.by
      have z1 := m.1.1
      have z3 := ms.2.2.1.1.1
      refine ⟨g3, _, _, _, _, _, ?_, L, by omega, by omega⟩
      refine Eq.trans gL_law_27_36 ?_
      simp only [p6, n1, c1, l1, n2, c2, l2, ea, w1, z1, e3, z3, tw, i10, i20, i30, zmp_s, zlt_s, zcV_s, zcI_s, zcJ_s, zcA_s, zcD_s, zcF_s, zth_n, zth_t, zrt_s, zQ_l, zQ_r, false_or, or_false, true_or, or_true, false_and, and_false, not_false_eq_true, not_true_eq_false, and_self, true_and, and_true, if_true, if_false, ite_true, ite_false, zgd_t]
      rfl
  · have e1 := m_shareX (y := (scr.2 (i + 2))) c hx
    obtain ⟨g1, hg1⟩ : ∃ g1, g1 = h := ⟨_, rfl⟩
    have cz : CZ h g1 N P K xs ys := by rw [hg1]; exact CZ_rf C
    have e1 : sX5_share [.ref 0, .int (scr.2 (i + 1)), .int (scr.2 (i + 2))] h = some (.inr 2, g1) := by rw [hg1]; exact e1
    have w1 : sL_share [.ref 0, .int (scr.2 (i + 1)), .int (scr.2 (i + 2)), .ref 140] h = some (.inl (some (.int 1)), g1) := by
      refine zsem_eq (Nat.le_of_ble_eq_true rfl) (zTo_of (gL_share_t2 e1) ?_)
      simp only [z0, zmp_s, zlt_s, zcV_s, zcI_s, zcJ_s, zcA_s, zcD_s, zcF_s, zth_n, zth_t, zrt_s, zQ_l, zQ_r, false_or, or_false, true_or, or_true, false_and, and_false, not_false_eq_true, not_true_eq_false, and_self, true_and, and_true, if_true, if_false, ite_true, ite_false, zgd_t]
    have o := zFr.rf (h := g1) (A := fun c => c = 139 ∨ c = 140)
    have mm := LI_mid H cz o
    have m := mm.1
    obtain ⟨g3, e3, q3, th⟩ := r_shareX (y := (scr.2 (i + 2))) m hx
    have ms := MS2_z mm q3
    have tw := r_thrown ms.2.2.1.1
    rw [th] at tw
    obtain ⟨L, nn⟩ := LI_fin H cz o ms H.by
    have z1 := m.1.1
    have z3 := ms.2.2.1.1.1
    refine ⟨g3, _, _, _, _, _, ?_, L, by omega, by omega⟩
    refine Eq.trans gL_law_27_36 ?_
    simp only [p6, n1, c1, l1, n2, c2, l2, w1, z1, e3, z3, tw, i10, i20, i30, zmp_s, zlt_s, zcV_s, zcI_s, zcJ_s, zcA_s, zcD_s, zcF_s, zth_n, zth_t, zrt_s, zQ_l, zQ_r, false_or, or_false, true_or, or_true, false_and, and_false, not_false_eq_true, not_true_eq_false, and_self, true_and, and_true, if_true, if_false, ite_true, ite_false, zgd_t]
    rfl
theorem kL_18 (H : LI h N P K xs ys) (hi : i + 6 ≤ scr.1) (hs : scr.1 ≤ 3072) : LG scr h i 18 := by
  have C := H.cp
  have M := H.mp
  have c := C.1
  have p6 : nI i + (6 : Int32) = nI (i + 6) := nI_add i 6
  have z0 : (zK h 0).1 = 11 := by rw [c.1.1]
  have F := c.2.2.1
  obtain ⟨n1, c1, l1⟩ := sidx hi hs 1 (by omega)
  have n1 : ((nI i + (1 : Int32)) < 0) = False := n1
  have c1 : (nI i + (1 : Int32)).toNatClampNeg = i + 1 := c1
  have l1 := l1 (by omega)
  obtain ⟨n2, c2, l2⟩ := sidx hi hs 2 (by omega)
  have n2 : ((nI i + (2 : Int32)) < 0) = False := n2
  have c2 : (nI i + (2 : Int32)).toNatClampNeg = i + 2 := c2
  have l2 := l2 (by omega)
  obtain ⟨n3, c3, l3⟩ := sidx hi hs 3 (by omega)
  have n3 : ((nI i + (3 : Int32)) < 0) = False := n3
  have c3 : (nI i + (3 : Int32)).toNatClampNeg = i + 3 := c3
  have l3 := l3 (by omega)
  obtain ⟨X, hX⟩ : ∃ X, X = ((((scr.2 (i + 1))).toInt64 <<< (((32 : Int32)).toInt64 &&& 63)) ||| (((scr.2 (i + 2))).toInt64 &&& (4294967295 : Int64))) := ⟨_, rfl⟩
  rcases l_split (show nTo N < 2 ^ 62 by have := nTo_lt F; omega) X with ⟨r, hr, ea⟩ | hx
  · rcases i_split (show N 0 < 2 ^ 31 by have := F.1.1; omega) (scr.2 (i + 3)) with ⟨s, hs2, eb⟩ | hy
    · obtain ⟨g1, e1, q⟩ := m_tour c hr hs2
      have cz := CZ_q C q
      have k39 : zK g1 139 = (1, 1) := by rw [cz.1.K]; exact H.2.2.2.2.2.2.2.2.2.2.2.2.2.2.1
      obtain ⟨g2, hg2⟩ : ∃ g2, g2 = zsJ g1 139 0 ((nI (nTp N r s))).toInt64 := ⟨_, rfl⟩
      have w1 : sL_tour [.ref 0, .long (lN r), .int (nI s), .ref 139] h = some (.inl (some (.int 0)), g2) := by
        refine zsem_eq (Nat.le_of_ble_eq_true rfl) (zTo_of (gL_tour_n e1) ?_)
        simp only [z0, k39, c_0, p_0, show ¬ 1 ≤ 0 by omega, ← hg2, zmp_s, zlt_s, zcV_s, zcI_s, zcJ_s, zcA_s, zcD_s, zcF_s, zth_n, zth_t, zrt_s, zQ_l, zQ_r, false_or, or_false, true_or, or_true, false_and, and_false, not_false_eq_true, not_true_eq_false, and_self, true_and, and_true, if_true, if_false, ite_true, ite_false, zgd_t]
      have o : zFr (fun c => c = 139 ∨ c = 140) g1 g2 := by rw [hg2]; exact zFr.sJ (Or.inl rfl)
      have mm := LI_mid H cz o
      have m := mm.1
      obtain ⟨g3, e3, q3, th⟩ := r_tour m hr hs2
      have ms := MS2_z mm q3
      have tw := r_thrown ms.2.2.1.1
      rw [th] at tw
      obtain ⟨L, nn⟩ := LI_fin H cz o ms H.by
      have z1 := m.1.1
      have z3 := ms.2.2.1.1.1
      have j3 : zJ g3 139 0 = ((nI (nTp N r s))).toInt64 := by rw [ms.1.J (by unfold mfA; omega), hg2, J_sJs, zput_self]
      have q3 : zK g3 139 = (1, 1) := L.2.2.2.2.2.2.2.2.2.2.2.2.2.2.1
      refine ⟨g3, _, _, _, _, _, ?_, L, by omega, by omega⟩
      refine Eq.trans gL_law_27_18 ?_
      simp only [p6, n1, c1, l1, n2, c2, l2, n3, c3, l3, ← hX, ea, eb, w1, z1, e3, z3, tw, q3, c_0, p_0, show ¬ 1 ≤ 0 by omega, j3, lg0, zmp_s, zlt_s, zcV_s, zcI_s, zcJ_s, zcA_s, zcD_s, zcF_s, zth_n, zth_t, zrt_s, zQ_l, zQ_r, false_or, or_false, true_or, or_true, false_and, and_false, not_false_eq_true, not_true_eq_false, and_self, true_and, and_true, if_true, if_false, ite_true, ite_false, zgd_t]
      rfl
    · obtain ⟨g1, e1, q⟩ := m_tourY c hr hy
      have cz := CZ_q C q
      have w1 : sL_tour [.ref 0, .long (lN r), .int (scr.2 (i + 3)), .ref 139] h = some (.inl (some (.int 1)), g1) := by
        refine zsem_eq (Nat.le_of_ble_eq_true rfl) (zTo_of (gL_tour_t1 e1) ?_)
        simp only [z0, zmp_s, zlt_s, zcV_s, zcI_s, zcJ_s, zcA_s, zcD_s, zcF_s, zth_n, zth_t, zrt_s, zQ_l, zQ_r, false_or, or_false, true_or, or_true, false_and, and_false, not_false_eq_true, not_true_eq_false, and_self, true_and, and_true, if_true, if_false, ite_true, ite_false, zgd_t]
      have o := zFr.rf (h := g1) (A := fun c => c = 139 ∨ c = 140)
      have mm := LI_mid H cz o
      have m := mm.1
      obtain ⟨g3, e3, q3, th⟩ := r_tourY m hr hy
      have ms := MS2_z mm q3
      have tw := r_thrown ms.2.2.1.1
      rw [th] at tw
      obtain ⟨L, nn⟩ := LI_fin H cz o ms H.by
      have z1 := m.1.1
      have z3 := ms.2.2.1.1.1
      refine ⟨g3, _, _, _, _, _, ?_, L, by omega, by omega⟩
      refine Eq.trans gL_law_27_18 ?_
      simp only [p6, n1, c1, l1, n2, c2, l2, n3, c3, l3, ← hX, ea, w1, z1, e3, z3, tw, i10, i20, i30, zmp_s, zlt_s, zcV_s, zcI_s, zcJ_s, zcA_s, zcD_s, zcF_s, zth_n, zth_t, zrt_s, zQ_l, zQ_r, false_or, or_false, true_or, or_true, false_and, and_false, not_false_eq_true, not_true_eq_false, and_self, true_and, and_true, if_true, if_false, ite_true, ite_false, zgd_t]
      rfl
  · obtain ⟨g1, e1, q⟩ := m_tourX (y := (scr.2 (i + 3))) c hx
    have cz := CZ_q C q
    have w1 : sL_tour [.ref 0, .long X, .int (scr.2 (i + 3)), .ref 139] h = some (.inl (some (.int 1)), g1) := by
      refine zsem_eq (Nat.le_of_ble_eq_true rfl) (zTo_of (gL_tour_t1 e1) ?_)
      simp only [z0, zmp_s, zlt_s, zcV_s, zcI_s, zcJ_s, zcA_s, zcD_s, zcF_s, zth_n, zth_t, zrt_s, zQ_l, zQ_r, false_or, or_false, true_or, or_true, false_and, and_false, not_false_eq_true, not_true_eq_false, and_self, true_and, and_true, if_true, if_false, ite_true, ite_false, zgd_t]
    have o := zFr.rf (h := g1) (A := fun c => c = 139 ∨ c = 140)
    have mm := LI_mid H cz o
    have m := mm.1
    obtain ⟨g3, e3, q3, th⟩ := r_tourX (y := (scr.2 (i + 3))) m hx
    have ms := MS2_z mm q3
    have tw := r_thrown ms.2.2.1.1
    rw [th] at tw
    obtain ⟨L, nn⟩ := LI_fin H cz o ms H.by
    have z1 := m.1.1
    have z3 := ms.2.2.1.1.1
    refine ⟨g3, _, _, _, _, _, ?_, L, by omega, by omega⟩
    refine Eq.trans gL_law_27_18 ?_
    simp only [p6, n1, c1, l1, n2, c2, l2, n3, c3, l3, ← hX, w1, z1, e3, z3, tw, i10, i20, i30, zmp_s, zlt_s, zcV_s, zcI_s, zcJ_s, zcA_s, zcD_s, zcF_s, zth_n, zth_t, zrt_s, zQ_l, zQ_r, false_or, or_false, true_or, or_true, false_and, and_false, not_false_eq_true, not_true_eq_false, and_self, true_and, and_true, if_true, if_false, ite_true, ite_false, zgd_t]
    rfl
theorem kL_44 (H : LI h N P K xs ys) (hi : i + 6 ≤ scr.1) (hs : scr.1 ≤ 3072) : LG scr h i 44 := by
  have C := H.cp
  have M := H.mp
  have c := C.1
  have p6 : nI i + (6 : Int32) = nI (i + 6) := nI_add i 6
  have z0 : (zK h 0).1 = 11 := by rw [c.1.1]
  have F := c.2.2.1
  obtain ⟨n1, c1, l1⟩ := sidx hi hs 1 (by omega)
  have n1 : ((nI i + (1 : Int32)) < 0) = False := n1
  have c1 : (nI i + (1 : Int32)).toNatClampNeg = i + 1 := c1
  have l1 := l1 (by omega)
  obtain ⟨n2, c2, l2⟩ := sidx hi hs 2 (by omega)
  have n2 : ((nI i + (2 : Int32)) < 0) = False := n2
  have c2 : (nI i + (2 : Int32)).toNatClampNeg = i + 2 := c2
  have l2 := l2 (by omega)
  obtain ⟨X, hX⟩ : ∃ X, X = ((((scr.2 (i + 1))).toInt64 <<< (((32 : Int32)).toInt64 &&& 63)) ||| (((scr.2 (i + 2))).toInt64 &&& (4294967295 : Int64))) := ⟨_, rfl⟩
  rcases l_split (show nTo N < 2 ^ 62 by have := nTo_lt F; omega) X with ⟨r, hr, ea⟩ | hx
  · obtain ⟨g1, e1, t⟩ := m_walk c C.2.1 hr
    have cz := CZ_t C t
    have k39 : zK g1 139 = (1, 1) := by rw [cz.1.K]; exact H.2.2.2.2.2.2.2.2.2.2.2.2.2.2.1
    obtain ⟨g2, hg2⟩ : ∃ g2, g2 = zsJ g1 139 0 ((nI (nTp N r (N 0 - 1)))).toInt64 := ⟨_, rfl⟩
    have w1 : sL_walk [.ref 0, .long (lN r), .ref 139] h = some (.inl (some (.int 0)), g2) := by
      refine zsem_eq (Nat.le_of_ble_eq_true rfl) (zTo_of (gL_walk_n e1) ?_)
      simp only [z0, k39, c_0, p_0, show ¬ 1 ≤ 0 by omega, ← hg2, zmp_s, zlt_s, zcV_s, zcI_s, zcJ_s, zcA_s, zcD_s, zcF_s, zth_n, zth_t, zrt_s, zQ_l, zQ_r, false_or, or_false, true_or, or_true, false_and, and_false, not_false_eq_true, not_true_eq_false, and_self, true_and, and_true, if_true, if_false, ite_true, ite_false, zgd_t]
    have o : zFr (fun c => c = 139 ∨ c = 140) g1 g2 := by rw [hg2]; exact zFr.sJ (Or.inl rfl)
    have mm := LI_mid H cz o
    have m := mm.1
    obtain ⟨g3, e3, q3, th⟩ := r_walk m mm.2.1 hr
    have ms := MS2_c mm q3
    have tw := r_thrown ms.2.2.1.1
    rw [th] at tw
    obtain ⟨L, nn⟩ := LI_fin H cz o ms H.by
    have z1 := m.1.1
    have z3 := ms.2.2.1.1.1
    have j3 : zJ g3 139 0 = ((nI (nTp N r (N 0 - 1)))).toInt64 := by rw [ms.1.J (by unfold mfA; omega), hg2, J_sJs, zput_self]
    have q3 : zK g3 139 = (1, 1) := L.2.2.2.2.2.2.2.2.2.2.2.2.2.2.1
    refine ⟨g3, _, _, _, _, _, ?_, L, by omega, by omega⟩
    refine Eq.trans gL_law_27_44 ?_
    simp only [p6, n1, c1, l1, n2, c2, l2, ← hX, ea, w1, z1, e3, z3, tw, q3, c_0, p_0, show ¬ 1 ≤ 0 by omega, j3, lg0, zmp_s, zlt_s, zcV_s, zcI_s, zcJ_s, zcA_s, zcD_s, zcF_s, zth_n, zth_t, zrt_s, zQ_l, zQ_r, false_or, or_false, true_or, or_true, false_and, and_false, not_false_eq_true, not_true_eq_false, and_self, true_and, and_true, if_true, if_false, ite_true, ite_false, zgd_t]
    rfl
  · obtain ⟨g1, e1, q⟩ := m_walkX c hx
    have cz := CZ_q C q
    have w1 : sL_walk [.ref 0, .long X, .ref 139] h = some (.inl (some (.int 1)), g1) := by
      refine zsem_eq (Nat.le_of_ble_eq_true rfl) (zTo_of (gL_walk_t1 e1) ?_)
      simp only [z0, zmp_s, zlt_s, zcV_s, zcI_s, zcJ_s, zcA_s, zcD_s, zcF_s, zth_n, zth_t, zrt_s, zQ_l, zQ_r, false_or, or_false, true_or, or_true, false_and, and_false, not_false_eq_true, not_true_eq_false, and_self, true_and, and_true, if_true, if_false, ite_true, ite_false, zgd_t]
    have o := zFr.rf (h := g1) (A := fun c => c = 139 ∨ c = 140)
    have mm := LI_mid H cz o
    have m := mm.1
    obtain ⟨g3, e3, q3, th⟩ := r_walkX m hx
    have ms := MS2_z mm q3
    have tw := r_thrown ms.2.2.1.1
    rw [th] at tw
    obtain ⟨L, nn⟩ := LI_fin H cz o ms H.by
    have z1 := m.1.1
    have z3 := ms.2.2.1.1.1
    refine ⟨g3, _, _, _, _, _, ?_, L, by omega, by omega⟩
    refine Eq.trans gL_law_27_44 ?_
    simp only [p6, n1, c1, l1, n2, c2, l2, ← hX, w1, z1, e3, z3, tw, i10, i20, i30, zmp_s, zlt_s, zcV_s, zcI_s, zcJ_s, zcA_s, zcD_s, zcF_s, zth_n, zth_t, zrt_s, zQ_l, zQ_r, false_or, or_false, true_or, or_true, false_and, and_false, not_false_eq_true, not_true_eq_false, and_self, true_and, and_true, if_true, if_false, ite_true, ite_false, zgd_t]
    rfl
theorem kL_57 (H : LI h N P K xs ys) (hi : i + 6 ≤ scr.1) (hs : scr.1 ≤ 3072) : LG scr h i 57 := by
  have C := H.cp
  have M := H.mp
  have c := C.1
  have p6 : nI i + (6 : Int32) = nI (i + 6) := nI_add i 6
  have z0 : (zK h 0).1 = 11 := by rw [c.1.1]
  have F := c.2.2.1
  obtain ⟨n1, c1, l1⟩ := sidx hi hs 1 (by omega)
  have n1 : ((nI i + (1 : Int32)) < 0) = False := n1
  have c1 : (nI i + (1 : Int32)).toNatClampNeg = i + 1 := c1
  have l1 := l1 (by omega)
  obtain ⟨n2, c2, l2⟩ := sidx hi hs 2 (by omega)
  have n2 : ((nI i + (2 : Int32)) < 0) = False := n2
  have c2 : (nI i + (2 : Int32)).toNatClampNeg = i + 2 := c2
  have l2 := l2 (by omega)
  obtain ⟨X, hX⟩ : ∃ X, X = ((((scr.2 (i + 1))).toInt64 <<< (((32 : Int32)).toInt64 &&& 63)) ||| (((scr.2 (i + 2))).toInt64 &&& (4294967295 : Int64))) := ⟨_, rfl⟩
  rcases l_split (show nTo N < 2 ^ 62 by have := nTo_lt F; omega) X with ⟨r, hr, ea⟩ | hx
  · obtain ⟨g1, e1, fr, cg, b, x0, x1⟩ := m_writeTour c hr
    have cz : CZ h g1 N P K xs _ := ⟨fr.mono (fun c hc => by unfold scA at hc; unfold cfA; omega), x0, x1, cg, HH_fr fr (fun c h1 h2 hc => by unfold scA at hc; omega) C.2.1, SL_fr fr (fun c h1 h2 hc => by unfold scA at hc; omega) C.2.2.1, BL_fr fr (by unfold scA; omega) (by unfold scA; omega) C.2.2.2.1, b⟩
    have k39 : zK g1 139 = (1, 1) := by rw [cz.1.K]; exact H.2.2.2.2.2.2.2.2.2.2.2.2.2.2.1
    obtain ⟨g2, hg2⟩ : ∃ g2, g2 = zsJ g1 139 0 ((nI (nwr N (nTp N r) (N 0)).length)).toInt64 := ⟨_, rfl⟩
    have w1 : sL_writeTour [.ref 0, .long (lN r), .ref 139] h = some (.inl (some (.int 0)), g2) := by
      refine zsem_eq (Nat.le_of_ble_eq_true rfl) (zTo_of (gL_writeTour_n e1) ?_)
      simp only [z0, k39, c_0, p_0, show ¬ 1 ≤ 0 by omega, ← hg2, zmp_s, zlt_s, zcV_s, zcI_s, zcJ_s, zcA_s, zcD_s, zcF_s, zth_n, zth_t, zrt_s, zQ_l, zQ_r, false_or, or_false, true_or, or_true, false_and, and_false, not_false_eq_true, not_true_eq_false, and_self, true_and, and_true, if_true, if_false, ite_true, ite_false, zgd_t]
    have o : zFr (fun c => c = 139 ∨ c = 140) g1 g2 := by rw [hg2]; exact zFr.sJ (Or.inl rfl)
    have mm := LI_mid H cz o
    have m := mm.1
    obtain ⟨g3, e3, q3, th⟩ := r_writeTour m hr
    have ms := MS2_w mm q3
    have tw := r_thrown ms.2.2.1.1
    rw [th] at tw
    obtain ⟨L, nn⟩ := LI_fin H cz o ms H.by
    have z1 := m.1.1
    have z3 := ms.2.2.1.1.1
    have j3 : zJ g3 139 0 = ((nI (nwr N (nTp N r) (N 0)).length)).toInt64 := by rw [ms.1.J (by unfold mfA; omega), hg2, J_sJs, zput_self]
    have q3 : zK g3 139 = (1, 1) := L.2.2.2.2.2.2.2.2.2.2.2.2.2.2.1
    refine ⟨g3, _, _, _, _, _, ?_, L, by omega, by omega⟩
    refine Eq.trans gL_law_27_57 ?_
    simp only [p6, n1, c1, l1, n2, c2, l2, ← hX, ea, w1, z1, e3, z3, tw, q3, c_0, p_0, show ¬ 1 ≤ 0 by omega, j3, lg0, zmp_s, zlt_s, zcV_s, zcI_s, zcJ_s, zcA_s, zcD_s, zcF_s, zth_n, zth_t, zrt_s, zQ_l, zQ_r, false_or, or_false, true_or, or_true, false_and, and_false, not_false_eq_true, not_true_eq_false, and_self, true_and, and_true, if_true, if_false, ite_true, ite_false, zgd_t]
    rfl
  · obtain ⟨g1, e1, q⟩ := m_writeTourX c hx
    have cz := CZ_q C q
    have w1 : sL_writeTour [.ref 0, .long X, .ref 139] h = some (.inl (some (.int 1)), g1) := by
      refine zsem_eq (Nat.le_of_ble_eq_true rfl) (zTo_of (gL_writeTour_t1 e1) ?_)
      simp only [z0, zmp_s, zlt_s, zcV_s, zcI_s, zcJ_s, zcA_s, zcD_s, zcF_s, zth_n, zth_t, zrt_s, zQ_l, zQ_r, false_or, or_false, true_or, or_true, false_and, and_false, not_false_eq_true, not_true_eq_false, and_self, true_and, and_true, if_true, if_false, ite_true, ite_false, zgd_t]
    have o := zFr.rf (h := g1) (A := fun c => c = 139 ∨ c = 140)
    have mm := LI_mid H cz o
    have m := mm.1
    obtain ⟨g3, e3, q3, th⟩ := r_writeTourX m hx
    have ms := MS2_z mm q3
    have tw := r_thrown ms.2.2.1.1
    rw [th] at tw
    obtain ⟨L, nn⟩ := LI_fin H cz o ms H.by
    have z1 := m.1.1
    have z3 := ms.2.2.1.1.1
    refine ⟨g3, _, _, _, _, _, ?_, L, by omega, by omega⟩
    refine Eq.trans gL_law_27_57 ?_
    simp only [p6, n1, c1, l1, n2, c2, l2, ← hX, w1, z1, e3, z3, tw, i10, i20, i30, zmp_s, zlt_s, zcV_s, zcI_s, zcJ_s, zcA_s, zcD_s, zcF_s, zth_n, zth_t, zrt_s, zQ_l, zQ_r, false_or, or_false, true_or, or_true, false_and, and_false, not_false_eq_true, not_true_eq_false, and_self, true_and, and_true, if_true, if_false, ite_true, ite_false, zgd_t]
    rfl
end ZLM
