/-! THE LAW: the rest of the rounds (written by wip/whole/cases.py). -/
section ZLO
theorem shown_f2d : ∀ a, a < 12 → ∀ b, b < 12 → b = 0 ∨ Jvm.FP.f2d (Jvm.FP.fdiv (Jvm.FP.i2f (nI a)) (Jvm.FP.i2f (nI b))) &&& 0x7fffffffffffffff ≤ 0x7ff0000000000000 := by decide +kernel
theorem MP_up {h g : zm_H} {N : zLv} {P : List zLv} {K : Nat → Option zLv} {xs ys : List Int32} (u : zUp h g) (m : MP h N P K xs ys) : MP g N P K xs ys := by
  have q := MP_fr u.re (fun c h1 h2 => by omega) m
  exact ⟨⟨moS_up u m.1.1, q.1.2.1, q.1.2.2⟩, q.2.1, q.2.2.1, q.2.2.2.1, q.2.2.2.2⟩
variable {scr : Nat × (Nat → Int32)} {h : zm_H} {i : Nat} {N : zLv} {P : List zLv} {K : Nat → Option zLv} {xs ys : List Int32}
theorem kL_45 (H : LI h N P K xs ys) (hi : i + 6 ≤ scr.1) (hs : scr.1 ≤ 3072) : LG scr h i 45 := by
  have C := H.cp
  have M := H.mp
  have c := C.1
  have p6 : nI i + (6 : Int32) = nI (i + 6) := nI_add i 6
  have z0 : (zK h 0).1 = 11 := by rw [c.1.1]
  have F := c.2.2.1
  obtain ⟨n1, c1, l1⟩ := sidx hi hs 1 (by omega)
  have n1 : ((nI i + (1 : Int32)) < 0) = False := n1
  have c1 : (nI i + (1 : Int32)).toNatClampNeg = i + 1 := c1
  have l1 := l1 (by omega)
  obtain ⟨n2, c2, l2⟩ := sidx hi hs 2 (by omega)
  have n2 : ((nI i + (2 : Int32)) < 0) = False := n2
  have c2 : (nI i + (2 : Int32)).toNatClampNeg = i + 2 := c2
  have l2 := l2 (by omega)
  obtain ⟨n3, c3, l3⟩ := sidx hi hs 3 (by omega)
  have n3 : ((nI i + (3 : Int32)) < 0) = False := n3
  have c3 : (nI i + (3 : Int32)).toNatClampNeg = i + 3 := c3
  have l3 := l3 (by omega)
  by_cases w : (scr.2 (i + 3)) = 0
  · rcases i_split (show N 0 < 2 ^ 31 by have := F.1.1; omega) (scr.2 (i + 1)) with ⟨r, hr, ea⟩ | hx
    · rcases i_split (show 8 < 2 ^ 31 by omega) (scr.2 (i + 2)) with ⟨s, hs2, eb⟩ | hy
      · cases eb2 : (N (16 + 3 * r)).testBit s
        · obtain ⟨g1, e1, t⟩ := m_setKey (b := false) c C.2.1 hr hs2
          have cz := CZ_t C t
          rw [zb_f, eb2, zb_f] at e1
          have k39 : zK g1 139 = (1, 1) := by rw [cz.1.K]; exact H.2.2.2.2.2.2.2.2.2.2.2.2.2.2.1
          obtain ⟨g2, hg2⟩ : ∃ g2, g2 = zsJ g1 139 0 (0 : Int64) := ⟨_, rfl⟩
          have w1 : sL_setKey [.ref 0, .int (nI r), .int (nI s), .int (0 : Int32), .ref 139] h = some (.inl (some (.int 0)), g2) := by
            refine zsem_eq (Nat.le_of_ble_eq_true rfl) (zTo_of (gL_setKey_n e1) ?_)
            simp only [z0, k39, c_0, p_0, i10, show ¬ 1 ≤ 0 by omega, ← hg2, zmp_s, zlt_s, zcV_s, zcI_s, zcJ_s, zcA_s, zcD_s, zcF_s, zth_n, zth_t, zrt_s, zQ_l, zQ_r, false_or, or_false, true_or, or_true, false_and, and_false, not_false_eq_true, not_true_eq_false, and_self, true_and, and_true, if_true, if_false, ite_true, ite_false, zgd_t]
          have o : zFr (fun c => c = 139 ∨ c = 140) g1 g2 := by rw [hg2]; exact zFr.sJ (Or.inl rfl)
          have mm := LI_mid H cz o
          have m := mm.1
          obtain ⟨g3, e3, q3, th⟩ := r_setKey (b := false) m mm.2.1 hr hs2 t.2.2.2.1.2.2.1
          have ms := MS2_c mm q3
          rw [zb_f, eb2, zb_f] at e3
          have tw := r_thrown ms.2.2.1.1
          rw [th] at tw
          obtain ⟨L, nn⟩ := LI_fin H cz o ms H.by
          have z1 := m.1.1
          have z3 := ms.2.2.1.1.1
          have j3 : zJ g3 139 0 = (0 : Int64) := by rw [ms.1.J (by unfold mfA; omega), hg2, J_sJs, zput_self]
          have q3 : zK g3 139 = (1, 1) := L.2.2.2.2.2.2.2.2.2.2.2.2.2.2.1
          refine ⟨g3, _, _, _, _, _, ?_, L, by omega, by omega⟩
          refine Eq.trans gL_law_27_45 ?_
          simp only [p6, n1, c1, l1, n2, c2, l2, n3, c3, l3, eq_true w, ea, eb, w1, z1, e3, z3, tw, q3, c_0, p_0, show ¬ 1 ≤ 0 by omega, j3, lg0, i10, zmp_s, zlt_s, zcV_s, zcI_s, zcJ_s, zcA_s, zcD_s, zcF_s, zth_n, zth_t, zrt_s, zQ_l, zQ_r, false_or, or_false, true_or, or_true, false_and, and_false, not_false_eq_true, not_true_eq_false, and_self, true_and, and_true, if_true, if_false, ite_true, ite_false, zgd_t]
          rfl
        · obtain ⟨g1, e1, t⟩ := m_setKey (b := false) c C.2.1 hr hs2
          have cz := CZ_t C t
          rw [zb_f, eb2, zb_t] at e1
          have k39 : zK g1 139 = (1, 1) := by rw [cz.1.K]; exact H.2.2.2.2.2.2.2.2.2.2.2.2.2.2.1
          obtain ⟨g2, hg2⟩ : ∃ g2, g2 = zsJ g1 139 0 (1 : Int64) := ⟨_, rfl⟩
          have w1 : sL_setKey [.ref 0, .int (nI r), .int (nI s), .int (0 : Int32), .ref 139] h = some (.inl (some (.int 0)), g2) := by
            refine zsem_eq (Nat.le_of_ble_eq_true rfl) (zTo_of (gL_setKey_n e1) ?_)
            simp only [z0, k39, c_0, p_0, i10, show ¬ 1 ≤ 0 by omega, ← hg2, zmp_s, zlt_s, zcV_s, zcI_s, zcJ_s, zcA_s, zcD_s, zcF_s, zth_n, zth_t, zrt_s, zQ_l, zQ_r, false_or, or_false, true_or, or_true, false_and, and_false, not_false_eq_true, not_true_eq_false, and_self, true_and, and_true, if_true, if_false, ite_true, ite_false, zgd_t]
          have o : zFr (fun c => c = 139 ∨ c = 140) g1 g2 := by rw [hg2]; exact zFr.sJ (Or.inl rfl)
          have mm := LI_mid H cz o
          have m := mm.1
          obtain ⟨g3, e3, q3, th⟩ := r_setKey (b := false) m mm.2.1 hr hs2 t.2.2.2.1.2.2.1
          have ms := MS2_c mm q3
          rw [zb_f, eb2, zb_t] at e3
          have tw := r_thrown ms.2.2.1.1
          rw [th] at tw
          obtain ⟨L, nn⟩ := LI_fin H cz o ms H.by
          have z1 := m.1.1
          have z3 := ms.2.2.1.1.1
          have j3 : zJ g3 139 0 = (1 : Int64) := by rw [ms.1.J (by unfold mfA; omega), hg2, J_sJs, zput_self]
          have q3 : zK g3 139 = (1, 1) := L.2.2.2.2.2.2.2.2.2.2.2.2.2.2.1
          refine ⟨g3, _, _, _, _, _, ?_, L, by omega, by omega⟩
          refine Eq.trans gL_law_27_45 ?_
          simp only [p6, n1, c1, l1, n2, c2, l2, n3, c3, l3, eq_true w, ea, eb, w1, z1, e3, z3, tw, q3, c_0, p_0, show ¬ 1 ≤ 0 by omega, j3, lg0, i10, zmp_s, zlt_s, zcV_s, zcI_s, zcJ_s, zcA_s, zcD_s, zcF_s, zth_n, zth_t, zrt_s, zQ_l, zQ_r, false_or, or_false, true_or, or_true, false_and, and_false, not_false_eq_true, not_true_eq_false, and_self, true_and, and_true, if_true, if_false, ite_true, ite_false, zgd_t]
          rfl
      · have e1 := m_setKeyY (z := (0 : Int32)) c hr hy
        obtain ⟨g1, hg1⟩ : ∃ g1, g1 = h := ⟨_, rfl⟩
        have cz : CZ h g1 N P K xs ys := by rw [hg1]; exact CZ_rf C
        have e1 : sX5_setKey [.ref 0, .int (nI r), .int (scr.2 (i + 2)), .int (0 : Int32)] h = some (.inr 2, g1) := by rw [hg1]; exact e1
        have w1 : sL_setKey [.ref 0, .int (nI r), .int (scr.2 (i + 2)), .int (0 : Int32), .ref 139] h = some (.inl (some (.int 1)), g1) := by
          refine zsem_eq (Nat.le_of_ble_eq_true rfl) (zTo_of (gL_setKey_t2 e1) ?_)
          simp only [z0, zmp_s, zlt_s, zcV_s, zcI_s, zcJ_s, zcA_s, zcD_s, zcF_s, zth_n, zth_t, zrt_s, zQ_l, zQ_r, false_or, or_false, true_or, or_true, false_and, and_false, not_false_eq_true, not_true_eq_false, and_self, true_and, and_true, if_true, if_false, ite_true, ite_false, zgd_t]
        have o := zFr.rf (h := g1) (A := fun c => c = 139 ∨ c = 140)
        have mm := LI_mid H cz o
        have m := mm.1
        obtain ⟨g3, e3, q3, th⟩ := r_setKeyY (z := (0 : Int32)) m hr hy
        have ms := MS2_z mm q3
        have tw := r_thrown ms.2.2.1.1
        rw [th] at tw
        obtain ⟨L, nn⟩ := LI_fin H cz o ms H.by
        have z1 := m.1.1
        have z3 := ms.2.2.1.1.1
        refine ⟨g3, _, _, _, _, _, ?_, L, by omega, by omega⟩
        refine Eq.trans gL_law_27_45 ?_
        simp only [p6, n1, c1, l1, n2, c2, l2, n3, c3, l3, eq_true w, ea, w1, z1, e3, z3, tw, i10, i20, i30, zmp_s, zlt_s, zcV_s, zcI_s, zcJ_s, zcA_s, zcD_s, zcF_s, zth_n, zth_t, zrt_s, zQ_l, zQ_r, false_or, or_false, true_or, or_true, false_and, and_false, not_false_eq_true, not_true_eq_false, and_self, true_and, and_true, if_true, if_false, ite_true, ite_false, zgd_t]
        rfl
    · have e1 := m_setKeyX (y := (scr.2 (i + 2))) (z := (0 : Int32)) c hx
      obtain ⟨g1, hg1⟩ : ∃ g1, g1 = h := ⟨_, rfl⟩
      have cz : CZ h g1 N P K xs ys := by rw [hg1]; exact CZ_rf C
      have e1 : sX5_setKey [.ref 0, .int (scr.2 (i + 1)), .int (scr.2 (i + 2)), .int (0 : Int32)] h = some (.inr 2, g1) := by rw [hg1]; exact e1
      have w1 : sL_setKey [.ref 0, .int (scr.2 (i + 1)), .int (scr.2 (i + 2)), .int (0 : Int32), .ref 139] h = some (.inl (some (.int 1)), g1) := by
        refine zsem_eq (Nat.le_of_ble_eq_true rfl) (zTo_of (gL_setKey_t2 e1) ?_)
        simp only [z0, zmp_s, zlt_s, zcV_s, zcI_s, zcJ_s, zcA_s, zcD_s, zcF_s, zth_n, zth_t, zrt_s, zQ_l, zQ_r, false_or, or_false, true_or, or_true, false_and, and_false, not_false_eq_true, not_true_eq_false, and_self, true_and, and_true, if_true, if_false, ite_true, ite_false, zgd_t]
      have o := zFr.rf (h := g1) (A := fun c => c = 139 ∨ c = 140)
      have mm := LI_mid H cz o
      have m := mm.1
      obtain ⟨g3, e3, q3, th⟩ := r_setKeyX (y := (scr.2 (i + 2))) (z := (0 : Int32)) m hx
      have ms := MS2_z mm q3
      have tw := r_thrown ms.2.2.1.1
      rw [th] at tw
      obtain ⟨L, nn⟩ := LI_fin H cz o ms H.by
      have z1 := m.1.1
      have z3 := ms.2.2.1.1.1
      refine ⟨g3, _, _, _, _, _, ?_, L, by omega, by omega⟩
      refine Eq.trans gL_law_27_45 ?_
      simp only [p6, n1, c1, l1, n2, c2, l2, n3, c3, l3, eq_true w, w1, z1, e3, z3, tw, i10, i20, i30, zmp_s, zlt_s, zcV_s, zcI_s, zcJ_s, zcA_s, zcD_s, zcF_s, zth_n, zth_t, zrt_s, zQ_l, zQ_r, false_or, or_false, true_or, or_true, false_and, and_false, not_false_eq_true, not_true_eq_false, and_self, true_and, and_true, if_true, if_false, ite_true, ite_false, zgd_t]
      rfl
  · rcases i_split (show N 0 < 2 ^ 31 by have := F.1.1; omega) (scr.2 (i + 1)) with ⟨r, hr, ea⟩ | hx
    · rcases i_split (show 8 < 2 ^ 31 by omega) (scr.2 (i + 2)) with ⟨s, hs2, eb⟩ | hy
      · cases eb2 : (N (16 + 3 * r)).testBit s
        · obtain ⟨g1, e1, t⟩ := m_setKey (b := true) c C.2.1 hr hs2
          have cz := CZ_t C t
          rw [zb_t, eb2, zb_f] at e1
          have k39 : zK g1 139 = (1, 1) := by rw [cz.1.K]; exact H.2.2.2.2.2.2.2.2.2.2.2.2.2.2.1
          obtain ⟨g2, hg2⟩ : ∃ g2, g2 = zsJ g1 139 0 (0 : Int64) := ⟨_, rfl⟩
          have w1 : sL_setKey [.ref 0, .int (nI r), .int (nI s), .int (1 : Int32), .ref 139] h = some (.inl (some (.int 0)), g2) := by
            refine zsem_eq (Nat.le_of_ble_eq_true rfl) (zTo_of (gL_setKey_n e1) ?_)
            simp only [z0, k39, c_0, p_0, i10, show ¬ 1 ≤ 0 by omega, ← hg2, zmp_s, zlt_s, zcV_s, zcI_s, zcJ_s, zcA_s, zcD_s, zcF_s, zth_n, zth_t, zrt_s, zQ_l, zQ_r, false_or, or_false, true_or, or_true, false_and, and_false, not_false_eq_true, not_true_eq_false, and_self, true_and, and_true, if_true, if_false, ite_true, ite_false, zgd_t]
          have o : zFr (fun c => c = 139 ∨ c = 140) g1 g2 := by rw [hg2]; exact zFr.sJ (Or.inl rfl)
          have mm := LI_mid H cz o
          have m := mm.1
          obtain ⟨g3, e3, q3, th⟩ := r_setKey (b := true) m mm.2.1 hr hs2 t.2.2.2.1.2.2.1
          have ms := MS2_c mm q3
          rw [zb_t, eb2, zb_f] at e3
          have tw := r_thrown ms.2.2.1.1
          rw [th] at tw
          obtain ⟨L, nn⟩ := LI_fin H cz o ms H.by
          have z1 := m.1.1
          have z3 := ms.2.2.1.1.1
          have j3 : zJ g3 139 0 = (0 : Int64) := by rw [ms.1.J (by unfold mfA; omega), hg2, J_sJs, zput_self]
          have q3 : zK g3 139 = (1, 1) := L.2.2.2.2.2.2.2.2.2.2.2.2.2.2.1
          refine ⟨g3, _, _, _, _, _, ?_, L, by omega, by omega⟩
          refine Eq.trans gL_law_27_45 ?_
          simp only [p6, n1, c1, l1, n2, c2, l2, n3, c3, l3, eq_false w, ea, eb, w1, z1, e3, z3, tw, q3, c_0, p_0, show ¬ 1 ≤ 0 by omega, j3, lg0, i10, zmp_s, zlt_s, zcV_s, zcI_s, zcJ_s, zcA_s, zcD_s, zcF_s, zth_n, zth_t, zrt_s, zQ_l, zQ_r, false_or, or_false, true_or, or_true, false_and, and_false, not_false_eq_true, not_true_eq_false, and_self, true_and, and_true, if_true, if_false, ite_true, ite_false, zgd_t]
          rfl
        · obtain ⟨g1, e1, t⟩ := m_setKey (b := true) c C.2.1 hr hs2
          have cz := CZ_t C t
          rw [zb_t, eb2, zb_t] at e1
          have k39 : zK g1 139 = (1, 1) := by rw [cz.1.K]; exact H.2.2.2.2.2.2.2.2.2.2.2.2.2.2.1
          obtain ⟨g2, hg2⟩ : ∃ g2, g2 = zsJ g1 139 0 (1 : Int64) := ⟨_, rfl⟩
          have w1 : sL_setKey [.ref 0, .int (nI r), .int (nI s), .int (1 : Int32), .ref 139] h = some (.inl (some (.int 0)), g2) := by
            refine zsem_eq (Nat.le_of_ble_eq_true rfl) (zTo_of (gL_setKey_n e1) ?_)
            simp only [z0, k39, c_0, p_0, i10, show ¬ 1 ≤ 0 by omega, ← hg2, zmp_s, zlt_s, zcV_s, zcI_s, zcJ_s, zcA_s, zcD_s, zcF_s, zth_n, zth_t, zrt_s, zQ_l, zQ_r, false_or, or_false, true_or, or_true, false_and, and_false, not_false_eq_true, not_true_eq_false, and_self, true_and, and_true, if_true, if_false, ite_true, ite_false, zgd_t]
          have o : zFr (fun c => c = 139 ∨ c = 140) g1 g2 := by rw [hg2]; exact zFr.sJ (Or.inl rfl)
          have mm := LI_mid H cz o
          have m := mm.1
          obtain ⟨g3, e3, q3, th⟩ := r_setKey (b := true) m mm.2.1 hr hs2 t.2.2.2.1.2.2.1
          have ms := MS2_c mm q3
          rw [zb_t, eb2, zb_t] at e3
          have tw := r_thrown ms.2.2.1.1
          rw [th] at tw
          obtain ⟨L, nn⟩ := LI_fin H cz o ms H.by
          have z1 := m.1.1
          have z3 := ms.2.2.1.1.1
          have j3 : zJ g3 139 0 = (1 : Int64) := by rw [ms.1.J (by unfold mfA; omega), hg2, J_sJs, zput_self]
          have q3 : zK g3 139 = (1, 1) := L.2.2.2.2.2.2.2.2.2.2.2.2.2.2.1
          refine ⟨g3, _, _, _, _, _, ?_, L, by omega, by omega⟩
          refine Eq.trans gL_law_27_45 ?_
          simp only [p6, n1, c1, l1, n2, c2, l2, n3, c3, l3, eq_false w, ea, eb, w1, z1, e3, z3, tw, q3, c_0, p_0, show ¬ 1 ≤ 0 by omega, j3, lg0, i10, zmp_s, zlt_s, zcV_s, zcI_s, zcJ_s, zcA_s, zcD_s, zcF_s, zth_n, zth_t, zrt_s, zQ_l, zQ_r, false_or, or_false, true_or, or_true, false_and, and_false, not_false_eq_true, not_true_eq_false, and_self, true_and, and_true, if_true, if_false, ite_true, ite_false, zgd_t]
          rfl
      · have e1 := m_setKeyY (z := (1 : Int32)) c hr hy
        obtain ⟨g1, hg1⟩ : ∃ g1, g1 = h := ⟨_, rfl⟩
        have cz : CZ h g1 N P K xs ys := by rw [hg1]; exact CZ_rf C
        have e1 : sX5_setKey [.ref 0, .int (nI r), .int (scr.2 (i + 2)), .int (1 : Int32)] h = some (.inr 2, g1) := by rw [hg1]; exact e1
        have w1 : sL_setKey [.ref 0, .int (nI r), .int (scr.2 (i + 2)), .int (1 : Int32), .ref 139] h = some (.inl (some (.int 1)), g1) := by
          refine zsem_eq (Nat.le_of_ble_eq_true rfl) (zTo_of (gL_setKey_t2 e1) ?_)
          simp only [z0, zmp_s, zlt_s, zcV_s, zcI_s, zcJ_s, zcA_s, zcD_s, zcF_s, zth_n, zth_t, zrt_s, zQ_l, zQ_r, false_or, or_false, true_or, or_true, false_and, and_false, not_false_eq_true, not_true_eq_false, and_self, true_and, and_true, if_true, if_false, ite_true, ite_false, zgd_t]
        have o := zFr.rf (h := g1) (A := fun c => c = 139 ∨ c = 140)
        have mm := LI_mid H cz o
        have m := mm.1
        obtain ⟨g3, e3, q3, th⟩ := r_setKeyY (z := (1 : Int32)) m hr hy
        have ms := MS2_z mm q3
        have tw := r_thrown ms.2.2.1.1
        rw [th] at tw
        obtain ⟨L, nn⟩ := LI_fin H cz o ms H.by
        have z1 := m.1.1
        have z3 := ms.2.2.1.1.1
        refine ⟨g3, _, _, _, _, _, ?_, L, by omega, by omega⟩
        refine Eq.trans gL_law_27_45 ?_
        simp only [p6, n1, c1, l1, n2, c2, l2, n3, c3, l3, eq_false w, ea, w1, z1, e3, z3, tw, i10, i20, i30, zmp_s, zlt_s, zcV_s, zcI_s, zcJ_s, zcA_s, zcD_s, zcF_s, zth_n, zth_t, zrt_s, zQ_l, zQ_r, false_or, or_false, true_or, or_true, false_and, and_false, not_false_eq_true, not_true_eq_false, and_self, true_and, and_true, if_true, if_false, ite_true, ite_false, zgd_t]
        rfl
    · have e1 := m_setKeyX (y := (scr.2 (i + 2))) (z := (1 : Int32)) c hx
      obtain ⟨g1, hg1⟩ : ∃ g1, g1 = h := ⟨_, rfl⟩
      have cz : CZ h g1 N P K xs ys := by rw [hg1]; exact CZ_rf C
      have e1 : sX5_setKey [.ref 0, .int (scr.2 (i + 1)), .int (scr.2 (i + 2)), .int (1 : Int32)] h = some (.inr 2, g1) := by rw [hg1]; exact e1
      have w1 : sL_setKey [.ref 0, .int (scr.2 (i + 1)), .int (scr.2 (i + 2)), .int (1 : Int32), .ref 139] h = some (.inl (some (.int 1)), g1) := by
        refine zsem_eq (Nat.le_of_ble_eq_true rfl) (zTo_of (gL_setKey_t2 e1) ?_)
        simp only [z0, zmp_s, zlt_s, zcV_s, zcI_s, zcJ_s, zcA_s, zcD_s, zcF_s, zth_n, zth_t, zrt_s, zQ_l, zQ_r, false_or, or_false, true_or, or_true, false_and, and_false, not_false_eq_true, not_true_eq_false, and_self, true_and, and_true, if_true, if_false, ite_true, ite_false, zgd_t]
      have o := zFr.rf (h := g1) (A := fun c => c = 139 ∨ c = 140)
      have mm := LI_mid H cz o
      have m := mm.1
      obtain ⟨g3, e3, q3, th⟩ := r_setKeyX (y := (scr.2 (i + 2))) (z := (1 : Int32)) m hx
      have ms := MS2_z mm q3
      have tw := r_thrown ms.2.2.1.1
      rw [th] at tw
      obtain ⟨L, nn⟩ := LI_fin H cz o ms H.by
      have z1 := m.1.1
      have z3 := ms.2.2.1.1.1
      refine ⟨g3, _, _, _, _, _, ?_, L, by omega, by omega⟩
      refine Eq.trans gL_law_27_45 ?_
      simp only [p6, n1, c1, l1, n2, c2, l2, n3, c3, l3, eq_false w, w1, z1, e3, z3, tw, i10, i20, i30, zmp_s, zlt_s, zcV_s, zcI_s, zcJ_s, zcA_s, zcD_s, zcF_s, zth_n, zth_t, zrt_s, zQ_l, zQ_r, false_or, or_false, true_or, or_true, false_and, and_false, not_false_eq_true, not_true_eq_false, and_self, true_and, and_true, if_true, if_false, ite_true, ite_false, zgd_t]
      rfl
theorem kL_48 (H : LI h N P K xs ys) (hi : i + 6 ≤ scr.1) (hs : scr.1 ≤ 3072) : LG scr h i 48 := by
  have C := H.cp
  have M := H.mp
  have c := C.1
  have p6 : nI i + (6 : Int32) = nI (i + 6) := nI_add i 6
  have z0 : (zK h 0).1 = 11 := by rw [c.1.1]
  have F := c.2.2.1
  obtain ⟨n1, c1, l1⟩ := sidx hi hs 1 (by omega)
  have n1 : ((nI i + (1 : Int32)) < 0) = False := n1
  have c1 : (nI i + (1 : Int32)).toNatClampNeg = i + 1 := c1
  have l1 := l1 (by omega)
  obtain ⟨n2, c2, l2⟩ := sidx hi hs 2 (by omega)
  have n2 : ((nI i + (2 : Int32)) < 0) = False := n2
  have c2 : (nI i + (2 : Int32)).toNatClampNeg = i + 2 := c2
  have l2 := l2 (by omega)
  obtain ⟨n3, c3, l3⟩ := sidx hi hs 3 (by omega)
  have n3 : ((nI i + (3 : Int32)) < 0) = False := n3
  have c3 : (nI i + (3 : Int32)).toNatClampNeg = i + 3 := c3
  have l3 := l3 (by omega)
  by_cases w : (scr.2 (i + 3)) = 0
  · rcases i_split (show N 0 < 2 ^ 31 by have := F.1.1; omega) (scr.2 (i + 1)) with ⟨r, hr, ea⟩ | hx
    · rcases i_split (show N 0 < 2 ^ 31 by have := F.1.1; omega) (scr.2 (i + 2)) with ⟨s, hs2, eb⟩ | hy
      · by_cases ne : r = s
        · subst ne
          have e1 := m_addDoorS (z := (0 : Int32)) c hr
          obtain ⟨g1, hg1⟩ : ∃ g1, g1 = h := ⟨_, rfl⟩
          have cz : CZ h g1 N P K xs ys := by rw [hg1]; exact CZ_rf C
          have e1 : sX5_addDoor [.ref 0, .int (nI r), .int (nI r), .int (0 : Int32)] h = some (.inr 1, g1) := by rw [hg1]; exact e1
          have w1 : sL_addDoor [.ref 0, .int (nI r), .int (nI r), .int (0 : Int32), .ref 139] h = some (.inl (some (.int 2)), g1) := by
            refine zsem_eq (Nat.le_of_ble_eq_true rfl) (zTo_of (gL_addDoor_t1 e1) ?_)
            simp only [z0, zmp_s, zlt_s, zcV_s, zcI_s, zcJ_s, zcA_s, zcD_s, zcF_s, zth_n, zth_t, zrt_s, zQ_l, zQ_r, false_or, or_false, true_or, or_true, false_and, and_false, not_false_eq_true, not_true_eq_false, and_self, true_and, and_true, if_true, if_false, ite_true, ite_false, zgd_t]
          have o := zFr.rf (h := g1) (A := fun c => c = 139 ∨ c = 140)
          have mm := LI_mid H cz o
          have m := mm.1
          obtain ⟨g3, e3, q3, th⟩ := r_addDoorS (z := (0 : Int32)) m hr
          have ms := MS2_z mm q3
          have tw := r_thrown ms.2.2.1.1
          rw [th] at tw
          obtain ⟨L, nn⟩ := LI_fin H cz o ms H.by
          have z1 := m.1.1
          have z3 := ms.2.2.1.1.1
          refine ⟨g3, _, _, _, _, _, ?_, L, by omega, by omega⟩
          refine Eq.trans gL_law_27_48 ?_
          simp only [p6, n1, c1, l1, n2, c2, l2, n3, c3, l3, eq_true w, ea, eb, w1, z1, e3, z3, tw, i10, i20, i30, zmp_s, zlt_s, zcV_s, zcI_s, zcJ_s, zcA_s, zcD_s, zcF_s, zth_n, zth_t, zrt_s, zQ_l, zQ_r, false_or, or_false, true_or, or_true, false_and, and_false, not_false_eq_true, not_true_eq_false, and_self, true_and, and_true, if_true, if_false, ite_true, ite_false, zgd_t]
          rfl
        · by_cases n20 : N 1 < 20
          · obtain ⟨g1, e1, t⟩ := m_addDoor (b := false) c C.2.1 hr hs2 ne n20
            have cz := CZ_t C t
            rw [zb_f] at e1
            have k39 : zK g1 139 = (1, 1) := by rw [cz.1.K]; exact H.2.2.2.2.2.2.2.2.2.2.2.2.2.2.1
            obtain ⟨g2, hg2⟩ : ∃ g2, g2 = zsJ g1 139 0 ((nI (N 1))).toInt64 := ⟨_, rfl⟩
            have w1 : sL_addDoor [.ref 0, .int (nI r), .int (nI s), .int (0 : Int32), .ref 139] h = some (.inl (some (.int 0)), g2) := by
              refine zsem_eq (Nat.le_of_ble_eq_true rfl) (zTo_of (gL_addDoor_n e1) ?_)
              simp only [z0, k39, c_0, p_0, show ¬ 1 ≤ 0 by omega, ← hg2, zmp_s, zlt_s, zcV_s, zcI_s, zcJ_s, zcA_s, zcD_s, zcF_s, zth_n, zth_t, zrt_s, zQ_l, zQ_r, false_or, or_false, true_or, or_true, false_and, and_false, not_false_eq_true, not_true_eq_false, and_self, true_and, and_true, if_true, if_false, ite_true, ite_false, zgd_t]
            have o : zFr (fun c => c = 139 ∨ c = 140) g1 g2 := by rw [hg2]; exact zFr.sJ (Or.inl rfl)
            have mm := LI_mid H cz o
            have m := mm.1
            obtain ⟨g3, e3, q3, th⟩ := r_addDoor (b := false) m mm.2.1 hr hs2 ne n20 t.2.2.2.1.2.2.1
            have ms := MS2_c mm q3
            rw [zb_f] at e3
            have tw := r_thrown ms.2.2.1.1
            rw [th] at tw
            obtain ⟨L, nn⟩ := LI_fin H cz o ms H.by
            have z1 := m.1.1
            have z3 := ms.2.2.1.1.1
            have j3 : zJ g3 139 0 = ((nI (N 1))).toInt64 := by rw [ms.1.J (by unfold mfA; omega), hg2, J_sJs, zput_self]
            have q3 : zK g3 139 = (1, 1) := L.2.2.2.2.2.2.2.2.2.2.2.2.2.2.1
            refine ⟨g3, _, _, _, _, _, ?_, L, by omega, by omega⟩
            refine Eq.trans gL_law_27_48 ?_
            simp only [p6, n1, c1, l1, n2, c2, l2, n3, c3, l3, eq_true w, ea, eb, w1, z1, e3, z3, tw, q3, c_0, p_0, show ¬ 1 ≤ 0 by omega, j3, lg0, zmp_s, zlt_s, zcV_s, zcI_s, zcJ_s, zcA_s, zcD_s, zcF_s, zth_n, zth_t, zrt_s, zQ_l, zQ_r, false_or, or_false, true_or, or_true, false_and, and_false, not_false_eq_true, not_true_eq_false, and_self, true_and, and_true, if_true, if_false, ite_true, ite_false, zgd_t]
            rfl
          · have e1 := m_addDoorF (z := (0 : Int32)) c hr hs2 ne n20
            obtain ⟨g1, hg1⟩ : ∃ g1, g1 = h := ⟨_, rfl⟩
            have cz : CZ h g1 N P K xs ys := by rw [hg1]; exact CZ_rf C
            have e1 : sX5_addDoor [.ref 0, .int (nI r), .int (nI s), .int (0 : Int32)] h = some (.inr 0, g1) := by rw [hg1]; exact e1
            have w1 : sL_addDoor [.ref 0, .int (nI r), .int (nI s), .int (0 : Int32), .ref 139] h = some (.inl (some (.int 3)), g1) := by
              refine zsem_eq (Nat.le_of_ble_eq_true rfl) (zTo_of (gL_addDoor_t0 e1) ?_)
              simp only [z0, zmp_s, zlt_s, zcV_s, zcI_s, zcJ_s, zcA_s, zcD_s, zcF_s, zth_n, zth_t, zrt_s, zQ_l, zQ_r, false_or, or_false, true_or, or_true, false_and, and_false, not_false_eq_true, not_true_eq_false, and_self, true_and, and_true, if_true, if_false, ite_true, ite_false, zgd_t]
            have o := zFr.rf (h := g1) (A := fun c => c = 139 ∨ c = 140)
            have mm := LI_mid H cz o
            have m := mm.1
            obtain ⟨g3, e3, q3, th⟩ := r_addDoorF (z := (0 : Int32)) m hr hs2 ne n20
            have ms := MS2_z mm q3
            have tw := r_thrown ms.2.2.1.1
            rw [th] at tw
            obtain ⟨L, nn⟩ := LI_fin H cz o ms H.by
            have z1 := m.1.1
            have z3 := ms.2.2.1.1.1
            refine ⟨g3, _, _, _, _, _, ?_, L, by omega, by omega⟩
            refine Eq.trans gL_law_27_48 ?_
            simp only [p6, n1, c1, l1, n2, c2, l2, n3, c3, l3, eq_true w, ea, eb, w1, z1, e3, z3, tw, i10, i20, i30, zmp_s, zlt_s, zcV_s, zcI_s, zcJ_s, zcA_s, zcD_s, zcF_s, zth_n, zth_t, zrt_s, zQ_l, zQ_r, false_or, or_false, true_or, or_true, false_and, and_false, not_false_eq_true, not_true_eq_false, and_self, true_and, and_true, if_true, if_false, ite_true, ite_false, zgd_t]
            rfl
      · have hxy : (nI r < 0 ∨ nI (N 0) ≤ nI r) ∨ ((∃ r2, r2 < N 0 ∧ nI r = nI r2) ∧ ((scr.2 (i + 2)) < 0 ∨ nI (N 0) ≤ (scr.2 (i + 2)))) := Or.inr ⟨⟨r, hr, rfl⟩, hy⟩
        have e1 := m_addDoorX (z := (0 : Int32)) c hxy
        obtain ⟨g1, hg1⟩ : ∃ g1, g1 = h := ⟨_, rfl⟩
        have cz : CZ h g1 N P K xs ys := by rw [hg1]; exact CZ_rf C
        have e1 : sX5_addDoor [.ref 0, .int (nI r), .int (scr.2 (i + 2)), .int (0 : Int32)] h = some (.inr 2, g1) := by rw [hg1]; exact e1
        have w1 : sL_addDoor [.ref 0, .int (nI r), .int (scr.2 (i + 2)), .int (0 : Int32), .ref 139] h = some (.inl (some (.int 1)), g1) := by
          refine zsem_eq (Nat.le_of_ble_eq_true rfl) (zTo_of (gL_addDoor_t2 e1) ?_)
          simp only [z0, zmp_s, zlt_s, zcV_s, zcI_s, zcJ_s, zcA_s, zcD_s, zcF_s, zth_n, zth_t, zrt_s, zQ_l, zQ_r, false_or, or_false, true_or, or_true, false_and, and_false, not_false_eq_true, not_true_eq_false, and_self, true_and, and_true, if_true, if_false, ite_true, ite_false, zgd_t]
        have o := zFr.rf (h := g1) (A := fun c => c = 139 ∨ c = 140)
        have mm := LI_mid H cz o
        have m := mm.1
        obtain ⟨g3, e3, q3, th⟩ := r_addDoorX (z := (0 : Int32)) m hxy
        have ms := MS2_z mm q3
        have tw := r_thrown ms.2.2.1.1
        rw [th] at tw
        obtain ⟨L, nn⟩ := LI_fin H cz o ms H.by
        have z1 := m.1.1
        have z3 := ms.2.2.1.1.1
        refine ⟨g3, _, _, _, _, _, ?_, L, by omega, by omega⟩
        refine Eq.trans gL_law_27_48 ?_
        simp only [p6, n1, c1, l1, n2, c2, l2, n3, c3, l3, eq_true w, ea, w1, z1, e3, z3, tw, i10, i20, i30, zmp_s, zlt_s, zcV_s, zcI_s, zcJ_s, zcA_s, zcD_s, zcF_s, zth_n, zth_t, zrt_s, zQ_l, zQ_r, false_or, or_false, true_or, or_true, false_and, and_false, not_false_eq_true, not_true_eq_false, and_self, true_and, and_true, if_true, if_false, ite_true, ite_false, zgd_t]
        rfl
    · have hxy : ((scr.2 (i + 1)) < 0 ∨ nI (N 0) ≤ (scr.2 (i + 1))) ∨ ((∃ r2, r2 < N 0 ∧ (scr.2 (i + 1)) = nI r2) ∧ ((scr.2 (i + 2)) < 0 ∨ nI (N 0) ≤ (scr.2 (i + 2)))) := Or.inl hx
      have e1 := m_addDoorX (z := (0 : Int32)) c hxy
      obtain ⟨g1, hg1⟩ : ∃ g1, g1 = h := ⟨_, rfl⟩
      have cz : CZ h g1 N P K xs ys := by rw [hg1]; exact CZ_rf C
      have e1 : sX5_addDoor [.ref 0, .int (scr.2 (i + 1)), .int (scr.2 (i + 2)), .int (0 : Int32)] h = some (.inr 2, g1) := by rw [hg1]; exact e1
      have w1 : sL_addDoor [.ref 0, .int (scr.2 (i + 1)), .int (scr.2 (i + 2)), .int (0 : Int32), .ref 139] h = some (.inl (some (.int 1)), g1) := by
        refine zsem_eq (Nat.le_of_ble_eq_true rfl) (zTo_of (gL_addDoor_t2 e1) ?_)
        simp only [z0, zmp_s, zlt_s, zcV_s, zcI_s, zcJ_s, zcA_s, zcD_s, zcF_s, zth_n, zth_t, zrt_s, zQ_l, zQ_r, false_or, or_false, true_or, or_true, false_and, and_false, not_false_eq_true, not_true_eq_false, and_self, true_and, and_true, if_true, if_false, ite_true, ite_false, zgd_t]
      have o := zFr.rf (h := g1) (A := fun c => c = 139 ∨ c = 140)
      have mm := LI_mid H cz o
      have m := mm.1
      obtain ⟨g3, e3, q3, th⟩ := r_addDoorX (z := (0 : Int32)) m hxy
      have ms := MS2_z mm q3
      have tw := r_thrown ms.2.2.1.1
      rw [th] at tw
      obtain ⟨L, nn⟩ := LI_fin H cz o ms H.by
      have z1 := m.1.1
      have z3 := ms.2.2.1.1.1
      refine ⟨g3, _, _, _, _, _, ?_, L, by omega, by omega⟩
      refine Eq.trans gL_law_27_48 ?_
      simp only [p6, n1, c1, l1, n2, c2, l2, n3, c3, l3, eq_true w, w1, z1, e3, z3, tw, i10, i20, i30, zmp_s, zlt_s, zcV_s, zcI_s, zcJ_s, zcA_s, zcD_s, zcF_s, zth_n, zth_t, zrt_s, zQ_l, zQ_r, false_or, or_false, true_or, or_true, false_and, and_false, not_false_eq_true, not_true_eq_false, and_self, true_and, and_true, if_true, if_false, ite_true, ite_false, zgd_t]
      rfl
  · rcases i_split (show N 0 < 2 ^ 31 by have := F.1.1; omega) (scr.2 (i + 1)) with ⟨r, hr, ea⟩ | hx
    · rcases i_split (show N 0 < 2 ^ 31 by have := F.1.1; omega) (scr.2 (i + 2)) with ⟨s, hs2, eb⟩ | hy
      · by_cases ne : r = s
        · subst ne
          have e1 := m_addDoorS (z := (1 : Int32)) c hr
          obtain ⟨g1, hg1⟩ : ∃ g1, g1 = h := ⟨_, rfl⟩
          have cz : CZ h g1 N P K xs ys := by rw [hg1]; exact CZ_rf C
          have e1 : sX5_addDoor [.ref 0, .int (nI r), .int (nI r), .int (1 : Int32)] h = some (.inr 1, g1) := by rw [hg1]; exact e1
          have w1 : sL_addDoor [.ref 0, .int (nI r), .int (nI r), .int (1 : Int32), .ref 139] h = some (.inl (some (.int 2)), g1) := by
            refine zsem_eq (Nat.le_of_ble_eq_true rfl) (zTo_of (gL_addDoor_t1 e1) ?_)
            simp only [z0, zmp_s, zlt_s, zcV_s, zcI_s, zcJ_s, zcA_s, zcD_s, zcF_s, zth_n, zth_t, zrt_s, zQ_l, zQ_r, false_or, or_false, true_or, or_true, false_and, and_false, not_false_eq_true, not_true_eq_false, and_self, true_and, and_true, if_true, if_false, ite_true, ite_false, zgd_t]
          have o := zFr.rf (h := g1) (A := fun c => c = 139 ∨ c = 140)
          have mm := LI_mid H cz o
          have m := mm.1
          obtain ⟨g3, e3, q3, th⟩ := r_addDoorS (z := (1 : Int32)) m hr
          have ms := MS2_z mm q3
          have tw := r_thrown ms.2.2.1.1
          rw [th] at tw
          obtain ⟨L, nn⟩ := LI_fin H cz o ms H.by
          have z1 := m.1.1
          have z3 := ms.2.2.1.1.1
          refine ⟨g3, _, _, _, _, _, ?_, L, by omega, by omega⟩
          refine Eq.trans gL_law_27_48 ?_
          simp only [p6, n1, c1, l1, n2, c2, l2, n3, c3, l3, eq_false w, ea, eb, w1, z1, e3, z3, tw, i10, i20, i30, zmp_s, zlt_s, zcV_s, zcI_s, zcJ_s, zcA_s, zcD_s, zcF_s, zth_n, zth_t, zrt_s, zQ_l, zQ_r, false_or, or_false, true_or, or_true, false_and, and_false, not_false_eq_true, not_true_eq_false, and_self, true_and, and_true, if_true, if_false, ite_true, ite_false, zgd_t]
          rfl
        · by_cases n20 : N 1 < 20
          · obtain ⟨g1, e1, t⟩ := m_addDoor (b := true) c C.2.1 hr hs2 ne n20
            have cz := CZ_t C t
            rw [zb_t] at e1
            have k39 : zK g1 139 = (1, 1) := by rw [cz.1.K]; exact H.2.2.2.2.2.2.2.2.2.2.2.2.2.2.1
            obtain ⟨g2, hg2⟩ : ∃ g2, g2 = zsJ g1 139 0 ((nI (N 1))).toInt64 := ⟨_, rfl⟩
            have w1 : sL_addDoor [.ref 0, .int (nI r), .int (nI s), .int (1 : Int32), .ref 139] h = some (.inl (some (.int 0)), g2) := by
              refine zsem_eq (Nat.le_of_ble_eq_true rfl) (zTo_of (gL_addDoor_n e1) ?_)
              simp only [z0, k39, c_0, p_0, show ¬ 1 ≤ 0 by omega, ← hg2, zmp_s, zlt_s, zcV_s, zcI_s, zcJ_s, zcA_s, zcD_s, zcF_s, zth_n, zth_t, zrt_s, zQ_l, zQ_r, false_or, or_false, true_or, or_true, false_and, and_false, not_false_eq_true, not_true_eq_false, and_self, true_and, and_true, if_true, if_false, ite_true, ite_false, zgd_t]
            have o : zFr (fun c => c = 139 ∨ c = 140) g1 g2 := by rw [hg2]; exact zFr.sJ (Or.inl rfl)
            have mm := LI_mid H cz o
            have m := mm.1
            obtain ⟨g3, e3, q3, th⟩ := r_addDoor (b := true) m mm.2.1 hr hs2 ne n20 t.2.2.2.1.2.2.1
            have ms := MS2_c mm q3
            rw [zb_t] at e3
            have tw := r_thrown ms.2.2.1.1
            rw [th] at tw
            obtain ⟨L, nn⟩ := LI_fin H cz o ms H.by
            have z1 := m.1.1
            have z3 := ms.2.2.1.1.1
            have j3 : zJ g3 139 0 = ((nI (N 1))).toInt64 := by rw [ms.1.J (by unfold mfA; omega), hg2, J_sJs, zput_self]
            have q3 : zK g3 139 = (1, 1) := L.2.2.2.2.2.2.2.2.2.2.2.2.2.2.1
            refine ⟨g3, _, _, _, _, _, ?_, L, by omega, by omega⟩
            refine Eq.trans gL_law_27_48 ?_
            simp only [p6, n1, c1, l1, n2, c2, l2, n3, c3, l3, eq_false w, ea, eb, w1, z1, e3, z3, tw, q3, c_0, p_0, show ¬ 1 ≤ 0 by omega, j3, lg0, zmp_s, zlt_s, zcV_s, zcI_s, zcJ_s, zcA_s, zcD_s, zcF_s, zth_n, zth_t, zrt_s, zQ_l, zQ_r, false_or, or_false, true_or, or_true, false_and, and_false, not_false_eq_true, not_true_eq_false, and_self, true_and, and_true, if_true, if_false, ite_true, ite_false, zgd_t]
            rfl
          · have e1 := m_addDoorF (z := (1 : Int32)) c hr hs2 ne n20
            obtain ⟨g1, hg1⟩ : ∃ g1, g1 = h := ⟨_, rfl⟩
            have cz : CZ h g1 N P K xs ys := by rw [hg1]; exact CZ_rf C
            have e1 : sX5_addDoor [.ref 0, .int (nI r), .int (nI s), .int (1 : Int32)] h = some (.inr 0, g1) := by rw [hg1]; exact e1
            have w1 : sL_addDoor [.ref 0, .int (nI r), .int (nI s), .int (1 : Int32), .ref 139] h = some (.inl (some (.int 3)), g1) := by
              refine zsem_eq (Nat.le_of_ble_eq_true rfl) (zTo_of (gL_addDoor_t0 e1) ?_)
              simp only [z0, zmp_s, zlt_s, zcV_s, zcI_s, zcJ_s, zcA_s, zcD_s, zcF_s, zth_n, zth_t, zrt_s, zQ_l, zQ_r, false_or, or_false, true_or, or_true, false_and, and_false, not_false_eq_true, not_true_eq_false, and_self, true_and, and_true, if_true, if_false, ite_true, ite_false, zgd_t]
            have o := zFr.rf (h := g1) (A := fun c => c = 139 ∨ c = 140)
            have mm := LI_mid H cz o
            have m := mm.1
            obtain ⟨g3, e3, q3, th⟩ := r_addDoorF (z := (1 : Int32)) m hr hs2 ne n20
            have ms := MS2_z mm q3
            have tw := r_thrown ms.2.2.1.1
            rw [th] at tw
            obtain ⟨L, nn⟩ := LI_fin H cz o ms H.by
            have z1 := m.1.1
            have z3 := ms.2.2.1.1.1
            refine ⟨g3, _, _, _, _, _, ?_, L, by omega, by omega⟩
            refine Eq.trans gL_law_27_48 ?_
            simp only [p6, n1, c1, l1, n2, c2, l2, n3, c3, l3, eq_false w, ea, eb, w1, z1, e3, z3, tw, i10, i20, i30, zmp_s, zlt_s, zcV_s, zcI_s, zcJ_s, zcA_s, zcD_s, zcF_s, zth_n, zth_t, zrt_s, zQ_l, zQ_r, false_or, or_false, true_or, or_true, false_and, and_false, not_false_eq_true, not_true_eq_false, and_self, true_and, and_true, if_true, if_false, ite_true, ite_false, zgd_t]
            rfl
      · have hxy : (nI r < 0 ∨ nI (N 0) ≤ nI r) ∨ ((∃ r2, r2 < N 0 ∧ nI r = nI r2) ∧ ((scr.2 (i + 2)) < 0 ∨ nI (N 0) ≤ (scr.2 (i + 2)))) := Or.inr ⟨⟨r, hr, rfl⟩, hy⟩
        have e1 := m_addDoorX (z := (1 : Int32)) c hxy
        obtain ⟨g1, hg1⟩ : ∃ g1, g1 = h := ⟨_, rfl⟩
        have cz : CZ h g1 N P K xs ys := by rw [hg1]; exact CZ_rf C
        have e1 : sX5_addDoor [.ref 0, .int (nI r), .int (scr.2 (i + 2)), .int (1 : Int32)] h = some (.inr 2, g1) := by rw [hg1]; exact e1
        have w1 : sL_addDoor [.ref 0, .int (nI r), .int (scr.2 (i + 2)), .int (1 : Int32), .ref 139] h = some (.inl (some (.int 1)), g1) := by
          refine zsem_eq (Nat.le_of_ble_eq_true rfl) (zTo_of (gL_addDoor_t2 e1) ?_)
          simp only [z0, zmp_s, zlt_s, zcV_s, zcI_s, zcJ_s, zcA_s, zcD_s, zcF_s, zth_n, zth_t, zrt_s, zQ_l, zQ_r, false_or, or_false, true_or, or_true, false_and, and_false, not_false_eq_true, not_true_eq_false, and_self, true_and, and_true, if_true, if_false, ite_true, ite_false, zgd_t]
        have o := zFr.rf (h := g1) (A := fun c => c = 139 ∨ c = 140)
        have mm := LI_mid H cz o
        have m := mm.1
        obtain ⟨g3, e3, q3, th⟩ := r_addDoorX (z := (1 : Int32)) m hxy
        have ms := MS2_z mm q3
        have tw := r_thrown ms.2.2.1.1
        rw [th] at tw
        obtain ⟨L, nn⟩ := LI_fin H cz o ms H.by
        have z1 := m.1.1
        have z3 := ms.2.2.1.1.1
        refine ⟨g3, _, _, _, _, _, ?_, L, by omega, by omega⟩
        refine Eq.trans gL_law_27_48 ?_
        simp only [p6, n1, c1, l1, n2, c2, l2, n3, c3, l3, eq_false w, ea, w1, z1, e3, z3, tw, i10, i20, i30, zmp_s, zlt_s, zcV_s, zcI_s, zcJ_s, zcA_s, zcD_s, zcF_s, zth_n, zth_t, zrt_s, zQ_l, zQ_r, false_or, or_false, true_or, or_true, false_and, and_false, not_false_eq_true, not_true_eq_false, and_self, true_and, and_true, if_true, if_false, ite_true, ite_false, zgd_t]
        rfl
    · have hxy : ((scr.2 (i + 1)) < 0 ∨ nI (N 0) ≤ (scr.2 (i + 1))) ∨ ((∃ r2, r2 < N 0 ∧ (scr.2 (i + 1)) = nI r2) ∧ ((scr.2 (i + 2)) < 0 ∨ nI (N 0) ≤ (scr.2 (i + 2)))) := Or.inl hx
      have e1 := m_addDoorX (z := (1 : Int32)) c hxy
      obtain ⟨g1, hg1⟩ : ∃ g1, g1 = h := ⟨_, rfl⟩
      have cz : CZ h g1 N P K xs ys := by rw [hg1]; exact CZ_rf C
      have e1 : sX5_addDoor [.ref 0, .int (scr.2 (i + 1)), .int (scr.2 (i + 2)), .int (1 : Int32)] h = some (.inr 2, g1) := by rw [hg1]; exact e1
      have w1 : sL_addDoor [.ref 0, .int (scr.2 (i + 1)), .int (scr.2 (i + 2)), .int (1 : Int32), .ref 139] h = some (.inl (some (.int 1)), g1) := by
        refine zsem_eq (Nat.le_of_ble_eq_true rfl) (zTo_of (gL_addDoor_t2 e1) ?_)
        simp only [z0, zmp_s, zlt_s, zcV_s, zcI_s, zcJ_s, zcA_s, zcD_s, zcF_s, zth_n, zth_t, zrt_s, zQ_l, zQ_r, false_or, or_false, true_or, or_true, false_and, and_false, not_false_eq_true, not_true_eq_false, and_self, true_and, and_true, if_true, if_false, ite_true, ite_false, zgd_t]
      have o := zFr.rf (h := g1) (A := fun c => c = 139 ∨ c = 140)
      have mm := LI_mid H cz o
      have m := mm.1
      obtain ⟨g3, e3, q3, th⟩ := r_addDoorX (z := (1 : Int32)) m hxy
      have ms := MS2_z mm q3
      have tw := r_thrown ms.2.2.1.1
      rw [th] at tw
      obtain ⟨L, nn⟩ := LI_fin H cz o ms H.by
      have z1 := m.1.1
      have z3 := ms.2.2.1.1.1
      refine ⟨g3, _, _, _, _, _, ?_, L, by omega, by omega⟩
      refine Eq.trans gL_law_27_48 ?_
      simp only [p6, n1, c1, l1, n2, c2, l2, n3, c3, l3, eq_false w, w1, z1, e3, z3, tw, i10, i20, i30, zmp_s, zlt_s, zcV_s, zcI_s, zcJ_s, zcA_s, zcD_s, zcF_s, zth_n, zth_t, zrt_s, zQ_l, zQ_r, false_or, or_false, true_or, or_true, false_and, and_false, not_false_eq_true, not_true_eq_false, and_self, true_and, and_true, if_true, if_false, ite_true, ite_false, zgd_t]
      rfl
theorem kL_37 (H : LI h N P K xs ys) (hi : i + 6 ≤ scr.1) (hs : scr.1 ≤ 3072) : LG scr h i 37 := by
  have C := H.cp
  have M := H.mp
  have c := C.1
  have p6 : nI i + (6 : Int32) = nI (i + 6) := nI_add i 6
  have z0 : (zK h 0).1 = 11 := by rw [c.1.1]
  have F := c.2.2.1
  have hW := F.1
  have n1 := F.2.1
  have e1 := m_shown c
  have cz := CZ_rf C
  obtain ⟨g3, e3, q3, -⟩ := r_shown M.1
  have ms := MS2_z M q3
  obtain ⟨L, nn⟩ := LI_fin H cz (zFr.rf (A := fun c => c = 139 ∨ c = 140)) ms H.by
  have z1 := M.1.1.1
  have dn := (shown_f2d (N 4) (by have := hW.2.2.1; omega) (N 0) (by have := hW.1; omega)).resolve_left (by omega)
  refine ⟨g3, _, _, _, _, _, ?_, L, by omega, by omega⟩
  refine Eq.trans gL_law_27_37 ?_
  obtain ⟨v, hv⟩ : ∃ v, v = Jvm.FP.f2d (Jvm.FP.fdiv (Jvm.FP.i2f (nI (N 4))) (Jvm.FP.i2f (nI (N 0)))) := ⟨_, rfl⟩
  rw [← hv] at dn
  by_cases nan : Op.cmpValue (FP.dcmp v v) .l = 0
  · simp only [p6, z0, e1, z1, e3, ← hv, dn, eq_true nan, zmp_s, zlt_s, zcV_s, zcI_s, zcJ_s, zcA_s, zcD_s, zcF_s, zth_n, zth_t, zrt_s, zQ_l, zQ_r, false_or, or_false, true_or, or_true, false_and, and_false, not_false_eq_true, not_true_eq_false, and_self, true_and, and_true, if_true, if_false, ite_true, ite_false, zgd_t]
    rfl
  · simp only [p6, z0, e1, z1, e3, ← hv, dn, eq_false nan, zmp_s, zlt_s, zcV_s, zcI_s, zcJ_s, zcA_s, zcD_s, zcF_s, zth_n, zth_t, zrt_s, zQ_l, zQ_r, false_or, or_false, true_or, or_true, false_and, and_false, not_false_eq_true, not_true_eq_false, and_self, true_and, and_true, if_true, if_false, ite_true, ite_false, zgd_t]
    rfl
theorem kL_2 (H : LI h N P K xs ys) (hz : zN h < 900000) : LG scr h i 2 := by
  have C := H.cp
  have M := H.mp
  have c := C.1
  have p6 : nI i + (6 : Int32) = nI (i + 6) := nI_add i 6
  have z0 : (zK h 0).1 = 11 := by rw [c.1.1]
  have h141 := H.2.2.2.2.2.2.2.2.2.2.2.2.2.1
  obtain ⟨k, g, u, nk, fr, b, hh⟩ := m_load c C.2.1 C.2.2.2.1 H.by h141 hz
  have Mg : MP g N P K xs ys := MP_fr fr (fun c h1 h2 q => by unfold ldA at q; omega) (MP_up u M)
  have sg : SL g K := SL_fr fr (fun c h1 h2 q => by unfold ldA at q; omega) (SL_up u C.2.2.1)
  have og : BL g 3 4 77 ys := BL_fr fr (by unfold ldA; omega) (by unfold ldA; omega) (BL_up u (by omega) (by omega) C.2.2.2.2)
  have nG : zN g = zN h + 1 := by rw [fr.1]; exact nk
  obtain ⟨g3, f3, j3, t3, mb, h3⟩ := r_load Mg.1 Mg.2.1 Mg.2.2.2.1 H.by (by omega)
  have m0 : moS g 126 := Mg.1.1
  have z1 := m0.1
  have n3 : zN g3 = zN h + 1 := by rw [f3.1]; exact nG
  have k9 : zK g3 139 = (1, 1) := by rw [f3.K, fr.K, u.1 139 (by omega)]; exact H.2.2.2.2.2.2.2.2.2.2.2.2.2.2.1
  have k0 : zK g3 140 = (4, 1) := by rw [f3.K, fr.K, u.1 140 (by omega)]; exact H.2.2.2.2.2.2.2.2.2.2.2.2.2.2.2
  have no : ∀ c, c ≤ 124 → ¬ ldM c := fun c h1 q => by unfold ldM at q; omega
  have ks : KS g3 K := by
    intro s hs
    obtain ⟨x, y⟩ := Mg.2.2.1 s hs
    exact ⟨by rw [f3.I (by unfold ldM; omega)]; exact x, fun M hM => ⟨(y M hM).1, fun j hj => by rw [f3.I (by unfold ldM; omega)]; exact (y M hM).2 j hj⟩⟩
  have mo : MO g3 ys := ⟨by rw [j3 26 (by omega) (by omega) (by omega)]; exact Mg.2.2.2.2.1, Mg.2.2.2.2.2.1, fun i hi => by rw [f3.I (by unfold ldM; omega)]; exact Mg.2.2.2.2.2.2 i hi⟩
  have fin : ∀ N' P', CI g N' → HH g P' → MI g3 N' → HP g3 P' → zI g 0 10 = zI g3 125 17 → zI g 0 11 = zI g3 125 18 → LI g3 N' P' K [] ys := by
    intro N' P' a1 a2 a3 a4 a5 a6
    have e0 : zI g3 0 = zI g 0 := f3.I (no 0 (by omega))
    exact ⟨a1.fr f3 (fun c hc => no c (by omega)), a3, HH_fr f3 (fun c h1 h2 => no c (by omega)) a2, a4, SL_fr f3 (fun c h1 h2 => no c (by omega)) sg, ks, BL_fr f3 (no 1 (by omega)) (no 2 (by omega)) b, mb, fun i hi => absurd hi (Nat.not_lt_zero i), BL_fr f3 (no 3 (by omega)) (no 4 (by omega)) og, mo, by rw [e0]; exact a5, by rw [e0]; exact a6, by omega, k9, k0⟩
  rcases hh with ⟨e, hu, e1, ci, hp, x0, x1⟩ | ⟨M2, hu, e1, ci, hp, x0, x1⟩
  · rcases h3 with ⟨e', hu', e3, mi, hp', y0, y1⟩ | ⟨M3, hu', e3, mi, hp', y0, y1⟩
    · rw [hu] at hu'
      have ee : e = e' := by injection hu'
      subst ee
      refine ⟨g3, N, P, K, [], ys, ?_, fin N P ci hp mi hp' (by rw [x0, y0]) (by rw [x1, y1]), by omega, by omega⟩
      refine Eq.trans gL_law_27_2 ?_
      simp only [p6, z0, e1, z1, e3, zmp_s, zlt_s, zcV_s, zcI_s, zcJ_s, zcA_s, zcD_s, zcF_s, zth_n, zth_t, zrt_s, zQ_l, zQ_r, false_or, or_false, true_or, or_true, false_and, and_false, not_false_eq_true, not_true_eq_false, and_self, true_and, and_true, if_true, if_false, ite_true, ite_false, zgd_t]
      rfl
    · rw [hu] at hu'; cases hu'
  · rcases h3 with ⟨e', hu', e3, mi, hp', y0, y1⟩ | ⟨M3, hu', e3, mi, hp', y0, y1⟩
    · rw [hu] at hu'; cases hu'
    · rw [hu] at hu'
      have ee : M2 = M3 := by injection hu'
      subst ee
      refine ⟨g3, fW M2, pst N P, K, [], ys, ?_, fin _ _ ci hp mi hp' (by rw [x0, y0]) (by rw [x1, y1]), by omega, by omega⟩
      refine Eq.trans gL_law_27_2 ?_
      simp only [p6, z0, e1, z1, e3, zmp_s, zlt_s, zcV_s, zcI_s, zcJ_s, zcA_s, zcD_s, zcF_s, zth_n, zth_t, zrt_s, zQ_l, zQ_r, false_or, or_false, true_or, or_true, false_and, and_false, not_false_eq_true, not_true_eq_false, and_self, true_and, and_true, if_true, if_false, ite_true, ite_false, zgd_t]
      rfl
theorem kL_d {x : Int32} (H : LI h N P K xs ys) (hx : x.toInt < 0 ∨ 59 < x.toInt) : LG scr h i x := by
  have p6 : nI i + (6 : Int32) = nI (i + 6) := nI_add i 6
  refine ⟨h, _, _, _, _, _, ?_, H, by omega, by omega⟩
  refine Eq.trans (gL_law_27_d hx) ?_
  rw [p6]
  rfl
end ZLO
