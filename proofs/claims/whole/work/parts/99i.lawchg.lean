/-! THE LAW: rounds that change (written by wip/whole/cases.py). -/
section ZLN
theorem i_gt {n : Nat} {x : Int32} (hn : n + 1 < 2 ^ 31) (hx : x < 0 ∨ nI (n + 1) ≤ x) : x < 0 ∨ ¬ x ≤ nI n := by
  rcases hx with q | q
  · exact Or.inl q
  · right
    have := Int32.le_iff_toInt_le.mp q
    rw [nI_toInt hn] at this
    rw [Int32.le_iff_toInt_le, nI_toInt (by omega)]
    omega
theorem i_nlt {n : Nat} {x : Int32} (hx : x < 0 ∨ nI n ≤ x) : x < 0 ∨ ¬ x < nI n := by
  rcases hx with q | q
  · exact Or.inl q
  · right
    rw [Int32.lt_iff_toInt_lt]
    have := Int32.le_iff_toInt_le.mp q
    omega
theorem e_split {n : Nat} (hn : n < 2 ^ 30) (x : Int32) : (∃ r, r ≤ n ∧ x = eI r) ∨ (x ≠ -1 ∧ (x < 0 ∨ nI n ≤ x)) := by
  by_cases m1 : x = -1
  · exact Or.inl ⟨0, by omega, by rw [eI_0]; exact m1⟩
  · rcases i_split (show n < 2 ^ 31 by omega) x with ⟨r, hr, e⟩ | q
    · exact Or.inl ⟨r + 1, by omega, by rw [eI_s]; exact e⟩
    · exact Or.inr ⟨m1, q⟩
theorem BY_app {xs ys : List Int32} (h1 : BY xs) (h2 : BY ys) : BY (xs ++ ys) := by
  intro i hi
  rw [List.length_append] at hi
  by_cases w : i < xs.length
  · rw [getD_lo w]; exact h1 i w
  · obtain ⟨j, rfl⟩ : ∃ j, i = xs.length + j := ⟨i - xs.length, by omega⟩
    rw [getD_hi]; exact h2 j (by omega)
theorem BY_take {xs : List Int32} {k : Nat} (h1 : BY xs) : BY (xs.take k) := by
  intro i hi
  rw [List.length_take] at hi
  obtain ⟨b, hb, e⟩ := h1 i (by omega)
  refine ⟨b, hb, ?_⟩
  rw [← e, List.getD_eq_getElem?_getD, List.getD_eq_getElem?_getD, List.getElem?_take_of_lt (by omega)]
theorem BY_b4 (v : Int32) : BY (b4 v) := by
  intro i hi
  have hi : i < 4 := hi
  match i, hi with
  | 0, _ => exact and_k _
  | 1, _ => exact and_k _
  | 2, _ => exact and_k _
  | 3, _ => exact and_k _
theorem MS2_k {h g : zm_H} {N : zLv} {P : List zLv} {K K' : Nat → Option zLv} {xs ys : List Int32} (C : MP h N P K xs ys) (fr : zFr keA h g) (j : ∀ j, j ≠ 0 → zI g 125 j = zI h 125 j) (ks : KS g K') : MS2 h g N P K' xs ys := by
  obtain ⟨a, b, c, d, e⟩ := C
  exact ⟨fr.mono (fun c hc => by unfold keA at hc; unfold mfA; omega), ⟨j 17 (by omega), j 18 (by omega)⟩, ⟨moS_fr fr a.1, ML_fr fr (by unfold keA; omega) a.2.1, a.2.2⟩, HP_fr fr (by unfold keA; omega) (j 24 (by omega)) b, ks, ⟨by rw [j 11 (by omega)]; exact d.1, d.2.1, fun i hi => by rw [fr.I (by unfold keA; omega)]; exact d.2.2 i hi⟩, ⟨by rw [j 26 (by omega)]; exact e.1, e.2.1, fun i hi => by rw [fr.I (by unfold keA; omega)]; exact e.2.2 i hi⟩⟩
variable {scr : Nat × (Nat → Int32)} {h : zm_H} {i : Nat} {N : zLv} {P : List zLv} {K : Nat → Option zLv} {xs ys : List Int32}
theorem kL_40 (H : LI h N P K xs ys) (hi : i + 6 ≤ scr.1) (hs : scr.1 ≤ 3072) : LG scr h i 40 := by
  have C := H.cp
  have M := H.mp
  have c := C.1
  have p6 : nI i + (6 : Int32) = nI (i + 6) := nI_add i 6
  have z0 : (zK h 0).1 = 11 := by rw [c.1.1]
  have F := c.2.2.1
  obtain ⟨n1, c1, l1⟩ := sidx hi hs 1 (by omega)
  have n1 : ((nI i + (1 : Int32)) < 0) = False := n1
  have c1 : (nI i + (1 : Int32)).toNatClampNeg = i + 1 := c1
  have l1 := l1 (by omega)
  rcases i_split (show N 0 < 2 ^ 31 by have := F.1.1; omega) (scr.2 (i + 1)) with ⟨r, hr, ea⟩ | hx
  · by_cases wy : nWhy N r = 0
    · obtain ⟨g1, e1, t⟩ := m_go c C.2.1 hr wy
      have cz := CZ_t C t
      have k39 : zK g1 139 = (1, 1) := by rw [cz.1.K]; exact H.2.2.2.2.2.2.2.2.2.2.2.2.2.2.1
      obtain ⟨g2, hg2⟩ : ∃ g2, g2 = zsJ g1 139 0 (lN (nCo (nGo1 N r))) := ⟨_, rfl⟩
      have w1 : sL_go [.ref 0, .int (nI r), .ref 139] h = some (.inl (some (.int 0)), g2) := by
        refine zsem_eq (Nat.le_of_ble_eq_true rfl) (zTo_of (gL_go_n e1) ?_)
        simp only [z0, k39, c_0, p_0, show ¬ 1 ≤ 0 by omega, ← hg2, zmp_s, zlt_s, zcV_s, zcI_s, zcJ_s, zcA_s, zcD_s, zcF_s, zth_n, zth_t, zrt_s, zQ_l, zQ_r, false_or, or_false, true_or, or_true, false_and, and_false, not_false_eq_true, not_true_eq_false, and_self, true_and, and_true, if_true, if_false, ite_true, ite_false, zgd_t]
      have o : zFr (fun c => c = 139 ∨ c = 140) g1 g2 := by rw [hg2]; exact zFr.sJ (Or.inl rfl)
      have mm := LI_mid H cz o
      have m := mm.1
      obtain ⟨g3, e3, q3, th⟩ := r_go m mm.2.1 hr wy t.2.2.2.1.2.2.1
      have ms := MS2_c mm q3
      have tw := r_thrown ms.2.2.1.1
      rw [th] at tw
      obtain ⟨L, nn⟩ := LI_fin H cz o ms H.by
      have z1 := m.1.1
      have z3 := ms.2.2.1.1.1
      have j3 : zJ g3 139 0 = (lN (nCo (nGo1 N r))) := by rw [ms.1.J (by unfold mfA; omega), hg2, J_sJs, zput_self]
      have q3 : zK g3 139 = (1, 1) := L.2.2.2.2.2.2.2.2.2.2.2.2.2.2.1
      refine ⟨g3, _, _, _, _, _, ?_, L, by omega, by omega⟩
      refine Eq.trans gL_law_27_40 ?_
      simp only [p6, n1, c1, l1, ea, w1, z1, e3, z3, tw, q3, c_0, p_0, show ¬ 1 ≤ 0 by omega, j3, lg0, zmp_s, zlt_s, zcV_s, zcI_s, zcJ_s, zcA_s, zcD_s, zcF_s, zth_n, zth_t, zrt_s, zQ_l, zQ_r, false_or, or_false, true_or, or_true, false_and, and_false, not_false_eq_true, not_true_eq_false, and_self, true_and, and_true, if_true, if_false, ite_true, ite_false, zgd_t]
      rfl
    · have e1 := m_goY c hr wy
      obtain ⟨g1, hg1⟩ : ∃ g1, g1 = h := ⟨_, rfl⟩
      have cz : CZ h g1 N P K xs ys := by rw [hg1]; exact CZ_rf C
      have e1 : sX5_go [.ref 0, .int (nI r)] h = some (.inr 0, g1) := by rw [hg1]; exact e1
      have w1 : sL_go [.ref 0, .int (nI r), .ref 139] h = some (.inl (some (.int 2)), g1) := by
        refine zsem_eq (Nat.le_of_ble_eq_true rfl) (zTo_of (gL_go_t0 e1) ?_)
        simp only [z0, zmp_s, zlt_s, zcV_s, zcI_s, zcJ_s, zcA_s, zcD_s, zcF_s, zth_n, zth_t, zrt_s, zQ_l, zQ_r, false_or, or_false, true_or, or_true, false_and, and_false, not_false_eq_true, not_true_eq_false, and_self, true_and, and_true, if_true, if_false, ite_true, ite_false, zgd_t]
      have o := zFr.rf (h := g1) (A := fun c => c = 139 ∨ c = 140)
      have mm := LI_mid H cz o
      have m := mm.1
      obtain ⟨g3, e3, q3, th⟩ := r_goY m hr wy
      have ms := MS2_z mm q3
      have tw := r_thrown ms.2.2.1.1
      rw [th] at tw
      obtain ⟨L, nn⟩ := LI_fin H cz o ms H.by
      have z1 := m.1.1
      have z3 := ms.2.2.1.1.1
      refine ⟨g3, _, _, _, _, _, ?_, L, by omega, by omega⟩
      refine Eq.trans gL_law_27_40 ?_
      simp only [p6, n1, c1, l1, ea, w1, z1, e3, z3, tw, i10, i20, i30, zmp_s, zlt_s, zcV_s, zcI_s, zcJ_s, zcA_s, zcD_s, zcF_s, zth_n, zth_t, zrt_s, zQ_l, zQ_r, false_or, or_false, true_or, or_true, false_and, and_false, not_false_eq_true, not_true_eq_false, and_self, true_and, and_true, if_true, if_false, ite_true, ite_false, zgd_t]
      rfl
  · have e1 := m_goX c hx
    obtain ⟨g1, hg1⟩ : ∃ g1, g1 = h := ⟨_, rfl⟩
    have cz : CZ h g1 N P K xs ys := by rw [hg1]; exact CZ_rf C
    have e1 : sX5_go [.ref 0, .int (scr.2 (i + 1))] h = some (.inr 2, g1) := by rw [hg1]; exact e1
    have w1 : sL_go [.ref 0, .int (scr.2 (i + 1)), .ref 139] h = some (.inl (some (.int 1)), g1) := by
      refine zsem_eq (Nat.le_of_ble_eq_true rfl) (zTo_of (gL_go_t2 e1) ?_)
      simp only [z0, zmp_s, zlt_s, zcV_s, zcI_s, zcJ_s, zcA_s, zcD_s, zcF_s, zth_n, zth_t, zrt_s, zQ_l, zQ_r, false_or, or_false, true_or, or_true, false_and, and_false, not_false_eq_true, not_true_eq_false, and_self, true_and, and_true, if_true, if_false, ite_true, ite_false, zgd_t]
    have o := zFr.rf (h := g1) (A := fun c => c = 139 ∨ c = 140)
    have mm := LI_mid H cz o
    have m := mm.1
    obtain ⟨g3, e3, q3, th⟩ := r_goX m hx
    have ms := MS2_z mm q3
    have tw := r_thrown ms.2.2.1.1
    rw [th] at tw
    obtain ⟨L, nn⟩ := LI_fin H cz o ms H.by
    have z1 := m.1.1
    have z3 := ms.2.2.1.1.1
    refine ⟨g3, _, _, _, _, _, ?_, L, by omega, by omega⟩
    refine Eq.trans gL_law_27_40 ?_
    simp only [p6, n1, c1, l1, w1, z1, e3, z3, tw, i10, i20, i30, zmp_s, zlt_s, zcV_s, zcI_s, zcJ_s, zcA_s, zcD_s, zcF_s, zth_n, zth_t, zrt_s, zQ_l, zQ_r, false_or, or_false, true_or, or_true, false_and, and_false, not_false_eq_true, not_true_eq_false, and_self, true_and, and_true, if_true, if_false, ite_true, ite_false, zgd_t]
    rfl
theorem kL_41 (H : LI h N P K xs ys) (hi : i + 6 ≤ scr.1) (hs : scr.1 ≤ 3072) : LG scr h i 41 := by
  have C := H.cp
  have M := H.mp
  have c := C.1
  have p6 : nI i + (6 : Int32) = nI (i + 6) := nI_add i 6
  have z0 : (zK h 0).1 = 11 := by rw [c.1.1]
  have F := c.2.2.1
  obtain ⟨n1, c1, l1⟩ := sidx hi hs 1 (by omega)
  have n1 : ((nI i + (1 : Int32)) < 0) = False := n1
  have c1 : (nI i + (1 : Int32)).toNatClampNeg = i + 1 := c1
  have l1 := l1 (by omega)
  have h4 := F.2.2.2.2.1
  have h4b := F.1.2.2.1
  rcases i_split (show N 4 < 2 ^ 31 by have := F.1.2.2.1; omega) (scr.2 (i + 1)) with ⟨r, hr, ea⟩ | hx
  · by_cases r0 : 1 ≤ r
    · obtain ⟨g1, e1, t⟩ := m_back c C.2.1 (show 1 ≤ r ∧ r ≤ N 4 - 1 by omega)
      have cz := CZ_t C t
      have k39 : zK g1 139 = (1, 1) := by rw [cz.1.K]; exact H.2.2.2.2.2.2.2.2.2.2.2.2.2.2.1
      obtain ⟨g2, hg2⟩ : ∃ g2, g2 = zsJ g1 139 0 ((nI (N (4 + (N 4 - r))))).toInt64 := ⟨_, rfl⟩
      have w1 : sL_back [.ref 0, .int (nI r), .ref 139] h = some (.inl (some (.int 0)), g2) := by
        refine zsem_eq (Nat.le_of_ble_eq_true rfl) (zTo_of (gL_back_n e1) ?_)
        simp only [z0, k39, c_0, p_0, show ¬ 1 ≤ 0 by omega, ← hg2, zmp_s, zlt_s, zcV_s, zcI_s, zcJ_s, zcA_s, zcD_s, zcF_s, zth_n, zth_t, zrt_s, zQ_l, zQ_r, false_or, or_false, true_or, or_true, false_and, and_false, not_false_eq_true, not_true_eq_false, and_self, true_and, and_true, if_true, if_false, ite_true, ite_false, zgd_t]
      have o : zFr (fun c => c = 139 ∨ c = 140) g1 g2 := by rw [hg2]; exact zFr.sJ (Or.inl rfl)
      have mm := LI_mid H cz o
      have m := mm.1
      obtain ⟨g3, e3, q3, th⟩ := r_back m mm.2.1 (show 1 ≤ r ∧ r ≤ N 4 - 1 by omega) t.2.2.2.1.2.2.1
      have ms := MS2_c mm q3
      have tw := r_thrown ms.2.2.1.1
      rw [th] at tw
      obtain ⟨L, nn⟩ := LI_fin H cz o ms H.by
      have z1 := m.1.1
      have z3 := ms.2.2.1.1.1
      have j3 : zJ g3 139 0 = ((nI (N (4 + (N 4 - r))))).toInt64 := by rw [ms.1.J (by unfold mfA; omega), hg2, J_sJs, zput_self]
      have q3 : zK g3 139 = (1, 1) := L.2.2.2.2.2.2.2.2.2.2.2.2.2.2.1
      refine ⟨g3, _, _, _, _, _, ?_, L, by omega, by omega⟩
      refine Eq.trans gL_law_27_41 ?_
      simp only [p6, n1, c1, l1, ea, w1, z1, e3, z3, tw, q3, c_0, p_0, show ¬ 1 ≤ 0 by omega, j3, lg0, zmp_s, zlt_s, zcV_s, zcI_s, zcJ_s, zcA_s, zcD_s, zcF_s, zth_n, zth_t, zrt_s, zQ_l, zQ_r, false_or, or_false, true_or, or_true, false_and, and_false, not_false_eq_true, not_true_eq_false, and_self, true_and, and_true, if_true, if_false, ite_true, ite_false, zgd_t]
      rfl
    · have hx : nI r < 1 ∨ ¬ nI r ≤ nI (N 4 - 1) := Or.inl ((nI_ltI (b := 1) (by omega) (by omega)).mpr (by omega))
      have e1 := m_backX c hx
      obtain ⟨g1, hg1⟩ : ∃ g1, g1 = h := ⟨_, rfl⟩
      have cz : CZ h g1 N P K xs ys := by rw [hg1]; exact CZ_rf C
      have e1 : sX5_back [.ref 0, .int (nI r)] h = some (.inr 1, g1) := by rw [hg1]; exact e1
      have w1 : sL_back [.ref 0, .int (nI r), .ref 139] h = some (.inl (some (.int 1)), g1) := by
        refine zsem_eq (Nat.le_of_ble_eq_true rfl) (zTo_of (gL_back_t1 e1) ?_)
        simp only [z0, zmp_s, zlt_s, zcV_s, zcI_s, zcJ_s, zcA_s, zcD_s, zcF_s, zth_n, zth_t, zrt_s, zQ_l, zQ_r, false_or, or_false, true_or, or_true, false_and, and_false, not_false_eq_true, not_true_eq_false, and_self, true_and, and_true, if_true, if_false, ite_true, ite_false, zgd_t]
      have o := zFr.rf (h := g1) (A := fun c => c = 139 ∨ c = 140)
      have mm := LI_mid H cz o
      have m := mm.1
      obtain ⟨g3, e3, q3, th⟩ := r_backX m hx
      have ms := MS2_z mm q3
      have tw := r_thrown ms.2.2.1.1
      rw [th] at tw
      obtain ⟨L, nn⟩ := LI_fin H cz o ms H.by
      have z1 := m.1.1
      have z3 := ms.2.2.1.1.1
      refine ⟨g3, _, _, _, _, _, ?_, L, by omega, by omega⟩
      refine Eq.trans gL_law_27_41 ?_
      simp only [p6, n1, c1, l1, ea, w1, z1, e3, z3, tw, i10, i20, i30, zmp_s, zlt_s, zcV_s, zcI_s, zcJ_s, zcA_s, zcD_s, zcF_s, zth_n, zth_t, zrt_s, zQ_l, zQ_r, false_or, or_false, true_or, or_true, false_and, and_false, not_false_eq_true, not_true_eq_false, and_self, true_and, and_true, if_true, if_false, ite_true, ite_false, zgd_t]
      rfl
  · have hy := i_to (show N 4 < 2 ^ 31 by omega) hx
    have hx : (scr.2 (i + 1)) < 1 ∨ ¬ (scr.2 (i + 1)) ≤ nI (N 4 - 1) := by
      rcases hy with q | q
      · left; rw [Int32.lt_iff_toInt_lt]; have z : (1 : Int32).toInt = 1 := by decide
        omega
      · right; rw [Int32.le_iff_toInt_le, nI_toInt (by omega)]; omega
    have e1 := m_backX c hx
    obtain ⟨g1, hg1⟩ : ∃ g1, g1 = h := ⟨_, rfl⟩
    have cz : CZ h g1 N P K xs ys := by rw [hg1]; exact CZ_rf C
    have e1 : sX5_back [.ref 0, .int (scr.2 (i + 1))] h = some (.inr 1, g1) := by rw [hg1]; exact e1
    have w1 : sL_back [.ref 0, .int (scr.2 (i + 1)), .ref 139] h = some (.inl (some (.int 1)), g1) := by
      refine zsem_eq (Nat.le_of_ble_eq_true rfl) (zTo_of (gL_back_t1 e1) ?_)
      simp only [z0, zmp_s, zlt_s, zcV_s, zcI_s, zcJ_s, zcA_s, zcD_s, zcF_s, zth_n, zth_t, zrt_s, zQ_l, zQ_r, false_or, or_false, true_or, or_true, false_and, and_false, not_false_eq_true, not_true_eq_false, and_self, true_and, and_true, if_true, if_false, ite_true, ite_false, zgd_t]
    have o := zFr.rf (h := g1) (A := fun c => c = 139 ∨ c = 140)
    have mm := LI_mid H cz o
    have m := mm.1
    obtain ⟨g3, e3, q3, th⟩ := r_backX m hx
    have ms := MS2_z mm q3
    have tw := r_thrown ms.2.2.1.1
    rw [th] at tw
    obtain ⟨L, nn⟩ := LI_fin H cz o ms H.by
    have z1 := m.1.1
    have z3 := ms.2.2.1.1.1
    refine ⟨g3, _, _, _, _, _, ?_, L, by omega, by omega⟩
    refine Eq.trans gL_law_27_41 ?_
    simp only [p6, n1, c1, l1, w1, z1, e3, z3, tw, i10, i20, i30, zmp_s, zlt_s, zcV_s, zcI_s, zcJ_s, zcA_s, zcD_s, zcF_s, zth_n, zth_t, zrt_s, zQ_l, zQ_r, false_or, or_false, true_or, or_true, false_and, and_false, not_false_eq_true, not_true_eq_false, and_self, true_and, and_true, if_true, if_false, ite_true, ite_false, zgd_t]
    rfl
theorem kL_43 (H : LI h N P K xs ys) (hi : i + 6 ≤ scr.1) (hs : scr.1 ≤ 3072) : LG scr h i 43 := by
  have C := H.cp
  have M := H.mp
  have c := C.1
  have p6 : nI i + (6 : Int32) = nI (i + 6) := nI_add i 6
  have z0 : (zK h 0).1 = 11 := by rw [c.1.1]
  have F := c.2.2.1
  by_cases n0 : nCo N = 0
  · obtain ⟨g1, e1, q⟩ := m_completeX c n0
    have cz := CZ_q C q
    have w1 : sL_complete [.ref 0, .ref 139] h = some (.inl (some (.int 1)), g1) := by
      refine zsem_eq (Nat.le_of_ble_eq_true rfl) (zTo_of (gL_complete_t0 e1) ?_)
      simp only [z0, zmp_s, zlt_s, zcV_s, zcI_s, zcJ_s, zcA_s, zcD_s, zcF_s, zth_n, zth_t, zrt_s, zQ_l, zQ_r, false_or, or_false, true_or, or_true, false_and, and_false, not_false_eq_true, not_true_eq_false, and_self, true_and, and_true, if_true, if_false, ite_true, ite_false, zgd_t]
    have o := zFr.rf (h := g1) (A := fun c => c = 139 ∨ c = 140)
    have mm := LI_mid H cz o
    have m := mm.1
    obtain ⟨g3, e3, q3, th⟩ := r_completeX m n0
    have ms := MS2_z mm q3
    have tw := r_thrown ms.2.2.1.1
    rw [th] at tw
    obtain ⟨L, nn⟩ := LI_fin H cz o ms H.by
    have z1 := m.1.1
    have z3 := ms.2.2.1.1.1
    refine ⟨g3, _, _, _, _, _, ?_, L, by omega, by omega⟩
    refine Eq.trans gL_law_27_43 ?_
    simp only [p6, w1, z1, e3, z3, tw, i10, i20, i30, zmp_s, zlt_s, zcV_s, zcI_s, zcJ_s, zcA_s, zcD_s, zcF_s, zth_n, zth_t, zrt_s, zQ_l, zQ_r, false_or, or_false, true_or, or_true, false_and, and_false, not_false_eq_true, not_true_eq_false, and_self, true_and, and_true, if_true, if_false, ite_true, ite_false, zgd_t]
    rfl
  · obtain ⟨g1, e1, t⟩ := m_complete c C.2.1 n0
    have cz := CZ_t C t
    have k39 : zK g1 139 = (1, 1) := by rw [cz.1.K]; exact H.2.2.2.2.2.2.2.2.2.2.2.2.2.2.1
    obtain ⟨g2, hg2⟩ : ∃ g2, g2 = zsJ g1 139 0 ((nI (N 0 - N 4))).toInt64 := ⟨_, rfl⟩
    have w1 : sL_complete [.ref 0, .ref 139] h = some (.inl (some (.int 0)), g2) := by
      refine zsem_eq (Nat.le_of_ble_eq_true rfl) (zTo_of (gL_complete_n e1) ?_)
      simp only [z0, k39, c_0, p_0, show ¬ 1 ≤ 0 by omega, ← hg2, zmp_s, zlt_s, zcV_s, zcI_s, zcJ_s, zcA_s, zcD_s, zcF_s, zth_n, zth_t, zrt_s, zQ_l, zQ_r, false_or, or_false, true_or, or_true, false_and, and_false, not_false_eq_true, not_true_eq_false, and_self, true_and, and_true, if_true, if_false, ite_true, ite_false, zgd_t]
    have o : zFr (fun c => c = 139 ∨ c = 140) g1 g2 := by rw [hg2]; exact zFr.sJ (Or.inl rfl)
    have mm := LI_mid H cz o
    have m := mm.1
    obtain ⟨g3, e3, q3, th⟩ := r_complete m mm.2.1 n0
    have ms := MS2_c mm q3
    have tw := r_thrown ms.2.2.1.1
    rw [th] at tw
    obtain ⟨L, nn⟩ := LI_fin H cz o ms H.by
    have z1 := m.1.1
    have z3 := ms.2.2.1.1.1
    have j3 : zJ g3 139 0 = ((nI (N 0 - N 4))).toInt64 := by rw [ms.1.J (by unfold mfA; omega), hg2, J_sJs, zput_self]
    have q3 : zK g3 139 = (1, 1) := L.2.2.2.2.2.2.2.2.2.2.2.2.2.2.1
    refine ⟨g3, _, _, _, _, _, ?_, L, by omega, by omega⟩
    refine Eq.trans gL_law_27_43 ?_
    simp only [p6, w1, z1, e3, z3, tw, q3, c_0, p_0, show ¬ 1 ≤ 0 by omega, j3, lg0, zmp_s, zlt_s, zcV_s, zcI_s, zcJ_s, zcA_s, zcD_s, zcF_s, zth_n, zth_t, zrt_s, zQ_l, zQ_r, false_or, or_false, true_or, or_true, false_and, and_false, not_false_eq_true, not_true_eq_false, and_self, true_and, and_true, if_true, if_false, ite_true, ite_false, zgd_t]
    rfl
theorem kL_46 (H : LI h N P K xs ys) (hi : i + 6 ≤ scr.1) (hs : scr.1 ≤ 3072) : LG scr h i 46 := by
  have C := H.cp
  have M := H.mp
  have c := C.1
  have p6 : nI i + (6 : Int32) = nI (i + 6) := nI_add i 6
  have z0 : (zK h 0).1 = 11 := by rw [c.1.1]
  have F := c.2.2.1
  obtain ⟨n1, c1, l1⟩ := sidx hi hs 1 (by omega)
  have n1 : ((nI i + (1 : Int32)) < 0) = False := n1
  have c1 : (nI i + (1 : Int32)).toNatClampNeg = i + 1 := c1
  have l1 := l1 (by omega)
  obtain ⟨n2, c2, l2⟩ := sidx hi hs 2 (by omega)
  have n2 : ((nI i + (2 : Int32)) < 0) = False := n2
  have c2 : (nI i + (2 : Int32)).toNatClampNeg = i + 2 := c2
  have l2 := l2 (by omega)
  rcases i_split (show N 0 < 2 ^ 31 by have := F.1.1; omega) (scr.2 (i + 1)) with ⟨r, hr, ea⟩ | hx
  · rcases i_split (show 100 < 2 ^ 31 by omega) (scr.2 (i + 2)) with ⟨s, hs2, eb⟩ | hy
    · obtain ⟨g1, e1, t⟩ := m_setCoins c C.2.1 hr (show s ≤ 99 by omega)
      have cz := CZ_t C t
      have k39 : zK g1 139 = (1, 1) := by rw [cz.1.K]; exact H.2.2.2.2.2.2.2.2.2.2.2.2.2.2.1
      obtain ⟨g2, hg2⟩ : ∃ g2, g2 = zsJ g1 139 0 ((nI (N (17 + 3 * r)))).toInt64 := ⟨_, rfl⟩
      have w1 : sL_setCoins [.ref 0, .int (nI r), .int (nI s), .ref 139] h = some (.inl (some (.int 0)), g2) := by
        refine zsem_eq (Nat.le_of_ble_eq_true rfl) (zTo_of (gL_setCoins_n e1) ?_)
        simp only [z0, k39, c_0, p_0, show ¬ 1 ≤ 0 by omega, ← hg2, zmp_s, zlt_s, zcV_s, zcI_s, zcJ_s, zcA_s, zcD_s, zcF_s, zth_n, zth_t, zrt_s, zQ_l, zQ_r, false_or, or_false, true_or, or_true, false_and, and_false, not_false_eq_true, not_true_eq_false, and_self, true_and, and_true, if_true, if_false, ite_true, ite_false, zgd_t]
      have o : zFr (fun c => c = 139 ∨ c = 140) g1 g2 := by rw [hg2]; exact zFr.sJ (Or.inl rfl)
      have mm := LI_mid H cz o
      have m := mm.1
      obtain ⟨g3, e3, q3, th⟩ := r_setCoins m mm.2.1 hr (show s ≤ 99 by omega) t.2.2.2.1.2.2.1
      have ms := MS2_c mm q3
      have tw := r_thrown ms.2.2.1.1
      rw [th] at tw
      obtain ⟨L, nn⟩ := LI_fin H cz o ms H.by
      have z1 := m.1.1
      have z3 := ms.2.2.1.1.1
      have j3 : zJ g3 139 0 = ((nI (N (17 + 3 * r)))).toInt64 := by rw [ms.1.J (by unfold mfA; omega), hg2, J_sJs, zput_self]
      have q3 : zK g3 139 = (1, 1) := L.2.2.2.2.2.2.2.2.2.2.2.2.2.2.1
      refine ⟨g3, _, _, _, _, _, ?_, L, by omega, by omega⟩
      refine Eq.trans gL_law_27_46 ?_
      simp only [p6, n1, c1, l1, n2, c2, l2, ea, eb, w1, z1, e3, z3, tw, q3, c_0, p_0, show ¬ 1 ≤ 0 by omega, j3, lg0, zmp_s, zlt_s, zcV_s, zcI_s, zcJ_s, zcA_s, zcD_s, zcF_s, zth_n, zth_t, zrt_s, zQ_l, zQ_r, false_or, or_false, true_or, or_true, false_and, and_false, not_false_eq_true, not_true_eq_false, and_self, true_and, and_true, if_true, if_false, ite_true, ite_false, zgd_t]
      rfl
    · have hz := i_gt (n := 99) (by omega) hy
      have e1 := m_setCoinsY c hr hz
      obtain ⟨g1, hg1⟩ : ∃ g1, g1 = h := ⟨_, rfl⟩
      have cz : CZ h g1 N P K xs ys := by rw [hg1]; exact CZ_rf C
      have e1 : sX5_setCoins [.ref 0, .int (nI r), .int (scr.2 (i + 2))] h = some (.inr 1, g1) := by rw [hg1]; exact e1
      have w1 : sL_setCoins [.ref 0, .int (nI r), .int (scr.2 (i + 2)), .ref 139] h = some (.inl (some (.int 2)), g1) := by
        refine zsem_eq (Nat.le_of_ble_eq_true rfl) (zTo_of (gL_setCoins_t1 e1) ?_)
        simp only [z0, zmp_s, zlt_s, zcV_s, zcI_s, zcJ_s, zcA_s, zcD_s, zcF_s, zth_n, zth_t, zrt_s, zQ_l, zQ_r, false_or, or_false, true_or, or_true, false_and, and_false, not_false_eq_true, not_true_eq_false, and_self, true_and, and_true, if_true, if_false, ite_true, ite_false, zgd_t]
      have o := zFr.rf (h := g1) (A := fun c => c = 139 ∨ c = 140)
      have mm := LI_mid H cz o
      have m := mm.1
      obtain ⟨g3, e3, q3, th⟩ := r_setCoinsY m hr hy
      have ms := MS2_z mm q3
      have tw := r_thrown ms.2.2.1.1
      rw [th] at tw
      obtain ⟨L, nn⟩ := LI_fin H cz o ms H.by
      have z1 := m.1.1
      have z3 := ms.2.2.1.1.1
      refine ⟨g3, _, _, _, _, _, ?_, L, by omega, by omega⟩
      refine Eq.trans gL_law_27_46 ?_
      simp only [p6, n1, c1, l1, n2, c2, l2, ea, w1, z1, e3, z3, tw, i10, i20, i30, zmp_s, zlt_s, zcV_s, zcI_s, zcJ_s, zcA_s, zcD_s, zcF_s, zth_n, zth_t, zrt_s, zQ_l, zQ_r, false_or, or_false, true_or, or_true, false_and, and_false, not_false_eq_true, not_true_eq_false, and_self, true_and, and_true, if_true, if_false, ite_true, ite_false, zgd_t]
      rfl
  · have e1 := m_setCoinsX (y := (scr.2 (i + 2))) c hx
    obtain ⟨g1, hg1⟩ : ∃ g1, g1 = h := ⟨_, rfl⟩
    have cz : CZ h g1 N P K xs ys := by rw [hg1]; exact CZ_rf C
    have e1 : sX5_setCoins [.ref 0, .int (scr.2 (i + 1)), .int (scr.2 (i + 2))] h = some (.inr 2, g1) := by rw [hg1]; exact e1
    have w1 : sL_setCoins [.ref 0, .int (scr.2 (i + 1)), .int (scr.2 (i + 2)), .ref 139] h = some (.inl (some (.int 1)), g1) := by
      refine zsem_eq (Nat.le_of_ble_eq_true rfl) (zTo_of (gL_setCoins_t2 e1) ?_)
      simp only [z0, zmp_s, zlt_s, zcV_s, zcI_s, zcJ_s, zcA_s, zcD_s, zcF_s, zth_n, zth_t, zrt_s, zQ_l, zQ_r, false_or, or_false, true_or, or_true, false_and, and_false, not_false_eq_true, not_true_eq_false, and_self, true_and, and_true, if_true, if_false, ite_true, ite_false, zgd_t]
    have o := zFr.rf (h := g1) (A := fun c => c = 139 ∨ c = 140)
    have mm := LI_mid H cz o
    have m := mm.1
    obtain ⟨g3, e3, q3, th⟩ := r_setCoinsX (y := (scr.2 (i + 2))) m hx
    have ms := MS2_z mm q3
    have tw := r_thrown ms.2.2.1.1
    rw [th] at tw
    obtain ⟨L, nn⟩ := LI_fin H cz o ms H.by
    have z1 := m.1.1
    have z3 := ms.2.2.1.1.1
    refine ⟨g3, _, _, _, _, _, ?_, L, by omega, by omega⟩
    refine Eq.trans gL_law_27_46 ?_
    simp only [p6, n1, c1, l1, n2, c2, l2, w1, z1, e3, z3, tw, i10, i20, i30, zmp_s, zlt_s, zcV_s, zcI_s, zcJ_s, zcA_s, zcD_s, zcF_s, zth_n, zth_t, zrt_s, zQ_l, zQ_r, false_or, or_false, true_or, or_true, false_and, and_false, not_false_eq_true, not_true_eq_false, and_self, true_and, and_true, if_true, if_false, ite_true, ite_false, zgd_t]
    rfl
theorem kL_47 (H : LI h N P K xs ys) (hi : i + 6 ≤ scr.1) (hs : scr.1 ≤ 3072) : LG scr h i 47 := by
  have C := H.cp
  have M := H.mp
  have c := C.1
  have p6 : nI i + (6 : Int32) = nI (i + 6) := nI_add i 6
  have z0 : (zK h 0).1 = 11 := by rw [c.1.1]
  have F := c.2.2.1
  obtain ⟨n1, c1, l1⟩ := sidx hi hs 1 (by omega)
  have n1 : ((nI i + (1 : Int32)) < 0) = False := n1
  have c1 : (nI i + (1 : Int32)).toNatClampNeg = i + 1 := c1
  have l1 := l1 (by omega)
  obtain ⟨n2, c2, l2⟩ := sidx hi hs 2 (by omega)
  have n2 : ((nI i + (2 : Int32)) < 0) = False := n2
  have c2 : (nI i + (2 : Int32)).toNatClampNeg = i + 2 := c2
  have l2 := l2 (by omega)
  obtain ⟨n3, c3, l3⟩ := sidx hi hs 3 (by omega)
  have n3 : ((nI i + (3 : Int32)) < 0) = False := n3
  have c3 : (nI i + (3 : Int32)).toNatClampNeg = i + 3 := c3
  have l3 := l3 (by omega)
  rcases i_split (show N 1 < 2 ^ 31 by have := F.1.2.1; omega) (scr.2 (i + 1)) with ⟨r, hr, ea⟩ | hx
  · rcases i_split (show 3 < 2 ^ 31 by omega) (scr.2 (i + 2)) with ⟨s, hs2, eb⟩ | hy
    · have hs3 : s ≤ 2 := by omega
      have gl : nGn s ≤ 999 := by unfold nGn; split <;> (try split) <;> omega
      rcases i_split (show nGn s + 1 < 2 ^ 31 by omega) (scr.2 (i + 3)) with ⟨u, hu, ec⟩ | hz
      · obtain ⟨g1, e1, t⟩ := m_setLock c C.2.1 hr hs3 (show u ≤ nGn s by omega)
        have cz := CZ_t C t
        have k39 : zK g1 139 = (1, 1) := by rw [cz.1.K]; exact H.2.2.2.2.2.2.2.2.2.2.2.2.2.2.1
        obtain ⟨g2, hg2⟩ : ∃ g2, g2 = zsJ g1 139 0 ((nI (1000 * N (51 + 5 * r) + N (52 + 5 * r)))).toInt64 := ⟨_, rfl⟩
        have w1 : sL_setLock [.ref 0, .int (nI r), .int (nI s), .int (nI u), .ref 139] h = some (.inl (some (.int 0)), g2) := by
          refine zsem_eq (Nat.le_of_ble_eq_true rfl) (zTo_of (gL_setLock_n e1) ?_)
          simp only [z0, k39, c_0, p_0, show ¬ 1 ≤ 0 by omega, ← hg2, zmp_s, zlt_s, zcV_s, zcI_s, zcJ_s, zcA_s, zcD_s, zcF_s, zth_n, zth_t, zrt_s, zQ_l, zQ_r, false_or, or_false, true_or, or_true, false_and, and_false, not_false_eq_true, not_true_eq_false, and_self, true_and, and_true, if_true, if_false, ite_true, ite_false, zgd_t]
        have o : zFr (fun c => c = 139 ∨ c = 140) g1 g2 := by rw [hg2]; exact zFr.sJ (Or.inl rfl)
        have mm := LI_mid H cz o
        have m := mm.1
        obtain ⟨g3, e3, q3, th⟩ := r_setLock m mm.2.1 hr hs3 (show u ≤ nGn s by omega) t.2.2.2.1.2.2.1
        have ms := MS2_c mm q3
        have tw := r_thrown ms.2.2.1.1
        rw [th] at tw
        obtain ⟨L, nn⟩ := LI_fin H cz o ms H.by
        have z1 := m.1.1
        have z3 := ms.2.2.1.1.1
        have j3 : zJ g3 139 0 = ((nI (1000 * N (51 + 5 * r) + N (52 + 5 * r)))).toInt64 := by rw [ms.1.J (by unfold mfA; omega), hg2, J_sJs, zput_self]
        have q3 : zK g3 139 = (1, 1) := L.2.2.2.2.2.2.2.2.2.2.2.2.2.2.1
        refine ⟨g3, _, _, _, _, _, ?_, L, by omega, by omega⟩
        refine Eq.trans gL_law_27_47 ?_
        simp only [p6, n1, c1, l1, n2, c2, l2, n3, c3, l3, ea, eb, ec, w1, z1, e3, z3, tw, q3, c_0, p_0, show ¬ 1 ≤ 0 by omega, j3, lg0, zmp_s, zlt_s, zcV_s, zcI_s, zcJ_s, zcA_s, zcD_s, zcF_s, zth_n, zth_t, zrt_s, zQ_l, zQ_r, false_or, or_false, true_or, or_true, false_and, and_false, not_false_eq_true, not_true_eq_false, and_self, true_and, and_true, if_true, if_false, ite_true, ite_false, zgd_t]
        rfl
      · have hz2 := i_gt (n := nGn s) (by omega) hz
        have e1 := m_setLockZ c hr hs3 hz2
        obtain ⟨g1, hg1⟩ : ∃ g1, g1 = h := ⟨_, rfl⟩
        have cz : CZ h g1 N P K xs ys := by rw [hg1]; exact CZ_rf C
        have e1 : sX5_setLock [.ref 0, .int (nI r), .int (nI s), .int (scr.2 (i + 3))] h = some (.inr 1, g1) := by rw [hg1]; exact e1
        have w1 : sL_setLock [.ref 0, .int (nI r), .int (nI s), .int (scr.2 (i + 3)), .ref 139] h = some (.inl (some (.int 2)), g1) := by
          refine zsem_eq (Nat.le_of_ble_eq_true rfl) (zTo_of (gL_setLock_t1 e1) ?_)
          simp only [z0, zmp_s, zlt_s, zcV_s, zcI_s, zcJ_s, zcA_s, zcD_s, zcF_s, zth_n, zth_t, zrt_s, zQ_l, zQ_r, false_or, or_false, true_or, or_true, false_and, and_false, not_false_eq_true, not_true_eq_false, and_self, true_and, and_true, if_true, if_false, ite_true, ite_false, zgd_t]
        have o := zFr.rf (h := g1) (A := fun c => c = 139 ∨ c = 140)
        have mm := LI_mid H cz o
        have m := mm.1
        obtain ⟨g3, e3, q3, th⟩ := r_setLockZ m hr hs3 hz
        have ms := MS2_z mm q3
        have tw := r_thrown ms.2.2.1.1
        rw [th] at tw
        obtain ⟨L, nn⟩ := LI_fin H cz o ms H.by
        have z1 := m.1.1
        have z3 := ms.2.2.1.1.1
        refine ⟨g3, _, _, _, _, _, ?_, L, by omega, by omega⟩
        refine Eq.trans gL_law_27_47 ?_
        simp only [p6, n1, c1, l1, n2, c2, l2, n3, c3, l3, ea, eb, w1, z1, e3, z3, tw, i10, i20, i30, zmp_s, zlt_s, zcV_s, zcI_s, zcJ_s, zcA_s, zcD_s, zcF_s, zth_n, zth_t, zrt_s, zQ_l, zQ_r, false_or, or_false, true_or, or_true, false_and, and_false, not_false_eq_true, not_true_eq_false, and_self, true_and, and_true, if_true, if_false, ite_true, ite_false, zgd_t]
        rfl
    · have hz := i_gt (n := 2) (by omega) hy
      have e1 := m_setLockY (z := (scr.2 (i + 3))) c hr hz
      obtain ⟨g1, hg1⟩ : ∃ g1, g1 = h := ⟨_, rfl⟩
      have cz : CZ h g1 N P K xs ys := by rw [hg1]; exact CZ_rf C
      have e1 : sX5_setLock [.ref 0, .int (nI r), .int (scr.2 (i + 2)), .int (scr.2 (i + 3))] h = some (.inr 1, g1) := by rw [hg1]; exact e1
      have w1 : sL_setLock [.ref 0, .int (nI r), .int (scr.2 (i + 2)), .int (scr.2 (i + 3)), .ref 139] h = some (.inl (some (.int 2)), g1) := by
        refine zsem_eq (Nat.le_of_ble_eq_true rfl) (zTo_of (gL_setLock_t1 e1) ?_)
        simp only [z0, zmp_s, zlt_s, zcV_s, zcI_s, zcJ_s, zcA_s, zcD_s, zcF_s, zth_n, zth_t, zrt_s, zQ_l, zQ_r, false_or, or_false, true_or, or_true, false_and, and_false, not_false_eq_true, not_true_eq_false, and_self, true_and, and_true, if_true, if_false, ite_true, ite_false, zgd_t]
      have o := zFr.rf (h := g1) (A := fun c => c = 139 ∨ c = 140)
      have mm := LI_mid H cz o
      have m := mm.1
      obtain ⟨g3, e3, q3, th⟩ := r_setLockY (z := (scr.2 (i + 3))) m hr hy
      have ms := MS2_z mm q3
      have tw := r_thrown ms.2.2.1.1
      rw [th] at tw
      obtain ⟨L, nn⟩ := LI_fin H cz o ms H.by
      have z1 := m.1.1
      have z3 := ms.2.2.1.1.1
      refine ⟨g3, _, _, _, _, _, ?_, L, by omega, by omega⟩
      refine Eq.trans gL_law_27_47 ?_
      simp only [p6, n1, c1, l1, n2, c2, l2, n3, c3, l3, ea, w1, z1, e3, z3, tw, i10, i20, i30, zmp_s, zlt_s, zcV_s, zcI_s, zcJ_s, zcA_s, zcD_s, zcF_s, zth_n, zth_t, zrt_s, zQ_l, zQ_r, false_or, or_false, true_or, or_true, false_and, and_false, not_false_eq_true, not_true_eq_false, and_self, true_and, and_true, if_true, if_false, ite_true, ite_false, zgd_t]
      rfl
  · have e1 := m_setLockX (y := (scr.2 (i + 2))) (z := (scr.2 (i + 3))) c hx
    obtain ⟨g1, hg1⟩ : ∃ g1, g1 = h := ⟨_, rfl⟩
    have cz : CZ h g1 N P K xs ys := by rw [hg1]; exact CZ_rf C
    have e1 : sX5_setLock [.ref 0, .int (scr.2 (i + 1)), .int (scr.2 (i + 2)), .int (scr.2 (i + 3))] h = some (.inr 2, g1) := by rw [hg1]; exact e1
    have w1 : sL_setLock [.ref 0, .int (scr.2 (i + 1)), .int (scr.2 (i + 2)), .int (scr.2 (i + 3)), .ref 139] h = some (.inl (some (.int 1)), g1) := by
      refine zsem_eq (Nat.le_of_ble_eq_true rfl) (zTo_of (gL_setLock_t2 e1) ?_)
      simp only [z0, zmp_s, zlt_s, zcV_s, zcI_s, zcJ_s, zcA_s, zcD_s, zcF_s, zth_n, zth_t, zrt_s, zQ_l, zQ_r, false_or, or_false, true_or, or_true, false_and, and_false, not_false_eq_true, not_true_eq_false, and_self, true_and, and_true, if_true, if_false, ite_true, ite_false, zgd_t]
    have o := zFr.rf (h := g1) (A := fun c => c = 139 ∨ c = 140)
    have mm := LI_mid H cz o
    have m := mm.1
    obtain ⟨g3, e3, q3, th⟩ := r_setLockX (y := (scr.2 (i + 2))) (z := (scr.2 (i + 3))) m hx
    have ms := MS2_z mm q3
    have tw := r_thrown ms.2.2.1.1
    rw [th] at tw
    obtain ⟨L, nn⟩ := LI_fin H cz o ms H.by
    have z1 := m.1.1
    have z3 := ms.2.2.1.1.1
    refine ⟨g3, _, _, _, _, _, ?_, L, by omega, by omega⟩
    refine Eq.trans gL_law_27_47 ?_
    simp only [p6, n1, c1, l1, n2, c2, l2, n3, c3, l3, w1, z1, e3, z3, tw, i10, i20, i30, zmp_s, zlt_s, zcV_s, zcI_s, zcJ_s, zcA_s, zcD_s, zcF_s, zth_n, zth_t, zrt_s, zQ_l, zQ_r, false_or, or_false, true_or, or_true, false_and, and_false, not_false_eq_true, not_true_eq_false, and_self, true_and, and_true, if_true, if_false, ite_true, ite_false, zgd_t]
    rfl
theorem kL_49 (H : LI h N P K xs ys) (hi : i + 6 ≤ scr.1) (hs : scr.1 ≤ 3072) : LG scr h i 49 := by
  have C := H.cp
  have M := H.mp
  have c := C.1
  have p6 : nI i + (6 : Int32) = nI (i + 6) := nI_add i 6
  have z0 : (zK h 0).1 = 11 := by rw [c.1.1]
  have F := c.2.2.1
  obtain ⟨n1, c1, l1⟩ := sidx hi hs 1 (by omega)
  have n1 : ((nI i + (1 : Int32)) < 0) = False := n1
  have c1 : (nI i + (1 : Int32)).toNatClampNeg = i + 1 := c1
  have l1 := l1 (by omega)
  rcases i_split (show N 1 < 2 ^ 31 by have := F.1.2.1; omega) (scr.2 (i + 1)) with ⟨r, hr, ea⟩ | hx
  · obtain ⟨g1, e1, t⟩ := m_removeDoor c C.2.1 hr
    have cz := CZ_t C t
    have k39 : zK g1 139 = (1, 1) := by rw [cz.1.K]; exact H.2.2.2.2.2.2.2.2.2.2.2.2.2.2.1
    obtain ⟨g2, hg2⟩ : ∃ g2, g2 = zsJ g1 139 0 ((nI (N 1 - 1))).toInt64 := ⟨_, rfl⟩
    have w1 : sL_removeDoor [.ref 0, .int (nI r), .ref 139] h = some (.inl (some (.int 0)), g2) := by
      refine zsem_eq (Nat.le_of_ble_eq_true rfl) (zTo_of (gL_removeDoor_n e1) ?_)
      simp only [z0, k39, c_0, p_0, show ¬ 1 ≤ 0 by omega, ← hg2, zmp_s, zlt_s, zcV_s, zcI_s, zcJ_s, zcA_s, zcD_s, zcF_s, zth_n, zth_t, zrt_s, zQ_l, zQ_r, false_or, or_false, true_or, or_true, false_and, and_false, not_false_eq_true, not_true_eq_false, and_self, true_and, and_true, if_true, if_false, ite_true, ite_false, zgd_t]
    have o : zFr (fun c => c = 139 ∨ c = 140) g1 g2 := by rw [hg2]; exact zFr.sJ (Or.inl rfl)
    have mm := LI_mid H cz o
    have m := mm.1
    obtain ⟨g3, e3, q3, th⟩ := r_removeDoor m mm.2.1 hr t.2.2.2.1.2.2.1
    have ms := MS2_c mm q3
    have tw := r_thrown ms.2.2.1.1
    rw [th] at tw
    obtain ⟨L, nn⟩ := LI_fin H cz o ms H.by
    have z1 := m.1.1
    have z3 := ms.2.2.1.1.1
    have j3 : zJ g3 139 0 = ((nI (N 1 - 1))).toInt64 := by rw [ms.1.J (by unfold mfA; omega), hg2, J_sJs, zput_self]
    have q3 : zK g3 139 = (1, 1) := L.2.2.2.2.2.2.2.2.2.2.2.2.2.2.1
    refine ⟨g3, _, _, _, _, _, ?_, L, by omega, by omega⟩
    refine Eq.trans gL_law_27_49 ?_
    simp only [p6, n1, c1, l1, ea, w1, z1, e3, z3, tw, q3, c_0, p_0, show ¬ 1 ≤ 0 by omega, j3, lg0, zmp_s, zlt_s, zcV_s, zcI_s, zcJ_s, zcA_s, zcD_s, zcF_s, zth_n, zth_t, zrt_s, zQ_l, zQ_r, false_or, or_false, true_or, or_true, false_and, and_false, not_false_eq_true, not_true_eq_false, and_self, true_and, and_true, if_true, if_false, ite_true, ite_false, zgd_t]
    rfl
  · have e1 := m_removeDoorX c hx
    obtain ⟨g1, hg1⟩ : ∃ g1, g1 = h := ⟨_, rfl⟩
    have cz : CZ h g1 N P K xs ys := by rw [hg1]; exact CZ_rf C
    have e1 : sX5_removeDoor [.ref 0, .int (scr.2 (i + 1))] h = some (.inr 2, g1) := by rw [hg1]; exact e1
    have w1 : sL_removeDoor [.ref 0, .int (scr.2 (i + 1)), .ref 139] h = some (.inl (some (.int 1)), g1) := by
      refine zsem_eq (Nat.le_of_ble_eq_true rfl) (zTo_of (gL_removeDoor_t2 e1) ?_)
      simp only [z0, zmp_s, zlt_s, zcV_s, zcI_s, zcJ_s, zcA_s, zcD_s, zcF_s, zth_n, zth_t, zrt_s, zQ_l, zQ_r, false_or, or_false, true_or, or_true, false_and, and_false, not_false_eq_true, not_true_eq_false, and_self, true_and, and_true, if_true, if_false, ite_true, ite_false, zgd_t]
    have o := zFr.rf (h := g1) (A := fun c => c = 139 ∨ c = 140)
    have mm := LI_mid H cz o
    have m := mm.1
    obtain ⟨g3, e3, q3, th⟩ := r_removeDoorX m hx
    have ms := MS2_z mm q3
    have tw := r_thrown ms.2.2.1.1
    rw [th] at tw
    obtain ⟨L, nn⟩ := LI_fin H cz o ms H.by
    have z1 := m.1.1
    have z3 := ms.2.2.1.1.1
    refine ⟨g3, _, _, _, _, _, ?_, L, by omega, by omega⟩
    refine Eq.trans gL_law_27_49 ?_
    simp only [p6, n1, c1, l1, w1, z1, e3, z3, tw, i10, i20, i30, zmp_s, zlt_s, zcV_s, zcI_s, zcJ_s, zcA_s, zcD_s, zcF_s, zth_n, zth_t, zrt_s, zQ_l, zQ_r, false_or, or_false, true_or, or_true, false_and, and_false, not_false_eq_true, not_true_eq_false, and_self, true_and, and_true, if_true, if_false, ite_true, ite_false, zgd_t]
    rfl
theorem kL_50 (H : LI h N P K xs ys) (hi : i + 6 ≤ scr.1) (hs : scr.1 ≤ 3072) : LG scr h i 50 := by
  have C := H.cp
  have M := H.mp
  have c := C.1
  have p6 : nI i + (6 : Int32) = nI (i + 6) := nI_add i 6
  have z0 : (zK h 0).1 = 11 := by rw [c.1.1]
  have F := c.2.2.1
  obtain ⟨n1, c1, l1⟩ := sidx hi hs 1 (by omega)
  have n1 : ((nI i + (1 : Int32)) < 0) = False := n1
  have c1 : (nI i + (1 : Int32)).toNatClampNeg = i + 1 := c1
  have l1 := l1 (by omega)
  rcases i_split (show N 0 < 2 ^ 31 by have := F.1.1; omega) (scr.2 (i + 1)) with ⟨r, hr, ea⟩ | hx
  · obtain ⟨g1, e1, t⟩ := m_setStart c C.2.1 hr
    have cz := CZ_t C t
    have k39 : zK g1 139 = (1, 1) := by rw [cz.1.K]; exact H.2.2.2.2.2.2.2.2.2.2.2.2.2.2.1
    obtain ⟨g2, hg2⟩ : ∃ g2, g2 = zsJ g1 139 0 ((nI (N 2))).toInt64 := ⟨_, rfl⟩
    have w1 : sL_setStart [.ref 0, .int (nI r), .ref 139] h = some (.inl (some (.int 0)), g2) := by
      refine zsem_eq (Nat.le_of_ble_eq_true rfl) (zTo_of (gL_setStart_n e1) ?_)
      simp only [z0, k39, c_0, p_0, show ¬ 1 ≤ 0 by omega, ← hg2, zmp_s, zlt_s, zcV_s, zcI_s, zcJ_s, zcA_s, zcD_s, zcF_s, zth_n, zth_t, zrt_s, zQ_l, zQ_r, false_or, or_false, true_or, or_true, false_and, and_false, not_false_eq_true, not_true_eq_false, and_self, true_and, and_true, if_true, if_false, ite_true, ite_false, zgd_t]
    have o : zFr (fun c => c = 139 ∨ c = 140) g1 g2 := by rw [hg2]; exact zFr.sJ (Or.inl rfl)
    have mm := LI_mid H cz o
    have m := mm.1
    obtain ⟨g3, e3, q3, th⟩ := r_setStart m mm.2.1 hr t.2.2.2.1.2.2.1
    have ms := MS2_c mm q3
    have tw := r_thrown ms.2.2.1.1
    rw [th] at tw
    obtain ⟨L, nn⟩ := LI_fin H cz o ms H.by
    have z1 := m.1.1
    have z3 := ms.2.2.1.1.1
    have j3 : zJ g3 139 0 = ((nI (N 2))).toInt64 := by rw [ms.1.J (by unfold mfA; omega), hg2, J_sJs, zput_self]
    have q3 : zK g3 139 = (1, 1) := L.2.2.2.2.2.2.2.2.2.2.2.2.2.2.1
    refine ⟨g3, _, _, _, _, _, ?_, L, by omega, by omega⟩
    refine Eq.trans gL_law_27_50 ?_
    simp only [p6, n1, c1, l1, ea, w1, z1, e3, z3, tw, q3, c_0, p_0, show ¬ 1 ≤ 0 by omega, j3, lg0, zmp_s, zlt_s, zcV_s, zcI_s, zcJ_s, zcA_s, zcD_s, zcF_s, zth_n, zth_t, zrt_s, zQ_l, zQ_r, false_or, or_false, true_or, or_true, false_and, and_false, not_false_eq_true, not_true_eq_false, and_self, true_and, and_true, if_true, if_false, ite_true, ite_false, zgd_t]
    rfl
  · have e1 := m_setStartX c hx
    obtain ⟨g1, hg1⟩ : ∃ g1, g1 = h := ⟨_, rfl⟩
    have cz : CZ h g1 N P K xs ys := by rw [hg1]; exact CZ_rf C
    have e1 : sX5_setStart [.ref 0, .int (scr.2 (i + 1))] h = some (.inr 2, g1) := by rw [hg1]; exact e1
    have w1 : sL_setStart [.ref 0, .int (scr.2 (i + 1)), .ref 139] h = some (.inl (some (.int 1)), g1) := by
      refine zsem_eq (Nat.le_of_ble_eq_true rfl) (zTo_of (gL_setStart_t2 e1) ?_)
      simp only [z0, zmp_s, zlt_s, zcV_s, zcI_s, zcJ_s, zcA_s, zcD_s, zcF_s, zth_n, zth_t, zrt_s, zQ_l, zQ_r, false_or, or_false, true_or, or_true, false_and, and_false, not_false_eq_true, not_true_eq_false, and_self, true_and, and_true, if_true, if_false, ite_true, ite_false, zgd_t]
    have o := zFr.rf (h := g1) (A := fun c => c = 139 ∨ c = 140)
    have mm := LI_mid H cz o
    have m := mm.1
    obtain ⟨g3, e3, q3, th⟩ := r_setStartX m hx
    have ms := MS2_z mm q3
    have tw := r_thrown ms.2.2.1.1
    rw [th] at tw
    obtain ⟨L, nn⟩ := LI_fin H cz o ms H.by
    have z1 := m.1.1
    have z3 := ms.2.2.1.1.1
    refine ⟨g3, _, _, _, _, _, ?_, L, by omega, by omega⟩
    refine Eq.trans gL_law_27_50 ?_
    simp only [p6, n1, c1, l1, w1, z1, e3, z3, tw, i10, i20, i30, zmp_s, zlt_s, zcV_s, zcI_s, zcJ_s, zcA_s, zcD_s, zcF_s, zth_n, zth_t, zrt_s, zQ_l, zQ_r, false_or, or_false, true_or, or_true, false_and, and_false, not_false_eq_true, not_true_eq_false, and_self, true_and, and_true, if_true, if_false, ite_true, ite_false, zgd_t]
    rfl
theorem kL_51 (H : LI h N P K xs ys) (hi : i + 6 ≤ scr.1) (hs : scr.1 ≤ 3072) : LG scr h i 51 := by
  have C := H.cp
  have M := H.mp
  have c := C.1
  have p6 : nI i + (6 : Int32) = nI (i + 6) := nI_add i 6
  have z0 : (zK h 0).1 = 11 := by rw [c.1.1]
  have F := c.2.2.1
  obtain ⟨n1, c1, l1⟩ := sidx hi hs 1 (by omega)
  have n1 : ((nI i + (1 : Int32)) < 0) = False := n1
  have c1 : (nI i + (1 : Int32)).toNatClampNeg = i + 1 := c1
  have l1 := l1 (by omega)
  rcases e_split (n := N 0) (by have := F.1.1; omega) (scr.2 (i + 1)) with ⟨r, hr, ea⟩ | ⟨h1, hx⟩
  · obtain ⟨g1, e1, t⟩ := m_setEnd c C.2.1 hr
    have cz := CZ_t C t
    have k39 : zK g1 139 = (1, 1) := by rw [cz.1.K]; exact H.2.2.2.2.2.2.2.2.2.2.2.2.2.2.1
    obtain ⟨g2, hg2⟩ : ∃ g2, g2 = zsJ g1 139 0 ((eI (N 3))).toInt64 := ⟨_, rfl⟩
    have w1 : sL_setEnd [.ref 0, .int (eI r), .ref 139] h = some (.inl (some (.int 0)), g2) := by
      refine zsem_eq (Nat.le_of_ble_eq_true rfl) (zTo_of (gL_setEnd_n e1) ?_)
      simp only [z0, k39, c_0, p_0, show ¬ 1 ≤ 0 by omega, ← hg2, zmp_s, zlt_s, zcV_s, zcI_s, zcJ_s, zcA_s, zcD_s, zcF_s, zth_n, zth_t, zrt_s, zQ_l, zQ_r, false_or, or_false, true_or, or_true, false_and, and_false, not_false_eq_true, not_true_eq_false, and_self, true_and, and_true, if_true, if_false, ite_true, ite_false, zgd_t]
    have o : zFr (fun c => c = 139 ∨ c = 140) g1 g2 := by rw [hg2]; exact zFr.sJ (Or.inl rfl)
    have mm := LI_mid H cz o
    have m := mm.1
    obtain ⟨g3, e3, q3, th⟩ := r_setEnd m mm.2.1 hr t.2.2.2.1.2.2.1
    have ms := MS2_c mm q3
    have tw := r_thrown ms.2.2.1.1
    rw [th] at tw
    obtain ⟨L, nn⟩ := LI_fin H cz o ms H.by
    have z1 := m.1.1
    have z3 := ms.2.2.1.1.1
    have j3 : zJ g3 139 0 = ((eI (N 3))).toInt64 := by rw [ms.1.J (by unfold mfA; omega), hg2, J_sJs, zput_self]
    have q3 : zK g3 139 = (1, 1) := L.2.2.2.2.2.2.2.2.2.2.2.2.2.2.1
    refine ⟨g3, _, _, _, _, _, ?_, L, by omega, by omega⟩
    refine Eq.trans gL_law_27_51 ?_
    simp only [p6, n1, c1, l1, ea, w1, z1, e3, z3, tw, q3, c_0, p_0, show ¬ 1 ≤ 0 by omega, j3, lg0, zmp_s, zlt_s, zcV_s, zcI_s, zcJ_s, zcA_s, zcD_s, zcF_s, zth_n, zth_t, zrt_s, zQ_l, zQ_r, false_or, or_false, true_or, or_true, false_and, and_false, not_false_eq_true, not_true_eq_false, and_self, true_and, and_true, if_true, if_false, ite_true, ite_false, zgd_t]
    rfl
  · have e1 := m_setEndX c h1 hx
    obtain ⟨g1, hg1⟩ : ∃ g1, g1 = h := ⟨_, rfl⟩
    have cz : CZ h g1 N P K xs ys := by rw [hg1]; exact CZ_rf C
    have e1 : sX5_setEnd [.ref 0, .int (scr.2 (i + 1))] h = some (.inr 2, g1) := by rw [hg1]; exact e1
    have w1 : sL_setEnd [.ref 0, .int (scr.2 (i + 1)), .ref 139] h = some (.inl (some (.int 1)), g1) := by
      refine zsem_eq (Nat.le_of_ble_eq_true rfl) (zTo_of (gL_setEnd_t2 e1) ?_)
      simp only [z0, zmp_s, zlt_s, zcV_s, zcI_s, zcJ_s, zcA_s, zcD_s, zcF_s, zth_n, zth_t, zrt_s, zQ_l, zQ_r, false_or, or_false, true_or, or_true, false_and, and_false, not_false_eq_true, not_true_eq_false, and_self, true_and, and_true, if_true, if_false, ite_true, ite_false, zgd_t]
    have o := zFr.rf (h := g1) (A := fun c => c = 139 ∨ c = 140)
    have mm := LI_mid H cz o
    have m := mm.1
    obtain ⟨g3, e3, q3, th⟩ := r_setEndX m h1 hx
    have ms := MS2_z mm q3
    have tw := r_thrown ms.2.2.1.1
    rw [th] at tw
    obtain ⟨L, nn⟩ := LI_fin H cz o ms H.by
    have z1 := m.1.1
    have z3 := ms.2.2.1.1.1
    refine ⟨g3, _, _, _, _, _, ?_, L, by omega, by omega⟩
    refine Eq.trans gL_law_27_51 ?_
    simp only [p6, n1, c1, l1, w1, z1, e3, z3, tw, i10, i20, i30, zmp_s, zlt_s, zcV_s, zcI_s, zcJ_s, zcA_s, zcD_s, zcF_s, zth_n, zth_t, zrt_s, zQ_l, zQ_r, false_or, or_false, true_or, or_true, false_and, and_false, not_false_eq_true, not_true_eq_false, and_self, true_and, and_true, if_true, if_false, ite_true, ite_false, zgd_t]
    rfl
theorem kL_52 (H : LI h N P K xs ys) (hi : i + 6 ≤ scr.1) (hs : scr.1 ≤ 3072) : LG scr h i 52 := by
  have C := H.cp
  have M := H.mp
  have c := C.1
  have p6 : nI i + (6 : Int32) = nI (i + 6) := nI_add i 6
  have z0 : (zK h 0).1 = 11 := by rw [c.1.1]
  have F := c.2.2.1
  obtain ⟨n1, c1, l1⟩ := sidx hi hs 1 (by omega)
  have n1 : ((nI i + (1 : Int32)) < 0) = False := n1
  have c1 : (nI i + (1 : Int32)).toNatClampNeg = i + 1 := c1
  have l1 := l1 (by omega)
  rcases i_split (show 2 < 2 ^ 31 by omega) (scr.2 (i + 1)) with ⟨r, hr, ea⟩ | hx
  · obtain ⟨g1, e1, fr, cg, hg, sg⟩ := m_keep c C.2.1 C.2.2.1 hr
    have cz : CZ h g1 N P (fun t => if t = r then some N else K t) xs ys := ⟨fr.mono (fun c hc => by unfold cfA; omega), by rw [fr.I (by omega)], by rw [fr.I (by omega)], cg, hg, sg, BL_fr fr (by omega) (by omega) C.2.2.2.1, BL_fr fr (by omega) (by omega) C.2.2.2.2⟩
    have k39 : zK g1 139 = (1, 1) := by rw [cz.1.K]; exact H.2.2.2.2.2.2.2.2.2.2.2.2.2.2.1
    obtain ⟨g2, hg2⟩ : ∃ g2, g2 = zsJ g1 139 0 ((nI (N 4))).toInt64 := ⟨_, rfl⟩
    have w1 : sL_keep [.ref 0, .int (nI r), .ref 139] h = some (.inl (some (.int 0)), g2) := by
      refine zsem_eq (Nat.le_of_ble_eq_true rfl) (zTo_of (gL_keep_n e1) ?_)
      simp only [z0, k39, c_0, p_0, show ¬ 1 ≤ 0 by omega, ← hg2, zmp_s, zlt_s, zcV_s, zcI_s, zcJ_s, zcA_s, zcD_s, zcF_s, zth_n, zth_t, zrt_s, zQ_l, zQ_r, false_or, or_false, true_or, or_true, false_and, and_false, not_false_eq_true, not_true_eq_false, and_self, true_and, and_true, if_true, if_false, ite_true, ite_false, zgd_t]
    have o : zFr (fun c => c = 139 ∨ c = 140) g1 g2 := by rw [hg2]; exact zFr.sJ (Or.inl rfl)
    have mm := LI_mid H cz o
    have m := mm.1
    obtain ⟨g3, e3, ⟨f3, j3, ks⟩, th⟩ := r_keep m mm.2.2.1 hr
    have ms := MS2_k mm f3 j3 ks
    have tw := r_thrown ms.2.2.1.1
    rw [th] at tw
    obtain ⟨L, nn⟩ := LI_fin H cz o ms H.by
    have z1 := m.1.1
    have z3 := ms.2.2.1.1.1
    have j3 : zJ g3 139 0 = ((nI (N 4))).toInt64 := by rw [ms.1.J (by unfold mfA; omega), hg2, J_sJs, zput_self]
    have q3 : zK g3 139 = (1, 1) := L.2.2.2.2.2.2.2.2.2.2.2.2.2.2.1
    refine ⟨g3, _, _, _, _, _, ?_, L, by omega, by omega⟩
    refine Eq.trans gL_law_27_52 ?_
    simp only [p6, n1, c1, l1, ea, w1, z1, e3, z3, tw, q3, c_0, p_0, show ¬ 1 ≤ 0 by omega, j3, lg0, zmp_s, zlt_s, zcV_s, zcI_s, zcJ_s, zcA_s, zcD_s, zcF_s, zth_n, zth_t, zrt_s, zQ_l, zQ_r, false_or, or_false, true_or, or_true, false_and, and_false, not_false_eq_true, not_true_eq_false, and_self, true_and, and_true, if_true, if_false, ite_true, ite_false, zgd_t]
    rfl
  · have e1 := m_keepX (h := h) hx
    obtain ⟨g1, hg1⟩ : ∃ g1, g1 = h := ⟨_, rfl⟩
    have cz : CZ h g1 N P K xs ys := by rw [hg1]; exact CZ_rf C
    have e1 : sX5_keep [.ref 0, .int (scr.2 (i + 1))] h = some (.inr 2, g1) := by rw [hg1]; exact e1
    have w1 : sL_keep [.ref 0, .int (scr.2 (i + 1)), .ref 139] h = some (.inl (some (.int 1)), g1) := by
      refine zsem_eq (Nat.le_of_ble_eq_true rfl) (zTo_of (gL_keep_t2 e1) ?_)
      simp only [z0, zmp_s, zlt_s, zcV_s, zcI_s, zcJ_s, zcA_s, zcD_s, zcF_s, zth_n, zth_t, zrt_s, zQ_l, zQ_r, false_or, or_false, true_or, or_true, false_and, and_false, not_false_eq_true, not_true_eq_false, and_self, true_and, and_true, if_true, if_false, ite_true, ite_false, zgd_t]
    have o := zFr.rf (h := g1) (A := fun c => c = 139 ∨ c = 140)
    have mm := LI_mid H cz o
    have m := mm.1
    obtain ⟨g3, e3, q3, th⟩ := r_keepX m hx
    have ms := MS2_z mm q3
    have tw := r_thrown ms.2.2.1.1
    rw [th] at tw
    obtain ⟨L, nn⟩ := LI_fin H cz o ms H.by
    have z1 := m.1.1
    have z3 := ms.2.2.1.1.1
    refine ⟨g3, _, _, _, _, _, ?_, L, by omega, by omega⟩
    refine Eq.trans gL_law_27_52 ?_
    simp only [p6, n1, c1, l1, w1, z1, e3, z3, tw, i10, i20, i30, zmp_s, zlt_s, zcV_s, zcI_s, zcJ_s, zcA_s, zcD_s, zcF_s, zth_n, zth_t, zrt_s, zQ_l, zQ_r, false_or, or_false, true_or, or_true, false_and, and_false, not_false_eq_true, not_true_eq_false, and_self, true_and, and_true, if_true, if_false, ite_true, ite_false, zgd_t]
    rfl
theorem kL_53 (H : LI h N P K xs ys) (hi : i + 6 ≤ scr.1) (hs : scr.1 ≤ 3072) : LG scr h i 53 := by
  have C := H.cp
  have M := H.mp
  have c := C.1
  have p6 : nI i + (6 : Int32) = nI (i + 6) := nI_add i 6
  have z0 : (zK h 0).1 = 11 := by rw [c.1.1]
  have F := c.2.2.1
  obtain ⟨n1, c1, l1⟩ := sidx hi hs 1 (by omega)
  have n1 : ((nI i + (1 : Int32)) < 0) = False := n1
  have c1 : (nI i + (1 : Int32)).toNatClampNeg = i + 1 := c1
  have l1 := l1 (by omega)
  rcases i_split (show 2 < 2 ^ 31 by omega) (scr.2 (i + 1)) with ⟨r, hr, ea⟩ | hx
  · cases hK : K r with
    | none =>
      have e1 := m_restoreE c C.2.2.1 hr hK
      obtain ⟨g1, hg1⟩ : ∃ g1, g1 = h := ⟨_, rfl⟩
      have cz : CZ h g1 N P K xs ys := by rw [hg1]; exact CZ_rf C
      have e1 : sX5_restore [.ref 0, .int (nI r)] h = some (.inr 0, g1) := by rw [hg1]; exact e1
      have w1 : sL_restore [.ref 0, .int (nI r), .ref 139] h = some (.inl (some (.int 2)), g1) := by
        refine zsem_eq (Nat.le_of_ble_eq_true rfl) (zTo_of (gL_restore_t0 e1) ?_)
        simp only [z0, zmp_s, zlt_s, zcV_s, zcI_s, zcJ_s, zcA_s, zcD_s, zcF_s, zth_n, zth_t, zrt_s, zQ_l, zQ_r, false_or, or_false, true_or, or_true, false_and, and_false, not_false_eq_true, not_true_eq_false, and_self, true_and, and_true, if_true, if_false, ite_true, ite_false, zgd_t]
      have o := zFr.rf (h := g1) (A := fun c => c = 139 ∨ c = 140)
      have mm := LI_mid H cz o
      have m := mm.1
      obtain ⟨g3, e3, q3, th⟩ := r_restoreE m mm.2.2.1 hr hK
      have ms := MS2_z mm q3
      have tw := r_thrown ms.2.2.1.1
      rw [th] at tw
      obtain ⟨L, nn⟩ := LI_fin H cz o ms H.by
      have z1 := m.1.1
      have z3 := ms.2.2.1.1.1
      refine ⟨g3, _, _, _, _, _, ?_, L, by omega, by omega⟩
      refine Eq.trans gL_law_27_53 ?_
      simp only [p6, n1, c1, l1, ea, w1, z1, e3, z3, tw, i10, i20, i30, zmp_s, zlt_s, zcV_s, zcI_s, zcJ_s, zcA_s, zcD_s, zcF_s, zth_n, zth_t, zrt_s, zQ_l, zQ_r, false_or, or_false, true_or, or_true, false_and, and_false, not_false_eq_true, not_true_eq_false, and_self, true_and, and_true, if_true, if_false, ite_true, ite_false, zgd_t]
      rfl
    | some M2 =>
      obtain ⟨g1, e1, t⟩ := m_restore c C.2.1 C.2.2.1 hr hK
      have cz := CZ_t C t
      have k39 : zK g1 139 = (1, 1) := by rw [cz.1.K]; exact H.2.2.2.2.2.2.2.2.2.2.2.2.2.2.1
      obtain ⟨g2, hg2⟩ : ∃ g2, g2 = zsJ g1 139 0 ((nI (M2 4))).toInt64 := ⟨_, rfl⟩
      have w1 : sL_restore [.ref 0, .int (nI r), .ref 139] h = some (.inl (some (.int 0)), g2) := by
        refine zsem_eq (Nat.le_of_ble_eq_true rfl) (zTo_of (gL_restore_n e1) ?_)
        simp only [z0, k39, c_0, p_0, show ¬ 1 ≤ 0 by omega, ← hg2, zmp_s, zlt_s, zcV_s, zcI_s, zcJ_s, zcA_s, zcD_s, zcF_s, zth_n, zth_t, zrt_s, zQ_l, zQ_r, false_or, or_false, true_or, or_true, false_and, and_false, not_false_eq_true, not_true_eq_false, and_self, true_and, and_true, if_true, if_false, ite_true, ite_false, zgd_t]
      have o : zFr (fun c => c = 139 ∨ c = 140) g1 g2 := by rw [hg2]; exact zFr.sJ (Or.inl rfl)
      have mm := LI_mid H cz o
      have m := mm.1
      obtain ⟨g3, e3, q3, th⟩ := r_restore m mm.2.1 mm.2.2.1 hr hK
      have ms := MS2_c mm q3
      have tw := r_thrown ms.2.2.1.1
      rw [th] at tw
      obtain ⟨L, nn⟩ := LI_fin H cz o ms H.by
      have z1 := m.1.1
      have z3 := ms.2.2.1.1.1
      have j3 : zJ g3 139 0 = ((nI (M2 4))).toInt64 := by rw [ms.1.J (by unfold mfA; omega), hg2, J_sJs, zput_self]
      have q3 : zK g3 139 = (1, 1) := L.2.2.2.2.2.2.2.2.2.2.2.2.2.2.1
      refine ⟨g3, _, _, _, _, _, ?_, L, by omega, by omega⟩
      refine Eq.trans gL_law_27_53 ?_
      simp only [p6, n1, c1, l1, ea, w1, z1, e3, z3, tw, q3, c_0, p_0, show ¬ 1 ≤ 0 by omega, j3, lg0, zmp_s, zlt_s, zcV_s, zcI_s, zcJ_s, zcA_s, zcD_s, zcF_s, zth_n, zth_t, zrt_s, zQ_l, zQ_r, false_or, or_false, true_or, or_true, false_and, and_false, not_false_eq_true, not_true_eq_false, and_self, true_and, and_true, if_true, if_false, ite_true, ite_false, zgd_t]
      rfl
  · have e1 := m_restoreX (h := h) hx
    obtain ⟨g1, hg1⟩ : ∃ g1, g1 = h := ⟨_, rfl⟩
    have cz : CZ h g1 N P K xs ys := by rw [hg1]; exact CZ_rf C
    have e1 : sX5_restore [.ref 0, .int (scr.2 (i + 1))] h = some (.inr 2, g1) := by rw [hg1]; exact e1
    have w1 : sL_restore [.ref 0, .int (scr.2 (i + 1)), .ref 139] h = some (.inl (some (.int 1)), g1) := by
      refine zsem_eq (Nat.le_of_ble_eq_true rfl) (zTo_of (gL_restore_t2 e1) ?_)
      simp only [z0, zmp_s, zlt_s, zcV_s, zcI_s, zcJ_s, zcA_s, zcD_s, zcF_s, zth_n, zth_t, zrt_s, zQ_l, zQ_r, false_or, or_false, true_or, or_true, false_and, and_false, not_false_eq_true, not_true_eq_false, and_self, true_and, and_true, if_true, if_false, ite_true, ite_false, zgd_t]
    have o := zFr.rf (h := g1) (A := fun c => c = 139 ∨ c = 140)
    have mm := LI_mid H cz o
    have m := mm.1
    obtain ⟨g3, e3, q3, th⟩ := r_restoreX m hx
    have ms := MS2_z mm q3
    have tw := r_thrown ms.2.2.1.1
    rw [th] at tw
    obtain ⟨L, nn⟩ := LI_fin H cz o ms H.by
    have z1 := m.1.1
    have z3 := ms.2.2.1.1.1
    refine ⟨g3, _, _, _, _, _, ?_, L, by omega, by omega⟩
    refine Eq.trans gL_law_27_53 ?_
    simp only [p6, n1, c1, l1, w1, z1, e3, z3, tw, i10, i20, i30, zmp_s, zlt_s, zcV_s, zcI_s, zcJ_s, zcA_s, zcD_s, zcF_s, zth_n, zth_t, zrt_s, zQ_l, zQ_r, false_or, or_false, true_or, or_true, false_and, and_false, not_false_eq_true, not_true_eq_false, and_self, true_and, and_true, if_true, if_false, ite_true, ite_false, zgd_t]
    rfl
theorem kL_54 (H : LI h N P K xs ys) (hi : i + 6 ≤ scr.1) (hs : scr.1 ≤ 3072) : LG scr h i 54 := by
  have C := H.cp
  have M := H.mp
  have c := C.1
  have p6 : nI i + (6 : Int32) = nI (i + 6) := nI_add i 6
  have z0 : (zK h 0).1 = 11 := by rw [c.1.1]
  have F := c.2.2.1
  cases P with
  | nil =>
    have e1 := m_undoX c C.2.1
    obtain ⟨g1, hg1⟩ : ∃ g1, g1 = h := ⟨_, rfl⟩
    have cz : CZ h g1 N [] K xs ys := by rw [hg1]; exact CZ_rf C
    have e1 : sX5_undo [.ref 0] h = some (.inr 0, g1) := by rw [hg1]; exact e1
    have w1 : sL_undo [.ref 0, .ref 139] h = some (.inl (some (.int 1)), g1) := by
      refine zsem_eq (Nat.le_of_ble_eq_true rfl) (zTo_of (gL_undo_t0 e1) ?_)
      simp only [z0, zmp_s, zlt_s, zcV_s, zcI_s, zcJ_s, zcA_s, zcD_s, zcF_s, zth_n, zth_t, zrt_s, zQ_l, zQ_r, false_or, or_false, true_or, or_true, false_and, and_false, not_false_eq_true, not_true_eq_false, and_self, true_and, and_true, if_true, if_false, ite_true, ite_false, zgd_t]
    have o := zFr.rf (h := g1) (A := fun c => c = 139 ∨ c = 140)
    have mm := LI_mid H cz o
    have m := mm.1
    obtain ⟨g3, e3, q3, th⟩ := r_undoX m mm.2.1
    have ms := MS2_z mm q3
    have tw := r_thrown ms.2.2.1.1
    rw [th] at tw
    obtain ⟨L, nn⟩ := LI_fin H cz o ms H.by
    have z1 := m.1.1
    have z3 := ms.2.2.1.1.1
    refine ⟨g3, _, _, _, _, _, ?_, L, by omega, by omega⟩
    refine Eq.trans gL_law_27_54 ?_
    simp only [p6, w1, z1, e3, z3, tw, i10, i20, i30, zmp_s, zlt_s, zcV_s, zcI_s, zcJ_s, zcA_s, zcD_s, zcF_s, zth_n, zth_t, zrt_s, zQ_l, zQ_r, false_or, or_false, true_or, or_true, false_and, and_false, not_false_eq_true, not_true_eq_false, and_self, true_and, and_true, if_true, if_false, ite_true, ite_false, zgd_t]
    rfl
  | cons M2 P2 =>
    obtain ⟨g1, e1, t⟩ := m_undo c C.2.1
    have cz := CZ_t C t
    have k39 : zK g1 139 = (1, 1) := by rw [cz.1.K]; exact H.2.2.2.2.2.2.2.2.2.2.2.2.2.2.1
    obtain ⟨g2, hg2⟩ : ∃ g2, g2 = zsJ g1 139 0 ((nI P2.length)).toInt64 := ⟨_, rfl⟩
    have w1 : sL_undo [.ref 0, .ref 139] h = some (.inl (some (.int 0)), g2) := by
      refine zsem_eq (Nat.le_of_ble_eq_true rfl) (zTo_of (gL_undo_n e1) ?_)
      simp only [z0, k39, c_0, p_0, show ¬ 1 ≤ 0 by omega, ← hg2, zmp_s, zlt_s, zcV_s, zcI_s, zcJ_s, zcA_s, zcD_s, zcF_s, zth_n, zth_t, zrt_s, zQ_l, zQ_r, false_or, or_false, true_or, or_true, false_and, and_false, not_false_eq_true, not_true_eq_false, and_self, true_and, and_true, if_true, if_false, ite_true, ite_false, zgd_t]
    have o : zFr (fun c => c = 139 ∨ c = 140) g1 g2 := by rw [hg2]; exact zFr.sJ (Or.inl rfl)
    have mm := LI_mid H cz o
    have m := mm.1
    obtain ⟨g3, e3, q3, th⟩ := r_undo m mm.2.1
    have ms := MS2_c mm q3
    have tw := r_thrown ms.2.2.1.1
    rw [th] at tw
    obtain ⟨L, nn⟩ := LI_fin H cz o ms H.by
    have z1 := m.1.1
    have z3 := ms.2.2.1.1.1
    have j3 : zJ g3 139 0 = ((nI P2.length)).toInt64 := by rw [ms.1.J (by unfold mfA; omega), hg2, J_sJs, zput_self]
    have q3 : zK g3 139 = (1, 1) := L.2.2.2.2.2.2.2.2.2.2.2.2.2.2.1
    refine ⟨g3, _, _, _, _, _, ?_, L, by omega, by omega⟩
    refine Eq.trans gL_law_27_54 ?_
    simp only [p6, w1, z1, e3, z3, tw, q3, c_0, p_0, show ¬ 1 ≤ 0 by omega, j3, lg0, zmp_s, zlt_s, zcV_s, zcI_s, zcJ_s, zcA_s, zcD_s, zcF_s, zth_n, zth_t, zrt_s, zQ_l, zQ_r, false_or, or_false, true_or, or_true, false_and, and_false, not_false_eq_true, not_true_eq_false, and_self, true_and, and_true, if_true, if_false, ite_true, ite_false, zgd_t]
    rfl
theorem kL_58 (H : LI h N P K xs ys) (hi : i + 6 ≤ scr.1) (hs : scr.1 ≤ 3072) : LG scr h i 58 := by
  have C := H.cp
  have M := H.mp
  have c := C.1
  have p6 : nI i + (6 : Int32) = nI (i + 6) := nI_add i 6
  have z0 : (zK h 0).1 = 11 := by rw [c.1.1]
  have F := c.2.2.1
  obtain ⟨n1, c1, l1⟩ := sidx hi hs 1 (by omega)
  have n1 : ((nI i + (1 : Int32)) < 0) = False := n1
  have c1 : (nI i + (1 : Int32)).toNatClampNeg = i + 1 := c1
  have l1 := l1 (by omega)
  rcases i_split (show N 1 < 2 ^ 31 by have := F.1.2.1; omega) (scr.2 (i + 1)) with ⟨r, hr, ea⟩ | hx
  · obtain ⟨g1, e1, fr, cg, b⟩ := m_writeDoor c hr
    have cz : CZ h g1 N P K xs _ := ⟨fr.mono (fun c hc => by unfold fr34 at hc; unfold cfA; omega), by rw [fr.I (by unfold fr34; omega)], by rw [fr.I (by unfold fr34; omega)], cg, HH_fr fr (fun c h1 h2 hc => by unfold fr34 at hc; omega) C.2.1, SL_fr fr (fun c h1 h2 hc => by unfold fr34 at hc; omega) C.2.2.1, BL_fr fr (by unfold fr34; omega) (by unfold fr34; omega) C.2.2.2.1, b⟩
    have k39 : zK g1 139 = (1, 1) := by rw [cz.1.K]; exact H.2.2.2.2.2.2.2.2.2.2.2.2.2.2.1
    obtain ⟨g2, hg2⟩ : ∃ g2, g2 = zsJ g1 139 0 ((nI (ndw N r).length)).toInt64 := ⟨_, rfl⟩
    have w1 : sL_writeDoor [.ref 0, .int (nI r), .ref 139] h = some (.inl (some (.int 0)), g2) := by
      refine zsem_eq (Nat.le_of_ble_eq_true rfl) (zTo_of (gL_writeDoor_n e1) ?_)
      simp only [z0, k39, c_0, p_0, show ¬ 1 ≤ 0 by omega, ← hg2, zmp_s, zlt_s, zcV_s, zcI_s, zcJ_s, zcA_s, zcD_s, zcF_s, zth_n, zth_t, zrt_s, zQ_l, zQ_r, false_or, or_false, true_or, or_true, false_and, and_false, not_false_eq_true, not_true_eq_false, and_self, true_and, and_true, if_true, if_false, ite_true, ite_false, zgd_t]
    have o : zFr (fun c => c = 139 ∨ c = 140) g1 g2 := by rw [hg2]; exact zFr.sJ (Or.inl rfl)
    have mm := LI_mid H cz o
    have m := mm.1
    obtain ⟨g3, e3, q3, th⟩ := r_writeDoor m hr
    have ms := MS2_w mm q3
    have tw := r_thrown ms.2.2.1.1
    rw [th] at tw
    obtain ⟨L, nn⟩ := LI_fin H cz o ms H.by
    have z1 := m.1.1
    have z3 := ms.2.2.1.1.1
    have j3 : zJ g3 139 0 = ((nI (ndw N r).length)).toInt64 := by rw [ms.1.J (by unfold mfA; omega), hg2, J_sJs, zput_self]
    have q3 : zK g3 139 = (1, 1) := L.2.2.2.2.2.2.2.2.2.2.2.2.2.2.1
    refine ⟨g3, _, _, _, _, _, ?_, L, by omega, by omega⟩
    refine Eq.trans gL_law_27_58 ?_
    simp only [p6, n1, c1, l1, ea, w1, z1, e3, z3, tw, q3, c_0, p_0, show ¬ 1 ≤ 0 by omega, j3, lg0, zmp_s, zlt_s, zcV_s, zcI_s, zcJ_s, zcA_s, zcD_s, zcF_s, zth_n, zth_t, zrt_s, zQ_l, zQ_r, false_or, or_false, true_or, or_true, false_and, and_false, not_false_eq_true, not_true_eq_false, and_self, true_and, and_true, if_true, if_false, ite_true, ite_false, zgd_t]
    rfl
  · have e1 := m_writeDoorX c hx
    obtain ⟨g1, hg1⟩ : ∃ g1, g1 = h := ⟨_, rfl⟩
    have cz : CZ h g1 N P K xs ys := by rw [hg1]; exact CZ_rf C
    have e1 : sX5_writeDoor [.ref 0, .int (scr.2 (i + 1))] h = some (.inr 2, g1) := by rw [hg1]; exact e1
    have w1 : sL_writeDoor [.ref 0, .int (scr.2 (i + 1)), .ref 139] h = some (.inl (some (.int 1)), g1) := by
      refine zsem_eq (Nat.le_of_ble_eq_true rfl) (zTo_of (gL_writeDoor_t2 e1) ?_)
      simp only [z0, zmp_s, zlt_s, zcV_s, zcI_s, zcJ_s, zcA_s, zcD_s, zcF_s, zth_n, zth_t, zrt_s, zQ_l, zQ_r, false_or, or_false, true_or, or_true, false_and, and_false, not_false_eq_true, not_true_eq_false, and_self, true_and, and_true, if_true, if_false, ite_true, ite_false, zgd_t]
    have o := zFr.rf (h := g1) (A := fun c => c = 139 ∨ c = 140)
    have mm := LI_mid H cz o
    have m := mm.1
    obtain ⟨g3, e3, q3, th⟩ := r_writeDoorX m hx
    have ms := MS2_z mm q3
    have tw := r_thrown ms.2.2.1.1
    rw [th] at tw
    obtain ⟨L, nn⟩ := LI_fin H cz o ms H.by
    have z1 := m.1.1
    have z3 := ms.2.2.1.1.1
    refine ⟨g3, _, _, _, _, _, ?_, L, by omega, by omega⟩
    refine Eq.trans gL_law_27_58 ?_
    simp only [p6, n1, c1, l1, w1, z1, e3, z3, tw, i10, i20, i30, zmp_s, zlt_s, zcV_s, zcI_s, zcJ_s, zcA_s, zcD_s, zcF_s, zth_n, zth_t, zrt_s, zQ_l, zQ_r, false_or, or_false, true_or, or_true, false_and, and_false, not_false_eq_true, not_true_eq_false, and_self, true_and, and_true, if_true, if_false, ite_true, ite_false, zgd_t]
    rfl
theorem kL_59 (H : LI h N P K xs ys) (hi : i + 6 ≤ scr.1) (hs : scr.1 ≤ 3072) : LG scr h i 59 := by
  have C := H.cp
  have M := H.mp
  have c := C.1
  have p6 : nI i + (6 : Int32) = nI (i + 6) := nI_add i 6
  have z0 : (zK h 0).1 = 11 := by rw [c.1.1]
  have F := c.2.2.1
  obtain ⟨n1, c1, l1⟩ := sidx hi hs 1 (by omega)
  have n1 : ((nI i + (1 : Int32)) < 0) = False := n1
  have c1 : (nI i + (1 : Int32)).toNatClampNeg = i + 1 := c1
  have l1 := l1 (by omega)
  rcases i_split (show ys.length < 2 ^ 31 by have := C.2.2.2.2.2.1; omega) (scr.2 (i + 1)) with ⟨r, hr, ea⟩ | hx
  · have e1 := m_outputByte c C.2.2.2.2 hr
    obtain ⟨g1, hg1⟩ : ∃ g1, g1 = h := ⟨_, rfl⟩
    have cz : CZ h g1 N P K xs ys := by rw [hg1]; exact CZ_rf C
    have e1 : sX5_outputByte [.ref 0, .int (nI r)] h = some (.inl (some (.int (ys.getD r 0))), g1) := by rw [hg1]; exact e1
    have k39 : zK g1 139 = (1, 1) := by rw [cz.1.K]; exact H.2.2.2.2.2.2.2.2.2.2.2.2.2.2.1
    obtain ⟨g2, hg2⟩ : ∃ g2, g2 = zsJ g1 139 0 ((ys.getD r 0)).toInt64 := ⟨_, rfl⟩
    have w1 : sL_outputByte [.ref 0, .int (nI r), .ref 139] h = some (.inl (some (.int 0)), g2) := by
      refine zsem_eq (Nat.le_of_ble_eq_true rfl) (zTo_of (gL_outputByte_n e1) ?_)
      simp only [z0, k39, c_0, p_0, show ¬ 1 ≤ 0 by omega, ← hg2, zmp_s, zlt_s, zcV_s, zcI_s, zcJ_s, zcA_s, zcD_s, zcF_s, zth_n, zth_t, zrt_s, zQ_l, zQ_r, false_or, or_false, true_or, or_true, false_and, and_false, not_false_eq_true, not_true_eq_false, and_self, true_and, and_true, if_true, if_false, ite_true, ite_false, zgd_t]
    have o : zFr (fun c => c = 139 ∨ c = 140) g1 g2 := by rw [hg2]; exact zFr.sJ (Or.inl rfl)
    have mm := LI_mid H cz o
    have m := mm.1
    obtain ⟨g3, e3, q3, th⟩ := r_outputByte m mm.2.2.2.2 hr
    have ms := MS2_z mm q3
    have tw := r_thrown ms.2.2.1.1
    rw [th] at tw
    obtain ⟨L, nn⟩ := LI_fin H cz o ms H.by
    have z1 := m.1.1
    have z3 := ms.2.2.1.1.1
    have j3 : zJ g3 139 0 = ((ys.getD r 0)).toInt64 := by rw [ms.1.J (by unfold mfA; omega), hg2, J_sJs, zput_self]
    have q3 : zK g3 139 = (1, 1) := L.2.2.2.2.2.2.2.2.2.2.2.2.2.2.1
    refine ⟨g3, _, _, _, _, _, ?_, L, by omega, by omega⟩
    refine Eq.trans gL_law_27_59 ?_
    simp only [p6, n1, c1, l1, ea, w1, z1, e3, z3, tw, q3, c_0, p_0, show ¬ 1 ≤ 0 by omega, j3, lg0, zmp_s, zlt_s, zcV_s, zcI_s, zcJ_s, zcA_s, zcD_s, zcF_s, zth_n, zth_t, zrt_s, zQ_l, zQ_r, false_or, or_false, true_or, or_true, false_and, and_false, not_false_eq_true, not_true_eq_false, and_self, true_and, and_true, if_true, if_false, ite_true, ite_false, zgd_t]
    rfl
  · have hz := i_nlt hx
    have e1 := m_outputByteX c C.2.2.2.2 hz
    obtain ⟨g1, hg1⟩ : ∃ g1, g1 = h := ⟨_, rfl⟩
    have cz : CZ h g1 N P K xs ys := by rw [hg1]; exact CZ_rf C
    have e1 : sX5_outputByte [.ref 0, .int (scr.2 (i + 1))] h = some (.inr 3, g1) := by rw [hg1]; exact e1
    have w1 : sL_outputByte [.ref 0, .int (scr.2 (i + 1)), .ref 139] h = some (.inl (some (.int 1)), g1) := by
      refine zsem_eq (Nat.le_of_ble_eq_true rfl) (zTo_of (gL_outputByte_t3 e1) ?_)
      simp only [z0, zmp_s, zlt_s, zcV_s, zcI_s, zcJ_s, zcA_s, zcD_s, zcF_s, zth_n, zth_t, zrt_s, zQ_l, zQ_r, false_or, or_false, true_or, or_true, false_and, and_false, not_false_eq_true, not_true_eq_false, and_self, true_and, and_true, if_true, if_false, ite_true, ite_false, zgd_t]
    have o := zFr.rf (h := g1) (A := fun c => c = 139 ∨ c = 140)
    have mm := LI_mid H cz o
    have m := mm.1
    obtain ⟨g3, e3, q3, th⟩ := r_outputByteX m mm.2.2.2.2 hx
    have ms := MS2_z mm q3
    have tw := r_thrown ms.2.2.1.1
    rw [th] at tw
    obtain ⟨L, nn⟩ := LI_fin H cz o ms H.by
    have z1 := m.1.1
    have z3 := ms.2.2.1.1.1
    refine ⟨g3, _, _, _, _, _, ?_, L, by omega, by omega⟩
    refine Eq.trans gL_law_27_59 ?_
    simp only [p6, n1, c1, l1, w1, z1, e3, z3, tw, i10, i20, i30, zmp_s, zlt_s, zcV_s, zcI_s, zcJ_s, zcA_s, zcD_s, zcF_s, zth_n, zth_t, zrt_s, zQ_l, zQ_r, false_or, or_false, true_or, or_true, false_and, and_false, not_false_eq_true, not_true_eq_false, and_self, true_and, and_true, if_true, if_false, ite_true, ite_false, zgd_t]
    rfl
theorem kL_0 (H : LI h N P K xs ys) (hi : i + 6 ≤ scr.1) (hs : scr.1 ≤ 3072) : LG scr h i 0 := by
  have C := H.cp
  have M := H.mp
  have c := C.1
  have p6 : nI i + (6 : Int32) = nI (i + 6) := nI_add i 6
  have z0 : (zK h 0).1 = 11 := by rw [c.1.1]
  have F := c.2.2.1
  obtain ⟨n1, c1, l1⟩ := sidx hi hs 1 (by omega)
  have n1 : ((nI i + (1 : Int32)) < 0) = False := n1
  have c1 : (nI i + (1 : Int32)).toNatClampNeg = i + 1 := c1
  have l1 := l1 (by omega)
  obtain ⟨n2, c2, l2⟩ := sidx hi hs 2 (by omega)
  have n2 : ((nI i + (2 : Int32)) < 0) = False := n2
  have c2 : (nI i + (2 : Int32)).toNatClampNeg = i + 2 := c2
  have l2 := l2 (by omega)
  obtain ⟨n3, c3, l3⟩ := sidx hi hs 3 (by omega)
  have n3 : ((nI i + (3 : Int32)) < 0) = False := n3
  have c3 : (nI i + (3 : Int32)).toNatClampNeg = i + 3 := c3
  have l3 := l3 (by omega)
  obtain ⟨n4, c4, l4⟩ := sidx hi hs 4 (by omega)
  have n4 : ((nI i + (4 : Int32)) < 0) = False := n4
  have c4 : (nI i + (4 : Int32)).toNatClampNeg = i + 4 := c4
  have l4 := l4 (by omega)
  obtain ⟨n5, c5, l5⟩ := sidx hi hs 5 (by omega)
  have n5 : ((nI i + (5 : Int32)) < 0) = False := n5
  have c5 : (nI i + (5 : Int32)).toNatClampNeg = i + 5 := c5
  have l5 := l5 (by omega)
  by_cases hl : xs.length + 20 ≤ 500
  · obtain ⟨g1, e1, fr, b⟩ := m_append (v1 := (scr.2 (i + 1))) (v2 := (scr.2 (i + 2))) (v3 := (scr.2 (i + 3))) (v4 := (scr.2 (i + 4))) (v5 := (scr.2 (i + 5))) c C.2.2.2.1 hl
    have cz : CZ h g1 N P K _ ys := ⟨fr.mono (fun c hc => by unfold cfA; omega), by rw [fr.I (by omega)], by rw [fr.I (by omega)], c.fr fr (fun c hc => by omega), HH_fr fr (fun c h1 h2 => by omega) C.2.1, SL_fr fr (fun c h1 h2 => by omega) C.2.2.1, b, BL_fr fr (by omega) (by omega) C.2.2.2.2⟩
    have k39 : zK g1 139 = (1, 1) := by rw [cz.1.K]; exact H.2.2.2.2.2.2.2.2.2.2.2.2.2.2.1
    obtain ⟨g2, hg2⟩ : ∃ g2, g2 = zsJ g1 139 0 ((nI (xs.length + 20))).toInt64 := ⟨_, rfl⟩
    have w1 : sL_append [.ref 0, .int (scr.2 (i + 1)), .int (scr.2 (i + 2)), .int (scr.2 (i + 3)), .int (scr.2 (i + 4)), .int (scr.2 (i + 5)), .ref 139] h = some (.inl (some (.int 0)), g2) := by
      refine zsem_eq (Nat.le_of_ble_eq_true rfl) (zTo_of (gL_append_n e1) ?_)
      simp only [z0, k39, c_0, p_0, show ¬ 1 ≤ 0 by omega, ← hg2, zmp_s, zlt_s, zcV_s, zcI_s, zcJ_s, zcA_s, zcD_s, zcF_s, zth_n, zth_t, zrt_s, zQ_l, zQ_r, false_or, or_false, true_or, or_true, false_and, and_false, not_false_eq_true, not_true_eq_false, and_self, true_and, and_true, if_true, if_false, ite_true, ite_false, zgd_t]
    have o : zFr (fun c => c = 139 ∨ c = 140) g1 g2 := by rw [hg2]; exact zFr.sJ (Or.inl rfl)
    have mm := LI_mid H cz o
    have m := mm.1
    obtain ⟨g3, e3, q3, th⟩ := r_append (v1 := (scr.2 (i + 1))) (v2 := (scr.2 (i + 2))) (v3 := (scr.2 (i + 3))) (v4 := (scr.2 (i + 4))) (v5 := (scr.2 (i + 5))) m mm.2.2.2.1 hl
    have ms := MS2_j mm q3
    have tw := r_thrown ms.2.2.1.1
    rw [th] at tw
    obtain ⟨L, nn⟩ := LI_fin H cz o ms (BY_app H.by (BY_app (BY_app (BY_app (BY_app (BY_b4 _) (BY_b4 _)) (BY_b4 _)) (BY_b4 _)) (BY_b4 _)))
    have z1 := m.1.1
    have z3 := ms.2.2.1.1.1
    have j3 : zJ g3 139 0 = ((nI (xs.length + 20))).toInt64 := by rw [ms.1.J (by unfold mfA; omega), hg2, J_sJs, zput_self]
    have q3 : zK g3 139 = (1, 1) := L.2.2.2.2.2.2.2.2.2.2.2.2.2.2.1
    refine ⟨g3, _, _, _, _, _, ?_, L, by omega, by omega⟩
    refine Eq.trans gL_law_27_0 ?_
    simp only [p6, n1, c1, l1, n2, c2, l2, n3, c3, l3, n4, c4, l4, n5, c5, l5, w1, z1, e3, z3, tw, q3, c_0, p_0, show ¬ 1 ≤ 0 by omega, j3, lg0, zmp_s, zlt_s, zcV_s, zcI_s, zcJ_s, zcA_s, zcD_s, zcF_s, zth_n, zth_t, zrt_s, zQ_l, zQ_r, false_or, or_false, true_or, or_true, false_and, and_false, not_false_eq_true, not_true_eq_false, and_self, true_and, and_true, if_true, if_false, ite_true, ite_false, zgd_t]
    rfl
  · have e1 := m_appendX (v1 := (scr.2 (i + 1))) (v2 := (scr.2 (i + 2))) (v3 := (scr.2 (i + 3))) (v4 := (scr.2 (i + 4))) (v5 := (scr.2 (i + 5))) c C.2.2.2.1 hl
    obtain ⟨g1, hg1⟩ : ∃ g1, g1 = h := ⟨_, rfl⟩
    have cz : CZ h g1 N P K xs ys := by rw [hg1]; exact CZ_rf C
    have e1 : sX5_append [.ref 0, .int (scr.2 (i + 1)), .int (scr.2 (i + 2)), .int (scr.2 (i + 3)), .int (scr.2 (i + 4)), .int (scr.2 (i + 5))] h = some (.inr 0, g1) := by rw [hg1]; exact e1
    have w1 : sL_append [.ref 0, .int (scr.2 (i + 1)), .int (scr.2 (i + 2)), .int (scr.2 (i + 3)), .int (scr.2 (i + 4)), .int (scr.2 (i + 5)), .ref 139] h = some (.inl (some (.int 1)), g1) := by
      refine zsem_eq (Nat.le_of_ble_eq_true rfl) (zTo_of (gL_append_t0 e1) ?_)
      simp only [z0, zmp_s, zlt_s, zcV_s, zcI_s, zcJ_s, zcA_s, zcD_s, zcF_s, zth_n, zth_t, zrt_s, zQ_l, zQ_r, false_or, or_false, true_or, or_true, false_and, and_false, not_false_eq_true, not_true_eq_false, and_self, true_and, and_true, if_true, if_false, ite_true, ite_false, zgd_t]
    have o := zFr.rf (h := g1) (A := fun c => c = 139 ∨ c = 140)
    have mm := LI_mid H cz o
    have m := mm.1
    obtain ⟨g3, e3, q3, th⟩ := r_appendX (v1 := (scr.2 (i + 1))) (v2 := (scr.2 (i + 2))) (v3 := (scr.2 (i + 3))) (v4 := (scr.2 (i + 4))) (v5 := (scr.2 (i + 5))) m mm.2.2.2.1 hl
    have ms := MS2_z mm q3
    have tw := r_thrown ms.2.2.1.1
    rw [th] at tw
    obtain ⟨L, nn⟩ := LI_fin H cz o ms H.by
    have z1 := m.1.1
    have z3 := ms.2.2.1.1.1
    refine ⟨g3, _, _, _, _, _, ?_, L, by omega, by omega⟩
    refine Eq.trans gL_law_27_0 ?_
    simp only [p6, n1, c1, l1, n2, c2, l2, n3, c3, l3, n4, c4, l4, n5, c5, l5, w1, z1, e3, z3, tw, i10, i20, i30, zmp_s, zlt_s, zcV_s, zcI_s, zcJ_s, zcA_s, zcD_s, zcF_s, zth_n, zth_t, zrt_s, zQ_l, zQ_r, false_or, or_false, true_or, or_true, false_and, and_false, not_false_eq_true, not_true_eq_false, and_self, true_and, and_true, if_true, if_false, ite_true, ite_false, zgd_t]
    rfl
theorem kL_1 (H : LI h N P K xs ys) (hi : i + 6 ≤ scr.1) (hs : scr.1 ≤ 3072) : LG scr h i 1 := by
  have C := H.cp
  have M := H.mp
  have c := C.1
  have p6 : nI i + (6 : Int32) = nI (i + 6) := nI_add i 6
  have z0 : (zK h 0).1 = 11 := by rw [c.1.1]
  have F := c.2.2.1
  obtain ⟨n1, c1, l1⟩ := sidx hi hs 1 (by omega)
  have n1 : ((nI i + (1 : Int32)) < 0) = False := n1
  have c1 : (nI i + (1 : Int32)).toNatClampNeg = i + 1 := c1
  have l1 := l1 (by omega)
  have xl := C.2.2.2.1.2.1
  rcases i_split (show xs.length + 1 < 2 ^ 31 by omega) (scr.2 (i + 1)) with ⟨r, hr, ea⟩ | hx
  · obtain ⟨g1, e1, fr, b⟩ := m_truncate c C.2.2.2.1 (show r ≤ xs.length by omega)
    have cz : CZ h g1 N P K _ ys := ⟨fr.mono (fun c hc => by unfold cfA; omega), by rw [fr.I (by omega)], by rw [fr.I (by omega)], c.fr fr (fun c hc => by omega), HH_fr fr (fun c h1 h2 => by omega) C.2.1, SL_fr fr (fun c h1 h2 => by omega) C.2.2.1, b, BL_fr fr (by omega) (by omega) C.2.2.2.2⟩
    have w1 : sL_truncate [.ref 0, .int (nI r)] h = some (.inl (some (.int 0)), g1) := by
      refine zsem_eq (Nat.le_of_ble_eq_true rfl) (zTo_of (gL_truncate_n e1) ?_)
      simp only [z0, zmp_s, zlt_s, zcV_s, zcI_s, zcJ_s, zcA_s, zcD_s, zcF_s, zth_n, zth_t, zrt_s, zQ_l, zQ_r, false_or, or_false, true_or, or_true, false_and, and_false, not_false_eq_true, not_true_eq_false, and_self, true_and, and_true, if_true, if_false, ite_true, ite_false, zgd_t]
    have o := zFr.rf (h := g1) (A := fun c => c = 139 ∨ c = 140)
    have mm := LI_mid H cz o
    have m := mm.1
    obtain ⟨g3, e3, q3, th⟩ := r_truncate m mm.2.2.2.1 (show r ≤ xs.length by omega)
    have ms := MS2_j mm q3
    have tw := r_thrown ms.2.2.1.1
    rw [th] at tw
    obtain ⟨L, nn⟩ := LI_fin H cz o ms (BY_take H.by)
    have z1 := m.1.1
    have z3 := ms.2.2.1.1.1
    refine ⟨g3, _, _, _, _, _, ?_, L, by omega, by omega⟩
    refine Eq.trans gL_law_27_1 ?_
    simp only [p6, n1, c1, l1, ea, w1, z1, e3, z3, tw, zmp_s, zlt_s, zcV_s, zcI_s, zcJ_s, zcA_s, zcD_s, zcF_s, zth_n, zth_t, zrt_s, zQ_l, zQ_r, false_or, or_false, true_or, or_true, false_and, and_false, not_false_eq_true, not_true_eq_false, and_self, true_and, and_true, if_true, if_false, ite_true, ite_false, zgd_t]
    rfl
  · have hz := i_gt (n := xs.length) (by omega) hx
    have e1 := m_truncateX c C.2.2.2.1 hz
    obtain ⟨g1, hg1⟩ : ∃ g1, g1 = h := ⟨_, rfl⟩
    have cz : CZ h g1 N P K xs ys := by rw [hg1]; exact CZ_rf C
    have e1 : sX5_truncate [.ref 0, .int (scr.2 (i + 1))] h = some (.inr 1, g1) := by rw [hg1]; exact e1
    have w1 : sL_truncate [.ref 0, .int (scr.2 (i + 1))] h = some (.inl (some (.int 1)), g1) := by
      refine zsem_eq (Nat.le_of_ble_eq_true rfl) (zTo_of (gL_truncate_t1 e1) ?_)
      simp only [z0, zmp_s, zlt_s, zcV_s, zcI_s, zcJ_s, zcA_s, zcD_s, zcF_s, zth_n, zth_t, zrt_s, zQ_l, zQ_r, false_or, or_false, true_or, or_true, false_and, and_false, not_false_eq_true, not_true_eq_false, and_self, true_and, and_true, if_true, if_false, ite_true, ite_false, zgd_t]
    have o := zFr.rf (h := g1) (A := fun c => c = 139 ∨ c = 140)
    have mm := LI_mid H cz o
    have m := mm.1
    obtain ⟨g3, e3, q3, th⟩ := r_truncateX m mm.2.2.2.1 hz
    have ms := MS2_z mm q3
    have tw := r_thrown ms.2.2.1.1
    rw [th] at tw
    obtain ⟨L, nn⟩ := LI_fin H cz o ms H.by
    have z1 := m.1.1
    have z3 := ms.2.2.1.1.1
    refine ⟨g3, _, _, _, _, _, ?_, L, by omega, by omega⟩
    refine Eq.trans gL_law_27_1 ?_
    simp only [p6, n1, c1, l1, w1, z1, e3, z3, tw, i10, i20, i30, zmp_s, zlt_s, zcV_s, zcI_s, zcJ_s, zcA_s, zcD_s, zcF_s, zth_n, zth_t, zrt_s, zQ_l, zQ_r, false_or, or_false, true_or, or_true, false_and, and_false, not_false_eq_true, not_true_eq_false, and_self, true_and, and_true, if_true, if_false, ite_true, ite_false, zgd_t]
    rfl
end ZLN
