/-! NEW OBJECTS. -/
section ZMK
theorem nw_N {h : zm_H} {k l : Nat} : zN (znew h k l) = zN h + 1 := rfl
theorem nw_Kn {h : zm_H} {k l b : Nat} (hb : b < zN h) : zK (znew h k l) b = zK h b := zrow_ne _ _ (by unfold zN at hb; omega)
theorem nw_Ks {h : zm_H} {k l : Nat} : zK (znew h k l) (zN h) = (k, l) := zrow_self _ _ _
theorem cl_n {n : Nat} (h : n < 2 ^ 31) : (nI n).toNatClampNeg = n := nI_clamp h
def cX0 (h : zm_H) (a n : Nat) : zm_H := zsP (znew (zsI h a 1 0) 0 n) a 0 (some (zN h))
theorem k_X0 {h : zm_H} {a n : Nat} (hk : zK h a = (6, 2)) (ha : a < zN h) (hn : zN h < 800000) (hl : n ≤ 500) : sX0_init [.ref a, .int (nI n)] h = some (.inl none, cX0 h a n) := by
  refine zsem_eq (Nat.le_of_ble_eq_true rfl) (zTo_of gX0_init_0 ?_)
  simp only [hk, K_sI, K_sJ, K_sD, K_sP, K_rI, K_rJ, P_sI, P_sJ, P_sD, P_rI, P_rJ, N_sI, N_sJ, N_sD, N_sP, N_rI, N_rJ, J_sI, J_sD, J_sP, J_rI, I_sJ, I_sD, I_sP, I_rJ, D_sI, D_sJ, D_sP, D_rI, D_rJ, nw_N, nw_Kn (show a < zN (zsI h a 1 0) from ha), show zN h < 900000 by omega, nI_lt0 (show n < 2 ^ 31 by omega), cl_n (show n < 2 ^ 31 by omega), hl, Nat.lt_add_one, zmp_s, zlt_s, zcV_s, zcI_s, zcJ_s, zcA_s, zcD_s, zcF_s, zth_n, zth_t, zrt_s, zQ_l, zQ_r, false_or, or_false, true_or, or_true, false_and, and_false, not_false_eq_true, not_true_eq_false, and_self, true_and, and_true, if_true, if_false, ite_true, ite_false, zgd_t]
  rfl
theorem X0_N {h : zm_H} {a n : Nat} : zN (cX0 h a n) = zN h + 1 := rfl
theorem X0_K {h : zm_H} {a n b : Nat} (hb : b < zN h) : zK (cX0 h a n) b = zK h b := nw_Kn hb
def cX2 (h : zm_H) (a : Nat) : zm_H :=
  zsP (znew (zsI (zsP (znew (zsI (zsI (zsP (znew (zsP (znew (zsP (znew (zsP (znew (zsP (znew (zsI (zsP (znew (zsP (znew (zsP (znew (zsI h a 0 1) 1 11) a 1 (some (zN h))) 0 11) a 2 (some (zN h + 1))) 0 11) a 3 (some (zN h + 1 + 1))) a 4 0) 0 20) a 5 (some (zN h + 1 + 1 + 1))) 0 20) a 6 (some (zN h + 1 + 1 + 1 + 1))) 0 20) a 7 (some (zN h + 1 + 1 + 1 + 1 + 1))) 0 20) a 8 (some (zN h + 1 + 1 + 1 + 1 + 1 + 1))) 3 20) a 9 (some (zN h + 1 + 1 + 1 + 1 + 1 + 1 + 1))) a 10 0) a 11 (-1)) 0 11) a 12 (some (zN h + 1 + 1 + 1 + 1 + 1 + 1 + 1 + 1))) a 13 1) 0 11) a 14 (some (zN h + 1 + 1 + 1 + 1 + 1 + 1 + 1 + 1 + 1))
theorem X2_N {h : zm_H} {a : Nat} : zN (cX2 h a) = zN h + 10 := rfl
/-- a new array in a field -/
theorem nx_K {h : zm_H} {a i k l b : Nat} {x : Option Nat} (hb : b < zN h) : zK (zsP (znew h k l) a i x) b = zK h b := nw_Kn hb
theorem X2_K {h : zm_H} {a b : Nat} (hb : b < zN h) : zK (cX2 h a) b = zK h b := by
  unfold cX2
  rw [nx_K (by simp only [N_sP, N_sI, nw_N]; omega), K_sI, nx_K (by simp only [N_sP, N_sI, nw_N]; omega), K_sI, K_sI, nx_K (by simp only [N_sP, N_sI, nw_N]; omega), nx_K (by simp only [N_sP, N_sI, nw_N]; omega), nx_K (by simp only [N_sP, N_sI, nw_N]; omega), nx_K (by simp only [N_sP, N_sI, nw_N]; omega), nx_K (by simp only [N_sP, N_sI, nw_N]; omega), K_sI, nx_K (by simp only [N_sP, N_sI, nw_N]; omega), nx_K (by simp only [N_sP, N_sI, nw_N]; omega), nx_K (by simp only [N_sP, N_sI, nw_N]; omega), K_sI]
theorem new_ok : (((11 : Int32) < 0) = False) ∧ (((20 : Int32) < 0) = False) ∧ ((11 : Int32).toNatClampNeg = 11) ∧ ((20 : Int32).toNatClampNeg = 20) := ⟨eq_false (by decide), eq_false (by decide), by decide +kernel, by decide +kernel⟩
theorem k_X2 {h : zm_H} {a : Nat} (hk : zK h a = (8, 15)) (ha : a < zN h) (hn : zN h < 800000) : sX2_init [.ref a] h = some (.inl none, cX2 h a) := by
  obtain ⟨w1, w2, w3, w4⟩ := new_ok
  refine zsem_eq (Nat.le_of_ble_eq_true rfl) (zTo_of gX2_init_0 ?_)
  obtain ⟨n, hN⟩ : ∃ n, n = zN h := ⟨_, rfl⟩
  -- one step
  have st : ∀ g : zm_H, zN h ≤ zN g → zN g < zN h + 20 → zK g a = (8, 15) → ∀ k l, zK (znew g k l) a = (8, 15) ∧ zN g < zN (znew g k l) ∧ zN g < 900000 := fun g h1 h2 h3 k l => ⟨by rw [nw_Kn (by omega)]; exact h3, Nat.lt_succ_self _, by omega⟩
  obtain ⟨g1, e1⟩ : ∃ g1, g1 = zsI h a 0 1 := ⟨_, rfl⟩
  have N1 : zN g1 = zN h := by rw [e1]; rfl
  have K1 : zK g1 a = (8, 15) := by rw [e1]; exact hk
  simp only [hk, ← e1, N1, show zN h < 900000 by omega, w1, w3, Nat.le_refl, zmp_s, zlt_s, zcV_s, zcI_s, zcJ_s, zcA_s, zcD_s, zcF_s, zth_n, zth_t, zrt_s, zQ_l, zQ_r, false_or, or_false, true_or, or_true, false_and, and_false, not_false_eq_true, not_true_eq_false, and_self, true_and, and_true, if_true, if_false, ite_true, ite_false, zgd_t]
  refine zTo_of gX2_init_8 ?_
  obtain ⟨g2, e2⟩ : ∃ g2, g2 = zsP (znew g1 1 11) a 1 (some (zN h)) := ⟨_, rfl⟩
  have N2 : zN g2 = zN h + 1 := by rw [e2, ← N1]; rfl
  have K2 : zK g2 a = (8, 15) := by rw [e2, nx_K (by omega)]; exact K1
  simp only [nw_Kn (show a < zN g1 by omega), K1, nw_N, N1, Nat.lt_add_one, ← e2, N2, show zN h + 1 < 900000 by omega, w1, w3, Nat.le_refl, zmp_s, zlt_s, zcV_s, zcI_s, zcJ_s, zcA_s, zcD_s, zcF_s, zth_n, zth_t, zrt_s, zQ_l, zQ_r, false_or, or_false, true_or, or_true, false_and, and_false, not_false_eq_true, not_true_eq_false, and_self, true_and, and_true, if_true, if_false, ite_true, ite_false, zgd_t]
  refine zTo_of gX2_init_12 ?_
  obtain ⟨g3, e3⟩ : ∃ g3, g3 = zsP (znew g2 0 11) a 2 (some (zN h + 1)) := ⟨_, rfl⟩
  have N3 : zN g3 = zN h + 1 + 1 := by rw [e3, ← N2]; rfl
  have K3 : zK g3 a = (8, 15) := by rw [e3, nx_K (by omega)]; exact K2
  simp only [nw_Kn (show a < zN g2 by omega), K2, nw_N, N2, Nat.lt_add_one, ← e3, N3, show zN h + 1 + 1 < 900000 by omega, w1, w3, Nat.le_refl, zmp_s, zlt_s, zcV_s, zcI_s, zcJ_s, zcA_s, zcD_s, zcF_s, zth_n, zth_t, zrt_s, zQ_l, zQ_r, false_or, or_false, true_or, or_true, false_and, and_false, not_false_eq_true, not_true_eq_false, and_self, true_and, and_true, if_true, if_false, ite_true, ite_false, zgd_t]
  refine zTo_of gX2_init_16 ?_
  obtain ⟨g4, e4⟩ : ∃ g4, g4 = zsI (zsP (znew g3 0 11) a 3 (some (zN h + 1 + 1))) a 4 0 := ⟨_, rfl⟩
  have N4 : zN g4 = zN h + 1 + 1 + 1 := by rw [e4, ← N3]; rfl
  have K4 : zK g4 a = (8, 15) := by rw [e4, K_sI, nx_K (by omega)]; exact K3
  have K4' : zK (zsP (znew g3 0 11) a 3 (some (zN h + 1 + 1))) a = (8, 15) := by rw [nx_K (by omega)]; exact K3
  simp only [nw_Kn (show a < zN g3 by omega), K3, K4', nw_N, N3, Nat.lt_add_one, ← e4, N4, show zN h + 1 + 1 + 1 < 900000 by omega, w2, w4, Nat.le_refl, zmp_s, zlt_s, zcV_s, zcI_s, zcJ_s, zcA_s, zcD_s, zcF_s, zth_n, zth_t, zrt_s, zQ_l, zQ_r, false_or, or_false, true_or, or_true, false_and, and_false, not_false_eq_true, not_true_eq_false, and_self, true_and, and_true, if_true, if_false, ite_true, ite_false, zgd_t]
  refine zTo_of gX2_init_23 ?_
  obtain ⟨g5, e5⟩ : ∃ g5, g5 = zsP (znew g4 0 20) a 5 (some (zN h + 1 + 1 + 1)) := ⟨_, rfl⟩
  have N5 : zN g5 = zN h + 1 + 1 + 1 + 1 := by rw [e5, ← N4]; rfl
  have K5 : zK g5 a = (8, 15) := by rw [e5, nx_K (by omega)]; exact K4
  simp only [nw_Kn (show a < zN g4 by omega), K4, nw_N, N4, Nat.lt_add_one, ← e5, N5, show zN h + 1 + 1 + 1 + 1 < 900000 by omega, w2, w4, Nat.le_refl, zmp_s, zlt_s, zcV_s, zcI_s, zcJ_s, zcA_s, zcD_s, zcF_s, zth_n, zth_t, zrt_s, zQ_l, zQ_r, false_or, or_false, true_or, or_true, false_and, and_false, not_false_eq_true, not_true_eq_false, and_self, true_and, and_true, if_true, if_false, ite_true, ite_false, zgd_t]
  refine zTo_of gX2_init_27 ?_
  obtain ⟨g6, e6⟩ : ∃ g6, g6 = zsP (znew g5 0 20) a 6 (some (zN h + 1 + 1 + 1 + 1)) := ⟨_, rfl⟩
  have N6 : zN g6 = zN h + 1 + 1 + 1 + 1 + 1 := by rw [e6, ← N5]; rfl
  have K6 : zK g6 a = (8, 15) := by rw [e6, nx_K (by omega)]; exact K5
  simp only [nw_Kn (show a < zN g5 by omega), K5, nw_N, N5, Nat.lt_add_one, ← e6, N6, show zN h + 1 + 1 + 1 + 1 + 1 < 900000 by omega, w2, w4, Nat.le_refl, zmp_s, zlt_s, zcV_s, zcI_s, zcJ_s, zcA_s, zcD_s, zcF_s, zth_n, zth_t, zrt_s, zQ_l, zQ_r, false_or, or_false, true_or, or_true, false_and, and_false, not_false_eq_true, not_true_eq_false, and_self, true_and, and_true, if_true, if_false, ite_true, ite_false, zgd_t]
  refine zTo_of gX2_init_31 ?_
  obtain ⟨g7, e7⟩ : ∃ g7, g7 = zsP (znew g6 0 20) a 7 (some (zN h + 1 + 1 + 1 + 1 + 1)) := ⟨_, rfl⟩
  have N7 : zN g7 = zN h + 1 + 1 + 1 + 1 + 1 + 1 := by rw [e7, ← N6]; rfl
  have K7 : zK g7 a = (8, 15) := by rw [e7, nx_K (by omega)]; exact K6
  simp only [nw_Kn (show a < zN g6 by omega), K6, nw_N, N6, Nat.lt_add_one, ← e7, N7, show zN h + 1 + 1 + 1 + 1 + 1 + 1 < 900000 by omega, w2, w4, Nat.le_refl, zmp_s, zlt_s, zcV_s, zcI_s, zcJ_s, zcA_s, zcD_s, zcF_s, zth_n, zth_t, zrt_s, zQ_l, zQ_r, false_or, or_false, true_or, or_true, false_and, and_false, not_false_eq_true, not_true_eq_false, and_self, true_and, and_true, if_true, if_false, ite_true, ite_false, zgd_t]
  refine zTo_of gX2_init_35 ?_
  obtain ⟨g8, e8⟩ : ∃ g8, g8 = zsP (znew g7 0 20) a 8 (some (zN h + 1 + 1 + 1 + 1 + 1 + 1)) := ⟨_, rfl⟩
  have N8 : zN g8 = zN h + 1 + 1 + 1 + 1 + 1 + 1 + 1 := by rw [e8, ← N7]; rfl
  have K8 : zK g8 a = (8, 15) := by rw [e8, nx_K (by omega)]; exact K7
  simp only [nw_Kn (show a < zN g7 by omega), K7, nw_N, N7, Nat.lt_add_one, ← e8, N8, show zN h + 1 + 1 + 1 + 1 + 1 + 1 + 1 < 900000 by omega, w2, w4, Nat.le_refl, zmp_s, zlt_s, zcV_s, zcI_s, zcJ_s, zcA_s, zcD_s, zcF_s, zth_n, zth_t, zrt_s, zQ_l, zQ_r, false_or, or_false, true_or, or_true, false_and, and_false, not_false_eq_true, not_true_eq_false, and_self, true_and, and_true, if_true, if_false, ite_true, ite_false, zgd_t]
  refine zTo_of gX2_init_39 ?_
  obtain ⟨g9, e9⟩ : ∃ g9, g9 = zsI (zsI (zsP (znew g8 3 20) a 9 (some (zN h + 1 + 1 + 1 + 1 + 1 + 1 + 1))) a 10 0) a 11 (-1) := ⟨_, rfl⟩
  have N9 : zN g9 = zN h + 1 + 1 + 1 + 1 + 1 + 1 + 1 + 1 := by rw [e9, ← N8]; rfl
  have K9' : zK (zsP (znew g8 3 20) a 9 (some (zN h + 1 + 1 + 1 + 1 + 1 + 1 + 1))) a = (8, 15) := by rw [nx_K (by omega)]; exact K8
  have K9 : zK g9 a = (8, 15) := by rw [e9, K_sI, K_sI]; exact K9'
  simp only [nw_Kn (show a < zN g8 by omega), K8, K_sI, K9', nw_N, N8, Nat.lt_add_one, ← e9, N9, show zN h + 1 + 1 + 1 + 1 + 1 + 1 + 1 + 1 < 900000 by omega, w1, w3, Nat.le_refl, zmp_s, zlt_s, zcV_s, zcI_s, zcJ_s, zcA_s, zcD_s, zcF_s, zth_n, zth_t, zrt_s, zQ_l, zQ_r, false_or, or_false, true_or, or_true, false_and, and_false, not_false_eq_true, not_true_eq_false, and_self, true_and, and_true, if_true, if_false, ite_true, ite_false, zgd_t]
  refine zTo_of gX2_init_49 ?_
  obtain ⟨gA, eA⟩ : ∃ gA, gA = zsI (zsP (znew g9 0 11) a 12 (some (zN h + 1 + 1 + 1 + 1 + 1 + 1 + 1 + 1))) a 13 1 := ⟨_, rfl⟩
  have NA : zN gA = zN h + 1 + 1 + 1 + 1 + 1 + 1 + 1 + 1 + 1 := by rw [eA, ← N9]; rfl
  have KA' : zK (zsP (znew g9 0 11) a 12 (some (zN h + 1 + 1 + 1 + 1 + 1 + 1 + 1 + 1))) a = (8, 15) := by rw [nx_K (by omega)]; exact K9
  have KA : zK gA a = (8, 15) := by rw [eA, K_sI]; exact KA'
  simp only [nw_Kn (show a < zN g9 by omega), K9, K_sI, KA', nw_N, N9, Nat.lt_add_one, ← eA, NA, show zN h + 1 + 1 + 1 + 1 + 1 + 1 + 1 + 1 + 1 < 900000 by omega, w1, w3, Nat.le_refl, zmp_s, zlt_s, zcV_s, zcI_s, zcJ_s, zcA_s, zcD_s, zcF_s, zth_n, zth_t, zrt_s, zQ_l, zQ_r, false_or, or_false, true_or, or_true, false_and, and_false, not_false_eq_true, not_true_eq_false, and_self, true_and, and_true, if_true, if_false, ite_true, ite_false, zgd_t]
  refine zTo_of gX2_init_56 ?_
  simp only [nw_Kn (show a < zN gA by omega), KA, nw_N, NA, Nat.lt_add_one, zmp_s, zlt_s, zcV_s, zcI_s, zcJ_s, zcA_s, zcD_s, zcF_s, zth_n, zth_t, zrt_s, zQ_l, zQ_r, false_or, or_false, true_or, or_true, false_and, and_false, not_false_eq_true, not_true_eq_false, and_self, true_and, and_true, if_true, if_false, ite_true, ite_false, zgd_t]
  rw [eA, e9, e8, e7, e6, e5, e4, e3, e2, e1]
  rfl
end ZMK

