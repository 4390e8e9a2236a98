/-! NEW OBJECTS: tables, history, the class's object. -/
section ZML
theorem nw_P {h : zm_H} {k l b : Nat} (hb : b < zN h) : zP (znew h k l) b = zP h b := zrow_ne _ _ (by unfold zN at hb; omega)
theorem sP_n {h : zm_H} {a i b : Nat} {x : Option Nat} (hb : b ≠ a) : zP (zsP h a i x) b = zP h b := zrow_ne _ _ hb
theorem sP_s {h : zm_H} {a i : Nat} {x : Option Nat} : zP (zsP h a i x) a = zput (zP h a) i x := zrow_self _ _ _
theorem nx_P {h : zm_H} {a i k l b : Nat} {x : Option Nat} (hb : b < zN h) (hn : b ≠ a) : zP (zsP (znew h k l) a i x) b = zP h b := by rw [sP_n hn, nw_P hb]
theorem X2_P {h : zm_H} {a b : Nat} (hb : b < zN h) (hn : b ≠ a) : zP (cX2 h a) b = zP h b := by
  unfold cX2
  rw [nx_P (by simp only [N_sP, N_sI, nw_N]; omega) hn, P_sI, nx_P (by simp only [N_sP, N_sI, nw_N]; omega) hn, P_sI, P_sI, nx_P (by simp only [N_sP, N_sI, nw_N]; omega) hn, nx_P (by simp only [N_sP, N_sI, nw_N]; omega) hn, nx_P (by simp only [N_sP, N_sI, nw_N]; omega) hn, nx_P (by simp only [N_sP, N_sI, nw_N]; omega) hn, nx_P (by simp only [N_sP, N_sI, nw_N]; omega) hn, P_sI, nx_P (by simp only [N_sP, N_sI, nw_N]; omega) hn, nx_P (by simp only [N_sP, N_sI, nw_N]; omega) hn, nx_P (by simp only [N_sP, N_sI, nw_N]; omega) hn, P_sI]
def cX4 (h : zm_H) (a : Nat) : zm_H := zsI (zsI (zsI (zsP (znew (zsP (znew (zsP (znew (zsP (znew h 0 2048) a 0 (some (zN h))) 1 22528) a 1 (some (zN h + 1))) 0 22528) a 2 (some (zN h + 1 + 1))) 1 22528) a 3 (some (zN h + 1 + 1 + 1))) a 4 0) a 5 0) a 6 0
theorem new_ok2 : (((2048 : Int32) < 0) = False) ∧ (((22528 : Int32) < 0) = False) ∧ ((2048 : Int32).toNatClampNeg = 2048) ∧ ((22528 : Int32).toNatClampNeg = 22528) ∧ (((6 : Int32) < 0) = False) ∧ ((6 : Int32).toNatClampNeg = 6) := ⟨eq_false (by decide), eq_false (by decide), by decide +kernel, by decide +kernel, eq_false (by decide), by decide +kernel⟩
theorem k_X4 {h : zm_H} {a : Nat} (hk : zK h a = (10, 7)) (ha : a < zN h) (hn : zN h < 800000) : sX4_init [.ref a] h = some (.inl none, cX4 h a) := by
  obtain ⟨w1, w2, w3, w4, -, -⟩ := new_ok2
  refine zsem_eq (Nat.le_of_ble_eq_true rfl) (zTo_of gX4_init_0 ?_)
  simp only [show zN h < 900000 by omega, w1, w3, Nat.le_refl, zmp_s, zlt_s, zcV_s, zcI_s, zcJ_s, zcA_s, zcD_s, zcF_s, zth_n, zth_t, zrt_s, zQ_l, zQ_r, false_or, or_false, true_or, or_true, false_and, and_false, not_false_eq_true, not_true_eq_false, and_self, true_and, and_true, if_true, if_false, ite_true, ite_false, zgd_t]
  refine zTo_of gX4_init_5 ?_
  obtain ⟨g2, e2⟩ : ∃ g2, g2 = zsP (znew h 0 2048) a 0 (some (zN h)) := ⟨_, rfl⟩
  have N2 : zN g2 = zN h + 1 := by rw [e2]; rfl
  have K2 : zK g2 a = (10, 7) := by rw [e2, nx_K (by omega)]; exact hk
  simp only [nw_Kn (show a < zN h by omega), hk, nw_N, Nat.lt_add_one, ← e2, N2, show zN h + 1 < 900000 by omega, w2, w4, Nat.le_refl, zmp_s, zlt_s, zcV_s, zcI_s, zcJ_s, zcA_s, zcD_s, zcF_s, zth_n, zth_t, zrt_s, zQ_l, zQ_r, false_or, or_false, true_or, or_true, false_and, and_false, not_false_eq_true, not_true_eq_false, and_self, true_and, and_true, if_true, if_false, ite_true, ite_false, zgd_t]
  refine zTo_of gX4_init_9 ?_
  obtain ⟨g3, e3⟩ : ∃ g3, g3 = zsP (znew g2 1 22528) a 1 (some (zN h + 1)) := ⟨_, rfl⟩
  have N3 : zN g3 = zN h + 1 + 1 := by rw [e3, ← N2]; rfl
  have K3 : zK g3 a = (10, 7) := by rw [e3, nx_K (by omega)]; exact K2
  simp only [nw_Kn (show a < zN g2 by omega), K2, nw_N, N2, Nat.lt_add_one, ← e3, N3, show zN h + 1 + 1 < 900000 by omega, w2, w4, Nat.le_refl, zmp_s, zlt_s, zcV_s, zcI_s, zcJ_s, zcA_s, zcD_s, zcF_s, zth_n, zth_t, zrt_s, zQ_l, zQ_r, false_or, or_false, true_or, or_true, false_and, and_false, not_false_eq_true, not_true_eq_false, and_self, true_and, and_true, if_true, if_false, ite_true, ite_false, zgd_t]
  refine zTo_of gX4_init_13 ?_
  obtain ⟨g4, e4⟩ : ∃ g4, g4 = zsP (znew g3 0 22528) a 2 (some (zN h + 1 + 1)) := ⟨_, rfl⟩
  have N4 : zN g4 = zN h + 1 + 1 + 1 := by rw [e4, ← N3]; rfl
  have K4 : zK g4 a = (10, 7) := by rw [e4, nx_K (by omega)]; exact K3
  simp only [nw_Kn (show a < zN g3 by omega), K3, nw_N, N3, Nat.lt_add_one, ← e4, N4, show zN h + 1 + 1 + 1 < 900000 by omega, w2, w4, Nat.le_refl, zmp_s, zlt_s, zcV_s, zcI_s, zcJ_s, zcA_s, zcD_s, zcF_s, zth_n, zth_t, zrt_s, zQ_l, zQ_r, false_or, or_false, true_or, or_true, false_and, and_false, not_false_eq_true, not_true_eq_false, and_self, true_and, and_true, if_true, if_false, ite_true, ite_false, zgd_t]
  refine zTo_of gX4_init_17 ?_
  have K5 : zK (zsP (znew g4 1 22528) a 3 (some (zN h + 1 + 1 + 1))) a = (10, 7) := by rw [nx_K (by omega)]; exact K4
  simp only [nw_Kn (show a < zN g4 by omega), K4, nw_N, N4, Nat.lt_add_one, K5, K_sI, zmp_s, zlt_s, zcV_s, zcI_s, zcJ_s, zcA_s, zcD_s, zcF_s, zth_n, zth_t, zrt_s, zQ_l, zQ_r, false_or, or_false, true_or, or_true, false_and, and_false, not_false_eq_true, not_true_eq_false, and_self, true_and, and_true, if_true, if_false, ite_true, ite_false, zgd_t]
  rw [e4, e3, e2]
  rfl
theorem X4_N {h : zm_H} {a : Nat} : zN (cX4 h a) = zN h + 4 := rfl
theorem X4_K {h : zm_H} {a b : Nat} (hb : b < zN h) : zK (cX4 h a) b = zK h b := by
  unfold cX4
  rw [K_sI, K_sI, K_sI, nx_K (by simp only [N_sP, nw_N]; omega), nx_K (by simp only [N_sP, nw_N]; omega), nx_K (by simp only [N_sP, nw_N]; omega), nx_K (by omega)]
/-- a new level in an array -/
def cLv (h : zm_H) (q i : Nat) : zm_H := zsP (cX2 (znew h 8 15) (zN h)) q i (some (zN h))
theorem Lv_N {h : zm_H} {q i : Nat} : zN (cLv h q i) = zN h + 11 := rfl
theorem Lv_K {h : zm_H} {q i b : Nat} (hb : b < zN h) : zK (cLv h q i) b = zK h b := by
  unfold cLv
  rw [K_sP, X2_K (by rw [nw_N]; omega), nw_Kn hb]
theorem Lv_P {h : zm_H} {q i b : Nat} (hb : b < zN h) (hq : b ≠ q) : zP (cLv h q i) b = zP h b := by
  unfold cLv
  rw [sP_n hq, X2_P (by rw [nw_N]; omega) (by omega), nw_P hb]
theorem k_nX2 {h : zm_H} (hn : zN h < 700000) : sX2_init [.ref (zN h)] (znew h 8 15) = some (.inl none, cX2 (znew h 8 15) (zN h)) ∧ zK (cX2 (znew h 8 15) (zN h)) (zN h) = (8, 15) := by
  refine ⟨k_X2 nw_Ks (by rw [nw_N]; omega) (by rw [nw_N]; omega), by rw [X2_K (by rw [nw_N]; omega), nw_Ks]⟩
def cX1 (h : zm_H) (a : Nat) : zm_H := cLv (cLv (cLv (cLv (cLv (cLv (zsI (zsI (zsP (znew h 5 6) a 0 (some (zN h))) a 1 0) a 2 0) (zN h) 0) (zN h) 1) (zN h) 2) (zN h) 3) (zN h) 4) (zN h) 5
theorem X1_N {h : zm_H} {a : Nat} : zN (cX1 h a) = zN h + 67 := rfl
theorem X1_K {h : zm_H} {a b : Nat} (hb : b < zN h) : zK (cX1 h a) b = zK h b := by
  unfold cX1
  rw [Lv_K (by simp only [Lv_N, N_sI, N_sP, nw_N]; omega), Lv_K (by simp only [Lv_N, N_sI, N_sP, nw_N]; omega), Lv_K (by simp only [Lv_N, N_sI, N_sP, nw_N]; omega), Lv_K (by simp only [Lv_N, N_sI, N_sP, nw_N]; omega), Lv_K (by simp only [Lv_N, N_sI, N_sP, nw_N]; omega), Lv_K (by simp only [N_sI, N_sP, nw_N]; omega), K_sI, K_sI, nx_K hb]
theorem k_X1 {h : zm_H} {a : Nat} (hk : zK h a = (7, 3)) (ha : a < zN h) (hn : zN h < 600000) : sX1_init [.ref a] h = some (.inl none, cX1 h a) := by
  obtain ⟨-, -, -, -, w5, w6⟩ := new_ok2
  refine zsem_eq (Nat.le_of_ble_eq_true rfl) (zTo_of gX1_init_0 ?_)
  simp only [show zN h < 900000 by omega, w5, w6, Nat.le_refl, zmp_s, zlt_s, zcV_s, zcI_s, zcJ_s, zcA_s, zcD_s, zcF_s, zth_n, zth_t, zrt_s, zQ_l, zQ_r, false_or, or_false, true_or, or_true, false_and, and_false, not_false_eq_true, not_true_eq_false, and_self, true_and, and_true, if_true, if_false, ite_true, ite_false, zgd_t]
  obtain ⟨n, hN⟩ : ∃ n, n = zN h := ⟨_, rfl⟩
  obtain ⟨g0, e0⟩ : ∃ g0, g0 = zsI (zsI (zsP (znew h 5 6) a 0 (some (zN h))) a 1 0) a 2 0 := ⟨_, rfl⟩
  have S : ∀ g : zm_H, zN g = zN g0 → zK g = zK g0 → zP g = zP g0 → zN g = n + 1 ∧ zK g a = (7, 3) ∧ zP g a 0 = some n ∧ zK g n = (5, 6) := by
    intro g s1 s2 s3
    rw [s1, s2, s3, e0]
    refine ⟨by rw [hN]; rfl, ?_, ?_, ?_⟩
    · rw [K_sI, K_sI, nx_K ha]; exact hk
    · rw [P_sI, P_sI, sP_s, zput_self, hN]
    · rw [K_sI, K_sI, K_sP, hN, nw_Ks]
  obtain ⟨N0, K0, P0, A0⟩ := S g0 rfl rfl rfl
  have T : ∀ (g : zm_H) (i m : Nat), zN g = m → n < m → a < n → zK g a = (7, 3) → zP g a 0 = some n → zK g n = (5, 6) → zN (cLv g n i) = m + 11 ∧ zK (cLv g n i) a = (7, 3) ∧ zP (cLv g n i) a 0 = some n ∧ zK (cLv g n i) n = (5, 6) := by
    intro g i m h1 h2 h3 h4 h5 h6
    refine ⟨by rw [Lv_N, h1], ?_, ?_, ?_⟩
    · rw [Lv_K (by omega)]; exact h4
    · rw [Lv_P (by omega) (by omega)]; exact h5
    · rw [Lv_K (by omega)]; exact h6
  have an : a < n := by omega
  obtain ⟨g1, e1⟩ : ∃ g1, g1 = cLv g0 n 0 := ⟨_, rfl⟩
  obtain ⟨N1, K1, P1, A1⟩ := T g0 0 _ N0 (by omega) an K0 P0 A0
  rw [← e1] at N1 K1 P1 A1
  obtain ⟨g2, e2⟩ : ∃ g2, g2 = cLv g1 n 1 := ⟨_, rfl⟩
  obtain ⟨N2, K2, P2, A2⟩ := T g1 1 _ N1 (by omega) an K1 P1 A1
  rw [← e2] at N2 K2 P2 A2
  obtain ⟨g3, e3⟩ : ∃ g3, g3 = cLv g2 n 2 := ⟨_, rfl⟩
  obtain ⟨N3, K3, P3, A3⟩ := T g2 2 _ N2 (by omega) an K2 P2 A2
  rw [← e3] at N3 K3 P3 A3
  obtain ⟨g4, e4⟩ : ∃ g4, g4 = cLv g3 n 3 := ⟨_, rfl⟩
  obtain ⟨N4, K4, P4, A4⟩ := T g3 3 _ N3 (by omega) an K3 P3 A3
  rw [← e4] at N4 K4 P4 A4
  obtain ⟨g5, e5⟩ : ∃ g5, g5 = cLv g4 n 4 := ⟨_, rfl⟩
  obtain ⟨N5, K5, P5, A5⟩ := T g4 4 _ N4 (by omega) an K4 P4 A4
  rw [← e5] at N5 K5 P5 A5
  -- the array's guard and the level's kind, behind a new level
  have U : ∀ g : zm_H, zN g < 700000 → n < zN g → zK g n = (5, 6) → zK (cX2 (znew g 8 15) (zN g)) n = (5, 6) ∧ zK (cX2 (znew g 8 15) (zN g)) (zN g) = (8, 15) := by
    intro g h1 h2 h3
    refine ⟨by rw [X2_K (by rw [nw_N]; omega), nw_Kn h2]; exact h3, (k_nX2 h1).2⟩
  have ii : ((0 : Int32).toNatClampNeg = 0) ∧ ((1 : Int32).toNatClampNeg = 1) ∧ ((2 : Int32).toNatClampNeg = 2) ∧ ((3 : Int32).toNatClampNeg = 3) ∧ ((4 : Int32).toNatClampNeg = 4) ∧ ((5 : Int32).toNatClampNeg = 5) ∧ ((0 : Int32) + 1 = 1) ∧ ((1 : Int32) + 1 = 2) ∧ ((2 : Int32) + 1 = 3) ∧ ((3 : Int32) + 1 = 4) ∧ ((4 : Int32) + 1 = 5) ∧ ((5 : Int32) + 1 = 6) := by decide +kernel
  obtain ⟨i0, i1, i2, i3, i4, i5, j0, j1, j2, j3, j4, j5⟩ := ii
  have ng : ((0 : Int32) < 0) = False ∧ ((1 : Int32) < 0) = False ∧ ((2 : Int32) < 0) = False ∧ ((3 : Int32) < 0) = False ∧ ((4 : Int32) < 0) = False ∧ ((5 : Int32) < 0) = False := ⟨eq_false (by decide), eq_false (by decide), eq_false (by decide), eq_false (by decide), eq_false (by decide), eq_false (by decide)⟩
  obtain ⟨n0, n1, n2, n3, n4, n5⟩ := ng
  have le : ((6 : Int32) ≤ 0) = False ∧ ((6 : Int32) ≤ 1) = False ∧ ((6 : Int32) ≤ 2) = False ∧ ((6 : Int32) ≤ 3) = False ∧ ((6 : Int32) ≤ 4) = False ∧ ((6 : Int32) ≤ 5) = False ∧ ((6 : Int32) ≤ 6) = True := ⟨eq_false (by decide), eq_false (by decide), eq_false (by decide), eq_false (by decide), eq_false (by decide), eq_false (by decide), eq_true (by decide)⟩
  obtain ⟨l0, l1, l2, l3, l4, l5, l6⟩ := le
  have K0' : zK (zsP (znew h 5 6) a 0 (some (zN h))) a = (7, 3) := by rw [nx_K ha]; exact hk
  refine zTo_of gX1_init_5 ?_
  simp only [nw_Kn ha, hk, nw_N, Nat.lt_add_one, K0', K_sI, ← e0, l0, P0, show zN g0 < 900000 by omega, zmp_s, zlt_s, zcV_s, zcI_s, zcJ_s, zcA_s, zcD_s, zcF_s, zth_n, zth_t, zrt_s, zQ_l, zQ_r, false_or, or_false, true_or, or_true, false_and, and_false, not_false_eq_true, not_true_eq_false, and_self, true_and, and_true, if_true, if_false, ite_true, ite_false, zgd_t]
  refine zTo_of gX1_init_21 ?_
  simp only [(k_nX2 (show zN g0 < 700000 by omega)).1, zmp_s, zlt_s, zcV_s, zcI_s, zcJ_s, zcA_s, zcD_s, zcF_s, zth_n, zth_t, zrt_s, zQ_l, zQ_r, false_or, or_false, true_or, or_true, false_and, and_false, not_false_eq_true, not_true_eq_false, and_self, true_and, and_true, if_true, if_false, ite_true, ite_false]
  refine zTo_of gX1_init_23 ?_
  obtain ⟨u1, u2⟩ := U g0 (by omega) (by omega) A0
  have c1 : zsP (cX2 (znew g0 8 15) (zN g0)) n 0 (some (zN g0)) = g1 := e1.symm
  simp only [u1, u2, i0, n0, show ¬ 6 ≤ 0 by omega, c1, j0, l1, K1, P1, show zN g1 < 900000 by omega, zmp_s, zlt_s, zcV_s, zcI_s, zcJ_s, zcA_s, zcD_s, zcF_s, zth_n, zth_t, zrt_s, zQ_l, zQ_r, false_or, or_false, true_or, or_true, false_and, and_false, not_false_eq_true, not_true_eq_false, and_self, true_and, and_true, if_true, if_false, ite_true, ite_false, zgd_t]
  refine zTo_of gX1_init_33 ?_
  simp only [(k_nX2 (show zN g1 < 700000 by omega)).1, zmp_s, zlt_s, zcV_s, zcI_s, zcJ_s, zcA_s, zcD_s, zcF_s, zth_n, zth_t, zrt_s, zQ_l, zQ_r, false_or, or_false, true_or, or_true, false_and, and_false, not_false_eq_true, not_true_eq_false, and_self, true_and, and_true, if_true, if_false, ite_true, ite_false]
  refine zTo_of gX1_init_35 ?_
  obtain ⟨u1, u2⟩ := U g1 (by omega) (by omega) A1
  have c2 : zsP (cX2 (znew g1 8 15) (zN g1)) n 1 (some (zN g1)) = g2 := e2.symm
  simp only [u1, u2, i1, n1, show ¬ 6 ≤ 1 by omega, c2, j1, l2, K2, P2, show zN g2 < 900000 by omega, zmp_s, zlt_s, zcV_s, zcI_s, zcJ_s, zcA_s, zcD_s, zcF_s, zth_n, zth_t, zrt_s, zQ_l, zQ_r, false_or, or_false, true_or, or_true, false_and, and_false, not_false_eq_true, not_true_eq_false, and_self, true_and, and_true, if_true, if_false, ite_true, ite_false, zgd_t]
  refine zTo_of gX1_init_45 ?_
  simp only [(k_nX2 (show zN g2 < 700000 by omega)).1, zmp_s, zlt_s, zcV_s, zcI_s, zcJ_s, zcA_s, zcD_s, zcF_s, zth_n, zth_t, zrt_s, zQ_l, zQ_r, false_or, or_false, true_or, or_true, false_and, and_false, not_false_eq_true, not_true_eq_false, and_self, true_and, and_true, if_true, if_false, ite_true, ite_false]
  refine zTo_of gX1_init_47 ?_
  obtain ⟨u1, u2⟩ := U g2 (by omega) (by omega) A2
  have c3 : zsP (cX2 (znew g2 8 15) (zN g2)) n 2 (some (zN g2)) = g3 := e3.symm
  simp only [u1, u2, i2, n2, show ¬ 6 ≤ 2 by omega, c3, j2, l3, K3, P3, show zN g3 < 900000 by omega, zmp_s, zlt_s, zcV_s, zcI_s, zcJ_s, zcA_s, zcD_s, zcF_s, zth_n, zth_t, zrt_s, zQ_l, zQ_r, false_or, or_false, true_or, or_true, false_and, and_false, not_false_eq_true, not_true_eq_false, and_self, true_and, and_true, if_true, if_false, ite_true, ite_false, zgd_t]
  refine zTo_of gX1_init_57 ?_
  simp only [(k_nX2 (show zN g3 < 700000 by omega)).1, zmp_s, zlt_s, zcV_s, zcI_s, zcJ_s, zcA_s, zcD_s, zcF_s, zth_n, zth_t, zrt_s, zQ_l, zQ_r, false_or, or_false, true_or, or_true, false_and, and_false, not_false_eq_true, not_true_eq_false, and_self, true_and, and_true, if_true, if_false, ite_true, ite_false]
  refine zTo_of gX1_init_59 ?_
  obtain ⟨u1, u2⟩ := U g3 (by omega) (by omega) A3
  have c4 : zsP (cX2 (znew g3 8 15) (zN g3)) n 3 (some (zN g3)) = g4 := e4.symm
  simp only [u1, u2, i3, n3, show ¬ 6 ≤ 3 by omega, c4, j3, l4, K4, P4, show zN g4 < 900000 by omega, zmp_s, zlt_s, zcV_s, zcI_s, zcJ_s, zcA_s, zcD_s, zcF_s, zth_n, zth_t, zrt_s, zQ_l, zQ_r, false_or, or_false, true_or, or_true, false_and, and_false, not_false_eq_true, not_true_eq_false, and_self, true_and, and_true, if_true, if_false, ite_true, ite_false, zgd_t]
  refine zTo_of gX1_init_69 ?_
  simp only [(k_nX2 (show zN g4 < 700000 by omega)).1, zmp_s, zlt_s, zcV_s, zcI_s, zcJ_s, zcA_s, zcD_s, zcF_s, zth_n, zth_t, zrt_s, zQ_l, zQ_r, false_or, or_false, true_or, or_true, false_and, and_false, not_false_eq_true, not_true_eq_false, and_self, true_and, and_true, if_true, if_false, ite_true, ite_false]
  refine zTo_of gX1_init_71 ?_
  obtain ⟨u1, u2⟩ := U g4 (by omega) (by omega) A4
  have c5 : zsP (cX2 (znew g4 8 15) (zN g4)) n 4 (some (zN g4)) = g5 := e5.symm
  simp only [u1, u2, i4, n4, show ¬ 6 ≤ 4 by omega, c5, j4, l5, K5, P5, show zN g5 < 900000 by omega, zmp_s, zlt_s, zcV_s, zcI_s, zcJ_s, zcA_s, zcD_s, zcF_s, zth_n, zth_t, zrt_s, zQ_l, zQ_r, false_or, or_false, true_or, or_true, false_and, and_false, not_false_eq_true, not_true_eq_false, and_self, true_and, and_true, if_true, if_false, ite_true, ite_false, zgd_t]
  refine zTo_of gX1_init_81 ?_
  simp only [(k_nX2 (show zN g5 < 700000 by omega)).1, zmp_s, zlt_s, zcV_s, zcI_s, zcJ_s, zcA_s, zcD_s, zcF_s, zth_n, zth_t, zrt_s, zQ_l, zQ_r, false_or, or_false, true_or, or_true, false_and, and_false, not_false_eq_true, not_true_eq_false, and_self, true_and, and_true, if_true, if_false, ite_true, ite_false]
  refine zTo_of gX1_init_83 ?_
  obtain ⟨u1, u2⟩ := U g5 (by omega) (by omega) A5
  simp only [u1, u2, i5, n5, show ¬ 6 ≤ 5 by omega, j5, l6, zmp_s, zlt_s, zcV_s, zcI_s, zcJ_s, zcA_s, zcD_s, zcF_s, zth_n, zth_t, zrt_s, zQ_l, zQ_r, false_or, or_false, true_or, or_true, false_and, and_false, not_false_eq_true, not_true_eq_false, and_self, true_and, and_true, if_true, if_false, ite_true, ite_false, zgd_t]
  rw [e5, e4, e3, e2, e1, e0, hN]
  rfl
end ZML

