/-! NEW OBJECTS: the model's, and what both hold. -/
section ZMN
def cX6_0 (h : zm_H) : zm_H := zsP (znew h 0 149) 125 1 (some 126)
def cX6_1 (h : zm_H) : zm_H := zsP (zsP (znew (cX6_0 h) 0 149) 125 2 (some 127)) 125 3 (some 126)
def cX6_2 (h : zm_H) : zm_H := zsP (znew (cX6_1 h) 1 22528) 125 4 (some 128)
def cX6_3 (h : zm_H) : zm_H := zsP (znew (cX6_2 h) 1 22528) 125 5 (some 129)
def cX6_4 (h : zm_H) : zm_H := zsP (znew (cX6_3 h) 0 22528) 125 6 (some 130)
def cX6_5 (h : zm_H) : zm_H := zsP (znew (cX6_4 h) 3 22528) 125 7 (some 131)
def cX6_6 (h : zm_H) : zm_H := zsP (znew (cX6_5 h) 0 11) 125 8 (some 132)
def cX6_7 (h : zm_H) : zm_H := zsP (znew (cX6_6 h) 0 149) 125 9 (some 133)
def cX6_8 (h : zm_H) : zm_H := zsI (zsP (znew (cX6_7 h) 2 500) 125 10 (some 134)) 125 18 (-1)
def cX6_9 (h : zm_H) : zm_H := zsP (znew (cX6_8 h) 0 298) 125 21 (some 135)
def cX6_10 (h : zm_H) : zm_H := zsP (znew (cX6_9 h) 3 2) 125 22 (some 136)
def cX6_11 (h : zm_H) : zm_H := zsP (znew (cX6_10 h) 0 894) 125 23 (some 137)
def cX6_12 (h : zm_H) : zm_H := zsP (znew (cX6_11 h) 2 200) 125 25 (some 138)
theorem k_X6 {h : zm_H} (hk : zK h 125 = (12, 27)) (hN : zN h = 126) (hm : moS (cX6_12 h) 126) : ∃ g, sX6_init [.ref 125] h = some (.inl none, zsI g 126 0 1) ∧ zFr (fun c => c = 126) (cX6_12 h) g ∧ ML g 126 N00 := by
  have w2 : ((2 : Int32) < 0) = False := eq_false (by decide)
  have i2 : (2 : Int32).toNatClampNeg = 2 := by decide +kernel
  have w11 : ((11 : Int32) < 0) = False := eq_false (by decide)
  have i11 : (11 : Int32).toNatClampNeg = 11 := by decide +kernel
  have w149 : ((149 : Int32) < 0) = False := eq_false (by decide)
  have i149 : (149 : Int32).toNatClampNeg = 149 := by decide +kernel
  have w200 : ((200 : Int32) < 0) = False := eq_false (by decide)
  have i200 : (200 : Int32).toNatClampNeg = 200 := by decide +kernel
  have w298 : ((298 : Int32) < 0) = False := eq_false (by decide)
  have i298 : (298 : Int32).toNatClampNeg = 298 := by decide +kernel
  have w500 : ((500 : Int32) < 0) = False := eq_false (by decide)
  have i500 : (500 : Int32).toNatClampNeg = 500 := by decide +kernel
  have w894 : ((894 : Int32) < 0) = False := eq_false (by decide)
  have i894 : (894 : Int32).toNatClampNeg = 894 := by decide +kernel
  have w22528 : ((22528 : Int32) < 0) = False := eq_false (by decide)
  have i22528 : (22528 : Int32).toNatClampNeg = 22528 := by decide +kernel
  have wl : ((0 : Int32) < 0) = False := eq_false (by decide)
  have il : (0 : Int32).toNatClampNeg = 0 := by decide +kernel
  obtain ⟨g, ep, fr, mL⟩ := r_plain hm
  refine ⟨g, ?_, fr, mL⟩
  obtain ⟨g0, e0⟩ : ∃ g, g = cX6_0 h := ⟨_, rfl⟩
  have U0 : zK (znew h 0 149) 125 = (12, 27) := by rw [nw_Kn (by omega)]; exact hk
  have N0 : zN g0 = 127 := by rw [e0]; show zN (znew h 0 149) = _; rw [nw_N, hN]
  have K0 : zK g0 125 = (12, 27) := by rw [e0]; exact U0
  have c0 : zsP (znew h 0 149) 125 1 (some 126) = g0 := by rw [e0]; rfl
  obtain ⟨g1, e1⟩ : ∃ g, g = cX6_1 h := ⟨_, rfl⟩
  have U1 : zK (znew g0 0 149) 125 = (12, 27) := by rw [nw_Kn (by omega)]; exact K0
  have N1 : zN g1 = 128 := by rw [e1]; show zN (znew (cX6_0 h) 0 149) = _; rw [nw_N, ← e0, N0]
  have K1 : zK g1 125 = (12, 27) := by rw [e1]; show zK (znew (cX6_0 h) 0 149) 125 = _; rw [← e0]; exact U1
  have c1 : zsP (zsP (znew g0 0 149) 125 2 (some 127)) 125 3 (some 126) = g1 := by rw [e1, e0]; rfl
  obtain ⟨g2, e2⟩ : ∃ g, g = cX6_2 h := ⟨_, rfl⟩
  have U2 : zK (znew g1 1 22528) 125 = (12, 27) := by rw [nw_Kn (by omega)]; exact K1
  have N2 : zN g2 = 129 := by rw [e2]; show zN (znew (cX6_1 h) 1 22528) = _; rw [nw_N, ← e1, N1]
  have K2 : zK g2 125 = (12, 27) := by rw [e2]; show zK (znew (cX6_1 h) 1 22528) 125 = _; rw [← e1]; exact U2
  have c2 : zsP (znew g1 1 22528) 125 4 (some 128) = g2 := by rw [e2, e1]; rfl
  obtain ⟨g3, e3⟩ : ∃ g, g = cX6_3 h := ⟨_, rfl⟩
  have U3 : zK (znew g2 1 22528) 125 = (12, 27) := by rw [nw_Kn (by omega)]; exact K2
  have N3 : zN g3 = 130 := by rw [e3]; show zN (znew (cX6_2 h) 1 22528) = _; rw [nw_N, ← e2, N2]
  have K3 : zK g3 125 = (12, 27) := by rw [e3]; show zK (znew (cX6_2 h) 1 22528) 125 = _; rw [← e2]; exact U3
  have c3 : zsP (znew g2 1 22528) 125 5 (some 129) = g3 := by rw [e3, e2]; rfl
  obtain ⟨g4, e4⟩ : ∃ g, g = cX6_4 h := ⟨_, rfl⟩
  have U4 : zK (znew g3 0 22528) 125 = (12, 27) := by rw [nw_Kn (by omega)]; exact K3
  have N4 : zN g4 = 131 := by rw [e4]; show zN (znew (cX6_3 h) 0 22528) = _; rw [nw_N, ← e3, N3]
  have K4 : zK g4 125 = (12, 27) := by rw [e4]; show zK (znew (cX6_3 h) 0 22528) 125 = _; rw [← e3]; exact U4
  have c4 : zsP (znew g3 0 22528) 125 6 (some 130) = g4 := by rw [e4, e3]; rfl
  obtain ⟨g5, e5⟩ : ∃ g, g = cX6_5 h := ⟨_, rfl⟩
  have U5 : zK (znew g4 3 22528) 125 = (12, 27) := by rw [nw_Kn (by omega)]; exact K4
  have N5 : zN g5 = 132 := by rw [e5]; show zN (znew (cX6_4 h) 3 22528) = _; rw [nw_N, ← e4, N4]
  have K5 : zK g5 125 = (12, 27) := by rw [e5]; show zK (znew (cX6_4 h) 3 22528) 125 = _; rw [← e4]; exact U5
  have c5 : zsP (znew g4 3 22528) 125 7 (some 131) = g5 := by rw [e5, e4]; rfl
  obtain ⟨g6, e6⟩ : ∃ g, g = cX6_6 h := ⟨_, rfl⟩
  have U6 : zK (znew g5 0 11) 125 = (12, 27) := by rw [nw_Kn (by omega)]; exact K5
  have N6 : zN g6 = 133 := by rw [e6]; show zN (znew (cX6_5 h) 0 11) = _; rw [nw_N, ← e5, N5]
  have K6 : zK g6 125 = (12, 27) := by rw [e6]; show zK (znew (cX6_5 h) 0 11) 125 = _; rw [← e5]; exact U6
  have c6 : zsP (znew g5 0 11) 125 8 (some 132) = g6 := by rw [e6, e5]; rfl
  obtain ⟨g7, e7⟩ : ∃ g, g = cX6_7 h := ⟨_, rfl⟩
  have U7 : zK (znew g6 0 149) 125 = (12, 27) := by rw [nw_Kn (by omega)]; exact K6
  have N7 : zN g7 = 134 := by rw [e7]; show zN (znew (cX6_6 h) 0 149) = _; rw [nw_N, ← e6, N6]
  have K7 : zK g7 125 = (12, 27) := by rw [e7]; show zK (znew (cX6_6 h) 0 149) 125 = _; rw [← e6]; exact U7
  have c7 : zsP (znew g6 0 149) 125 9 (some 133) = g7 := by rw [e7, e6]; rfl
  obtain ⟨g8, e8⟩ : ∃ g, g = cX6_8 h := ⟨_, rfl⟩
  have U8 : zK (znew g7 2 500) 125 = (12, 27) := by rw [nw_Kn (by omega)]; exact K7
  have N8 : zN g8 = 135 := by rw [e8]; show zN (znew (cX6_7 h) 2 500) = _; rw [nw_N, ← e7, N7]
  have K8 : zK g8 125 = (12, 27) := by rw [e8]; show zK (znew (cX6_7 h) 2 500) 125 = _; rw [← e7]; exact U8
  have c8 : zsI (zsP (znew g7 2 500) 125 10 (some 134)) 125 18 (-1) = g8 := by rw [e8, e7]; rfl
  obtain ⟨g9, e9⟩ : ∃ g, g = cX6_9 h := ⟨_, rfl⟩
  have U9 : zK (znew g8 0 298) 125 = (12, 27) := by rw [nw_Kn (by omega)]; exact K8
  have N9 : zN g9 = 136 := by rw [e9]; show zN (znew (cX6_8 h) 0 298) = _; rw [nw_N, ← e8, N8]
  have K9 : zK g9 125 = (12, 27) := by rw [e9]; show zK (znew (cX6_8 h) 0 298) 125 = _; rw [← e8]; exact U9
  have c9 : zsP (znew g8 0 298) 125 21 (some 135) = g9 := by rw [e9, e8]; rfl
  obtain ⟨g10, e10⟩ : ∃ g, g = cX6_10 h := ⟨_, rfl⟩
  have U10 : zK (znew g9 3 2) 125 = (12, 27) := by rw [nw_Kn (by omega)]; exact K9
  have N10 : zN g10 = 137 := by rw [e10]; show zN (znew (cX6_9 h) 3 2) = _; rw [nw_N, ← e9, N9]
  have K10 : zK g10 125 = (12, 27) := by rw [e10]; show zK (znew (cX6_9 h) 3 2) 125 = _; rw [← e9]; exact U10
  have c10 : zsP (znew g9 3 2) 125 22 (some 136) = g10 := by rw [e10, e9]; rfl
  obtain ⟨g11, e11⟩ : ∃ g, g = cX6_11 h := ⟨_, rfl⟩
  have U11 : zK (znew g10 0 894) 125 = (12, 27) := by rw [nw_Kn (by omega)]; exact K10
  have N11 : zN g11 = 138 := by rw [e11]; show zN (znew (cX6_10 h) 0 894) = _; rw [nw_N, ← e10, N10]
  have K11 : zK g11 125 = (12, 27) := by rw [e11]; show zK (znew (cX6_10 h) 0 894) 125 = _; rw [← e10]; exact U11
  have c11 : zsP (znew g10 0 894) 125 23 (some 137) = g11 := by rw [e11, e10]; rfl
  obtain ⟨g12, e12⟩ : ∃ g, g = cX6_12 h := ⟨_, rfl⟩
  have U12 : zK (znew g11 2 200) 125 = (12, 27) := by rw [nw_Kn (by omega)]; exact K11
  have N12 : zN g12 = 139 := by rw [e12]; show zN (znew (cX6_11 h) 2 200) = _; rw [nw_N, ← e11, N11]
  have K12 : zK g12 125 = (12, 27) := by rw [e12]; show zK (znew (cX6_11 h) 2 200) 125 = _; rw [← e11]; exact U12
  have c12 : zsP (znew g11 2 200) 125 25 (some 138) = g12 := by rw [e12, e11]; rfl
  have p1 : zP g0 125 1 = some 126 := by rw [← c0, sP_s, zput_self]
  have pq : zP (zsP (znew g0 0 149) 125 2 (some 127)) 125 1 = some 126 := by rw [sP_s, zput_ne _ _ (by omega), nw_P (by omega)]; exact p1
  refine zsem_eq (Nat.le_of_ble_eq_true rfl) (zTo_of gX6_init_0 ?_)
  simp only [hN, show 126 < 900000 by omega, w149, i149, Nat.le_refl, zmp_s, zlt_s, zcV_s, zcI_s, zcJ_s, zcA_s, zcD_s, zcF_s, zth_n, zth_t, zrt_s, zQ_l, zQ_r, false_or, or_false, true_or, or_true, false_and, and_false, not_false_eq_true, not_true_eq_false, and_self, true_and, and_true, if_true, if_false, ite_true, ite_false, zgd_t]
  refine zTo_of gX6_init_5 ?_
  simp only [U0, nw_N, hN, show 126 < 126 + 1 by omega, c0, N0, show 127 < 900000 by omega, w149, i149, Nat.le_refl, zmp_s, zlt_s, zcV_s, zcI_s, zcJ_s, zcA_s, zcD_s, zcF_s, zth_n, zth_t, zrt_s, zQ_l, zQ_r, false_or, or_false, true_or, or_true, false_and, and_false, not_false_eq_true, not_true_eq_false, and_self, true_and, and_true, if_true, if_false, ite_true, ite_false, zgd_t]
  refine zTo_of gX6_init_9 ?_
  simp only [U1, nw_N, N0, show 127 < 127 + 1 by omega, pq, K_sP, N_sP, show 126 < 128 by omega, c1, N1, show 128 < 900000 by omega, w22528, i22528, Nat.le_refl, zmp_s, zlt_s, zcV_s, zcI_s, zcJ_s, zcA_s, zcD_s, zcF_s, zth_n, zth_t, zrt_s, zQ_l, zQ_r, false_or, or_false, true_or, or_true, false_and, and_false, not_false_eq_true, not_true_eq_false, and_self, true_and, and_true, if_true, if_false, ite_true, ite_false, zgd_t]
  refine zTo_of gX6_init_17 ?_
  simp only [U2, nw_N, N1, show 128 < 128 + 1 by omega, c2, N2, show 129 < 900000 by omega, w22528, i22528, Nat.le_refl, zmp_s, zlt_s, zcV_s, zcI_s, zcJ_s, zcA_s, zcD_s, zcF_s, zth_n, zth_t, zrt_s, zQ_l, zQ_r, false_or, or_false, true_or, or_true, false_and, and_false, not_false_eq_true, not_true_eq_false, and_self, true_and, and_true, if_true, if_false, ite_true, ite_false, zgd_t]
  refine zTo_of gX6_init_21 ?_
  simp only [U3, nw_N, N2, show 129 < 129 + 1 by omega, c3, N3, show 130 < 900000 by omega, w22528, i22528, Nat.le_refl, zmp_s, zlt_s, zcV_s, zcI_s, zcJ_s, zcA_s, zcD_s, zcF_s, zth_n, zth_t, zrt_s, zQ_l, zQ_r, false_or, or_false, true_or, or_true, false_and, and_false, not_false_eq_true, not_true_eq_false, and_self, true_and, and_true, if_true, if_false, ite_true, ite_false, zgd_t]
  refine zTo_of gX6_init_25 ?_
  simp only [U4, nw_N, N3, show 130 < 130 + 1 by omega, c4, N4, show 131 < 900000 by omega, w22528, i22528, Nat.le_refl, zmp_s, zlt_s, zcV_s, zcI_s, zcJ_s, zcA_s, zcD_s, zcF_s, zth_n, zth_t, zrt_s, zQ_l, zQ_r, false_or, or_false, true_or, or_true, false_and, and_false, not_false_eq_true, not_true_eq_false, and_self, true_and, and_true, if_true, if_false, ite_true, ite_false, zgd_t]
  refine zTo_of gX6_init_29 ?_
  simp only [U5, nw_N, N4, show 131 < 131 + 1 by omega, c5, N5, show 132 < 900000 by omega, w11, i11, Nat.le_refl, zmp_s, zlt_s, zcV_s, zcI_s, zcJ_s, zcA_s, zcD_s, zcF_s, zth_n, zth_t, zrt_s, zQ_l, zQ_r, false_or, or_false, true_or, or_true, false_and, and_false, not_false_eq_true, not_true_eq_false, and_self, true_and, and_true, if_true, if_false, ite_true, ite_false, zgd_t]
  refine zTo_of gX6_init_33 ?_
  simp only [U6, nw_N, N5, show 132 < 132 + 1 by omega, c6, N6, show 133 < 900000 by omega, w149, i149, Nat.le_refl, zmp_s, zlt_s, zcV_s, zcI_s, zcJ_s, zcA_s, zcD_s, zcF_s, zth_n, zth_t, zrt_s, zQ_l, zQ_r, false_or, or_false, true_or, or_true, false_and, and_false, not_false_eq_true, not_true_eq_false, and_self, true_and, and_true, if_true, if_false, ite_true, ite_false, zgd_t]
  refine zTo_of gX6_init_37 ?_
  simp only [U7, nw_N, N6, show 133 < 133 + 1 by omega, c7, N7, show 134 < 900000 by omega, w500, i500, Nat.le_refl, zmp_s, zlt_s, zcV_s, zcI_s, zcJ_s, zcA_s, zcD_s, zcF_s, zth_n, zth_t, zrt_s, zQ_l, zQ_r, false_or, or_false, true_or, or_true, false_and, and_false, not_false_eq_true, not_true_eq_false, and_self, true_and, and_true, if_true, if_false, ite_true, ite_false, zgd_t]
  refine zTo_of gX6_init_41 ?_
  simp only [U8, nw_N, N7, show 134 < 134 + 1 by omega, K_sP, c8, N8, show 135 < 900000 by omega, w298, i298, Nat.le_refl, zmp_s, zlt_s, zcV_s, zcI_s, zcJ_s, zcA_s, zcD_s, zcF_s, zth_n, zth_t, zrt_s, zQ_l, zQ_r, false_or, or_false, true_or, or_true, false_and, and_false, not_false_eq_true, not_true_eq_false, and_self, true_and, and_true, if_true, if_false, ite_true, ite_false, zgd_t]
  refine zTo_of gX6_init_48 ?_
  simp only [U9, nw_N, N8, show 135 < 135 + 1 by omega, c9, N9, show 136 < 900000 by omega, w2, i2, Nat.le_refl, zmp_s, zlt_s, zcV_s, zcI_s, zcJ_s, zcA_s, zcD_s, zcF_s, zth_n, zth_t, zrt_s, zQ_l, zQ_r, false_or, or_false, true_or, or_true, false_and, and_false, not_false_eq_true, not_true_eq_false, and_self, true_and, and_true, if_true, if_false, ite_true, ite_false, zgd_t]
  refine zTo_of gX6_init_52 ?_
  simp only [U10, nw_N, N9, show 136 < 136 + 1 by omega, c10, N10, show 137 < 900000 by omega, w894, i894, Nat.le_refl, zmp_s, zlt_s, zcV_s, zcI_s, zcJ_s, zcA_s, zcD_s, zcF_s, zth_n, zth_t, zrt_s, zQ_l, zQ_r, false_or, or_false, true_or, or_true, false_and, and_false, not_false_eq_true, not_true_eq_false, and_self, true_and, and_true, if_true, if_false, ite_true, ite_false, zgd_t]
  refine zTo_of gX6_init_56 ?_
  simp only [U11, nw_N, N10, show 137 < 137 + 1 by omega, c11, N11, show 138 < 900000 by omega, w200, i200, Nat.le_refl, zmp_s, zlt_s, zcV_s, zcI_s, zcJ_s, zcA_s, zcD_s, zcF_s, zth_n, zth_t, zrt_s, zQ_l, zQ_r, false_or, or_false, true_or, or_true, false_and, and_false, not_false_eq_true, not_true_eq_false, and_self, true_and, and_true, if_true, if_false, ite_true, ite_false, zgd_t]
  refine zTo_of gX6_init_60 ?_
  simp only [U12, nw_N, N11, show 138 < 138 + 1 by omega, c12, K12, zmp_s, zlt_s, zcV_s, zcI_s, zcJ_s, zcA_s, zcD_s, zcF_s, zth_n, zth_t, zrt_s, zQ_l, zQ_r, false_or, or_false, true_or, or_true, false_and, and_false, not_false_eq_true, not_true_eq_false, and_self, true_and, and_true, if_true, if_false, ite_true, ite_false, zgd_t]
  rw [e12, ep]
  simp only [zmp_s, zlt_s, zcV_s, zcI_s, zcJ_s, zcA_s, zcD_s, zcF_s, zth_n, zth_t, zrt_s, zQ_l, zQ_r]
  refine zTo_of gX6_init_63 ?_
  have m1 := moS_fr fr hm
  have t0 := m1.1
  have t3 := m1.2.1
  have tq := m1.2.2.1
  simp only [t0, t3, tq, wl, il, show ¬ 149 ≤ 0 by omega, zmp_s, zlt_s, zcV_s, zcI_s, zcJ_s, zcA_s, zcD_s, zcF_s, zth_n, zth_t, zrt_s, zQ_l, zQ_r, false_or, or_false, true_or, or_true, false_and, and_false, not_false_eq_true, not_true_eq_false, and_self, true_and, and_true, if_true, if_false, ite_true, ite_false, zgd_t]
end ZMN
