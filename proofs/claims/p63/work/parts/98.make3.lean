/-! NEW OBJECTS: the class's and the model's. -/
section ZMM
def cX5a (h : zm_H) : zm_H := zsP (cX0 (znew h 6 2) 1 500) 0 0 (some 1)
def cX5b (h : zm_H) : zm_H := zsP (cX0 (znew (cX5a h) 6 2) 3 77) 0 1 (some 3)
def cX5c (h : zm_H) : zm_H := zsP (cX2 (znew (cX5b h) 8 15) 5) 0 2 (some 5)
def cX5d (h : zm_H) : zm_H := zsP (cX2 (znew (cX5c h) 8 15) 16) 0 3 (some 16)
def cX5e (h : zm_H) : zm_H := zsP (cX1 (znew (cX5d h) 7 3) 27) 0 4 (some 27)
def cX5f (h : zm_H) : zm_H := zsP (cX2 (znew (znew (cX5e h) 5 2) 8 15) 96) 95 0 (some 96)
def cX5g (h : zm_H) : zm_H := zsP (zsP (cX2 (znew (cX5f h) 8 15) 107) 95 1 (some 107)) 0 5 (some 95)
def cX5h (h : zm_H) : zm_H := zsP (znew (cX5g h) 3 2) 0 6 (some 118)
def cX5i (h : zm_H) : zm_H := zsI (zsP (cX4 (znew (cX5h h) 10 7) 119) 0 7 (some 119)) 0 8 1
def cX5 (h : zm_H) : zm_H := zsI (zsI (zsP (znew (cX5i h) 0 11) 0 9 (some 124)) 0 10 0) 0 11 (-1)
theorem k_X5 {h : zm_H} (hk : zK h 0 = (11, 12)) (hN : zN h = 1) : sX5_init [.ref 0] h = some (.inl none, cX5 h) := by
  have w2 : ((2 : Int32) < 0) = False := eq_false (by decide)
  have i0 : (0 : Int32).toNatClampNeg = 0 := by decide +kernel
  have i1 : (1 : Int32).toNatClampNeg = 1 := by decide +kernel
  have i2 : (2 : Int32).toNatClampNeg = 2 := by decide +kernel
  have n0 : ((0 : Int32) < 0) = False := eq_false (by decide)
  have n1 : ((1 : Int32) < 0) = False := eq_false (by decide)
  obtain ⟨v1, -, v3, -⟩ := new_ok
  -- a
  obtain ⟨a1, e1⟩ : ∃ g, g = znew h 6 2 := ⟨_, rfl⟩
  have N1 : zN a1 = 2 := by rw [e1, nw_N, hN]
  have K1 : zK a1 0 = (11, 12) := by rw [e1, nw_Kn (by omega)]; exact hk
  have O1 : zK a1 1 = (6, 2) := by rw [e1, ← hN, nw_Ks]
  have s1 : sX0_init [.ref 1, .int 500] a1 = some (.inl none, cX0 a1 1 500) := k_X0 (n := 500) O1 (by omega) (by omega) (by omega)
  obtain ⟨a2, e2⟩ : ∃ g, g = cX0 a1 1 500 := ⟨_, rfl⟩
  have N2 : zN a2 = 3 := by rw [e2, X0_N, N1]
  have K2 : zK a2 0 = (11, 12) := by rw [e2, X0_K (by omega)]; exact K1
  rw [← e2] at s1
  obtain ⟨a3, e3⟩ : ∃ g, g = zsP a2 0 0 (some 1) := ⟨_, rfl⟩
  have N3 : zN a3 = 3 := by rw [e3]; exact N2
  have K3 : zK a3 0 = (11, 12) := by rw [e3]; exact K2
  -- b
  obtain ⟨b1, f1⟩ : ∃ g, g = znew a3 6 2 := ⟨_, rfl⟩
  have M1 : zN b1 = 4 := by rw [f1, nw_N, N3]
  have L1 : zK b1 0 = (11, 12) := by rw [f1, nw_Kn (by omega)]; exact K3
  have Q1 : zK b1 3 = (6, 2) := by rw [f1, ← N3, nw_Ks]
  have s2 : sX0_init [.ref 3, .int 77] b1 = some (.inl none, cX0 b1 3 77) := k_X0 (n := 77) Q1 (by omega) (by omega) (by omega)
  obtain ⟨b2, f2⟩ : ∃ g, g = cX0 b1 3 77 := ⟨_, rfl⟩
  have M2 : zN b2 = 5 := by rw [f2, X0_N, M1]
  have L2 : zK b2 0 = (11, 12) := by rw [f2, X0_K (by omega)]; exact L1
  rw [← f2] at s2
  obtain ⟨b3, f3⟩ : ∃ g, g = zsP b2 0 1 (some 3) := ⟨_, rfl⟩
  have M3 : zN b3 = 5 := by rw [f3]; exact M2
  have L3 : zK b3 0 = (11, 12) := by rw [f3]; exact L2
  -- c
  have s3 := (k_nX2 (h := b3) (by omega)).1
  rw [M3] at s3
  obtain ⟨c2, g2⟩ : ∃ g, g = cX2 (znew b3 8 15) 5 := ⟨_, rfl⟩
  rw [← g2] at s3
  have NC2 : zN c2 = 16 := by rw [g2, X2_N, nw_N, M3]
  have KC2 : zK c2 0 = (11, 12) := by rw [g2, X2_K (by rw [nw_N]; omega), nw_Kn (by omega)]; exact L3
  obtain ⟨c3, g3⟩ : ∃ g, g = zsP c2 0 2 (some 5) := ⟨_, rfl⟩
  have NC3 : zN c3 = 16 := by rw [g3]; exact NC2
  have KC3 : zK c3 0 = (11, 12) := by rw [g3]; exact KC2
  -- d
  have s4 := (k_nX2 (h := c3) (by omega)).1
  rw [NC3] at s4
  obtain ⟨d2, h2⟩ : ∃ g, g = cX2 (znew c3 8 15) 16 := ⟨_, rfl⟩
  rw [← h2] at s4
  have ND2 : zN d2 = 27 := by rw [h2, X2_N, nw_N, NC3]
  have KD2 : zK d2 0 = (11, 12) := by rw [h2, X2_K (by rw [nw_N]; omega), nw_Kn (by omega)]; exact KC3
  obtain ⟨d3, h3⟩ : ∃ g, g = zsP d2 0 3 (some 16) := ⟨_, rfl⟩
  have ND3 : zN d3 = 27 := by rw [h3]; exact ND2
  have KD3 : zK d3 0 = (11, 12) := by rw [h3]; exact KD2
  -- e
  have s5 : sX1_init [.ref 27] (znew d3 7 3) = some (.inl none, cX1 (znew d3 7 3) 27) := k_X1 (by rw [← ND3, nw_Ks]) (by rw [nw_N]; omega) (by rw [nw_N]; omega)
  obtain ⟨e2', j2⟩ : ∃ g, g = cX1 (znew d3 7 3) 27 := ⟨_, rfl⟩
  rw [← j2] at s5
  have NE2 : zN e2' = 95 := by rw [j2, X1_N, nw_N, ND3]
  have KE2 : zK e2' 0 = (11, 12) := by rw [j2, X1_K (by rw [nw_N]; omega), nw_Kn (by omega)]; exact KD3
  obtain ⟨e3', j3⟩ : ∃ g, g = zsP e2' 0 4 (some 27) := ⟨_, rfl⟩
  have NE3 : zN e3' = 95 := by rw [j3]; exact NE2
  have KE3 : zK e3' 0 = (11, 12) := by rw [j3]; exact KE2
  -- f
  obtain ⟨p1, k1⟩ : ∃ g, g = znew e3' 5 2 := ⟨_, rfl⟩
  have NP1 : zN p1 = 96 := by rw [k1, nw_N, NE3]
  have KP1 : zK p1 0 = (11, 12) := by rw [k1, nw_Kn (by omega)]; exact KE3
  have AP1 : zK p1 95 = (5, 2) := by rw [k1, ← NE3, nw_Ks]
  obtain ⟨s6, y6⟩ := k_nX2 (h := p1) (by omega)
  rw [NP1] at s6 y6
  obtain ⟨p2, k2⟩ : ∃ g, g = cX2 (znew p1 8 15) 96 := ⟨_, rfl⟩
  rw [← k2] at s6 y6
  have NP2 : zN p2 = 107 := by rw [k2, X2_N, nw_N, NP1]
  have KP2 : zK p2 0 = (11, 12) := by rw [k2, X2_K (by rw [nw_N]; omega), nw_Kn (by omega)]; exact KP1
  have AP2 : zK p2 95 = (5, 2) := by rw [k2, X2_K (by rw [nw_N]; omega), nw_Kn (by omega)]; exact AP1
  obtain ⟨p3, k3⟩ : ∃ g, g = zsP p2 95 0 (some 96) := ⟨_, rfl⟩
  have NP3 : zN p3 = 107 := by rw [k3]; exact NP2
  have KP3 : zK p3 0 = (11, 12) := by rw [k3]; exact KP2
  have AP3 : zK p3 95 = (5, 2) := by rw [k3]; exact AP2
  -- g
  obtain ⟨s7, y7⟩ := k_nX2 (h := p3) (by omega)
  rw [NP3] at s7 y7
  obtain ⟨q2, l2⟩ : ∃ g, g = cX2 (znew p3 8 15) 107 := ⟨_, rfl⟩
  rw [← l2] at s7 y7
  have NQ2 : zN q2 = 118 := by rw [l2, X2_N, nw_N, NP3]
  have KQ2 : zK q2 0 = (11, 12) := by rw [l2, X2_K (by rw [nw_N]; omega), nw_Kn (by omega)]; exact KP3
  have AQ2 : zK q2 95 = (5, 2) := by rw [l2, X2_K (by rw [nw_N]; omega), nw_Kn (by omega)]; exact AP3
  obtain ⟨q3, l3⟩ : ∃ g, g = zsP (zsP q2 95 1 (some 107)) 0 5 (some 95) := ⟨_, rfl⟩
  have NQ3 : zN q3 = 118 := by rw [l3]; exact NQ2
  have KQ3 : zK q3 0 = (11, 12) := by rw [l3]; exact KQ2
  -- h
  obtain ⟨r3, m3⟩ : ∃ g, g = zsP (znew q3 3 2) 0 6 (some 118) := ⟨_, rfl⟩
  have NR3 : zN r3 = 119 := by rw [m3, N_sP, nw_N, NQ3]
  have KR2 : zK (znew q3 3 2) 0 = (11, 12) := by rw [nw_Kn (by omega)]; exact KQ3
  have KR3 : zK r3 0 = (11, 12) := by rw [m3]; exact KR2
  -- i
  have s8 : sX4_init [.ref 119] (znew r3 10 7) = some (.inl none, cX4 (znew r3 10 7) 119) := k_X4 (by rw [← NR3, nw_Ks]) (by rw [nw_N]; omega) (by rw [nw_N]; omega)
  obtain ⟨t2, o2⟩ : ∃ g, g = cX4 (znew r3 10 7) 119 := ⟨_, rfl⟩
  rw [← o2] at s8
  have NT2 : zN t2 = 124 := by rw [o2, X4_N, nw_N, NR3]
  have KT2 : zK t2 0 = (11, 12) := by rw [o2, X4_K (by rw [nw_N]; omega), nw_Kn (by omega)]; exact KR3
  obtain ⟨t3, o3⟩ : ∃ g, g = zsI (zsP t2 0 7 (some 119)) 0 8 1 := ⟨_, rfl⟩
  have NT3 : zN t3 = 124 := by rw [o3]; exact NT2
  have KT3 : zK t3 0 = (11, 12) := by rw [o3]; exact KT2
  have KU : zK (znew t3 0 11) 0 = (11, 12) := by rw [nw_Kn (by omega)]; exact KT3
  refine zsem_eq (Nat.le_of_ble_eq_true rfl) (zTo_of gX5_init_0 ?_)
  simp only [hN, ← e1, show 1 < 900000 by omega, zmp_s, zlt_s, zcV_s, zcI_s, zcJ_s, zcA_s, zcD_s, zcF_s, zth_n, zth_t, zrt_s, zQ_l, zQ_r, false_or, or_false, true_or, or_true, false_and, and_false, not_false_eq_true, not_true_eq_false, and_self, true_and, and_true, if_true, if_false, ite_true, ite_false, zgd_t]
  refine zTo_of gX5_init_4 ?_
  simp only [s1, zmp_s, zlt_s, zcV_s, zcI_s, zcJ_s, zcA_s, zcD_s, zcF_s, zth_n, zth_t, zrt_s, zQ_l, zQ_r, false_or, or_false, true_or, or_true, false_and, and_false, not_false_eq_true, not_true_eq_false, and_self, true_and, and_true, if_true, if_false, ite_true, ite_false]
  refine zTo_of gX5_init_7 ?_
  simp only [K2, N2, show 1 < 3 by omega, ← e3, N3, show 3 < 900000 by omega, ← f1, zmp_s, zlt_s, zcV_s, zcI_s, zcJ_s, zcA_s, zcD_s, zcF_s, zth_n, zth_t, zrt_s, zQ_l, zQ_r, false_or, or_false, true_or, or_true, false_and, and_false, not_false_eq_true, not_true_eq_false, and_self, true_and, and_true, if_true, if_false, ite_true, ite_false, zgd_t]
  refine zTo_of gX5_init_10 ?_
  simp only [s2, zmp_s, zlt_s, zcV_s, zcI_s, zcJ_s, zcA_s, zcD_s, zcF_s, zth_n, zth_t, zrt_s, zQ_l, zQ_r, false_or, or_false, true_or, or_true, false_and, and_false, not_false_eq_true, not_true_eq_false, and_self, true_and, and_true, if_true, if_false, ite_true, ite_false]
  refine zTo_of gX5_init_13 ?_
  simp only [L2, M2, show 3 < 5 by omega, ← f3, M3, show 5 < 900000 by omega, zmp_s, zlt_s, zcV_s, zcI_s, zcJ_s, zcA_s, zcD_s, zcF_s, zth_n, zth_t, zrt_s, zQ_l, zQ_r, false_or, or_false, true_or, or_true, false_and, and_false, not_false_eq_true, not_true_eq_false, and_self, true_and, and_true, if_true, if_false, ite_true, ite_false, zgd_t]
  refine zTo_of gX5_init_16 ?_
  simp only [s3, zmp_s, zlt_s, zcV_s, zcI_s, zcJ_s, zcA_s, zcD_s, zcF_s, zth_n, zth_t, zrt_s, zQ_l, zQ_r, false_or, or_false, true_or, or_true, false_and, and_false, not_false_eq_true, not_true_eq_false, and_self, true_and, and_true, if_true, if_false, ite_true, ite_false]
  refine zTo_of gX5_init_18 ?_
  simp only [KC2, NC2, show 5 < 16 by omega, ← g3, NC3, show 16 < 900000 by omega, zmp_s, zlt_s, zcV_s, zcI_s, zcJ_s, zcA_s, zcD_s, zcF_s, zth_n, zth_t, zrt_s, zQ_l, zQ_r, false_or, or_false, true_or, or_true, false_and, and_false, not_false_eq_true, not_true_eq_false, and_self, true_and, and_true, if_true, if_false, ite_true, ite_false, zgd_t]
  refine zTo_of gX5_init_21 ?_
  simp only [s4, zmp_s, zlt_s, zcV_s, zcI_s, zcJ_s, zcA_s, zcD_s, zcF_s, zth_n, zth_t, zrt_s, zQ_l, zQ_r, false_or, or_false, true_or, or_true, false_and, and_false, not_false_eq_true, not_true_eq_false, and_self, true_and, and_true, if_true, if_false, ite_true, ite_false]
  refine zTo_of gX5_init_23 ?_
  simp only [KD2, ND2, show 16 < 27 by omega, ← h3, ND3, show 27 < 900000 by omega, zmp_s, zlt_s, zcV_s, zcI_s, zcJ_s, zcA_s, zcD_s, zcF_s, zth_n, zth_t, zrt_s, zQ_l, zQ_r, false_or, or_false, true_or, or_true, false_and, and_false, not_false_eq_true, not_true_eq_false, and_self, true_and, and_true, if_true, if_false, ite_true, ite_false, zgd_t]
  refine zTo_of gX5_init_26 ?_
  simp only [s5, zmp_s, zlt_s, zcV_s, zcI_s, zcJ_s, zcA_s, zcD_s, zcF_s, zth_n, zth_t, zrt_s, zQ_l, zQ_r, false_or, or_false, true_or, or_true, false_and, and_false, not_false_eq_true, not_true_eq_false, and_self, true_and, and_true, if_true, if_false, ite_true, ite_false]
  refine zTo_of gX5_init_28 ?_
  simp only [KE2, NE2, show 27 < 95 by omega, ← j3, NE3, show 95 < 900000 by omega, w2, i2, Nat.le_refl, ← k1, zmp_s, zlt_s, zcV_s, zcI_s, zcJ_s, zcA_s, zcD_s, zcF_s, zth_n, zth_t, zrt_s, zQ_l, zQ_r, false_or, or_false, true_or, or_true, false_and, and_false, not_false_eq_true, not_true_eq_false, and_self, true_and, and_true, if_true, if_false, ite_true, ite_false, zgd_t]
  refine zTo_of gX5_init_32 ?_
  simp only [NP1, show 96 < 900000 by omega, zmp_s, zlt_s, zcV_s, zcI_s, zcJ_s, zcA_s, zcD_s, zcF_s, zth_n, zth_t, zrt_s, zQ_l, zQ_r, false_or, or_false, true_or, or_true, false_and, and_false, not_false_eq_true, not_true_eq_false, and_self, true_and, and_true, if_true, if_false, ite_true, ite_false, zgd_t]
  refine zTo_of gX5_init_35 ?_
  simp only [s6, zmp_s, zlt_s, zcV_s, zcI_s, zcJ_s, zcA_s, zcD_s, zcF_s, zth_n, zth_t, zrt_s, zQ_l, zQ_r, false_or, or_false, true_or, or_true, false_and, and_false, not_false_eq_true, not_true_eq_false, and_self, true_and, and_true, if_true, if_false, ite_true, ite_false]
  refine zTo_of gX5_init_37 ?_
  simp only [AP2, y6, i0, n0, show ¬ 2 ≤ 0 by omega, ← k3, NP3, show 107 < 900000 by omega, zmp_s, zlt_s, zcV_s, zcI_s, zcJ_s, zcA_s, zcD_s, zcF_s, zth_n, zth_t, zrt_s, zQ_l, zQ_r, false_or, or_false, true_or, or_true, false_and, and_false, not_false_eq_true, not_true_eq_false, and_self, true_and, and_true, if_true, if_false, ite_true, ite_false, zgd_t]
  refine zTo_of gX5_init_41 ?_
  simp only [s7, zmp_s, zlt_s, zcV_s, zcI_s, zcJ_s, zcA_s, zcD_s, zcF_s, zth_n, zth_t, zrt_s, zQ_l, zQ_r, false_or, or_false, true_or, or_true, false_and, and_false, not_false_eq_true, not_true_eq_false, and_self, true_and, and_true, if_true, if_false, ite_true, ite_false]
  refine zTo_of gX5_init_43 ?_
  simp only [AQ2, y7, i1, n1, show ¬ 2 ≤ 1 by omega, K_sP, KQ2, N_sP, NQ2, show 95 < 118 by omega, ← l3, NQ3, show 118 < 900000 by omega, w2, i2, Nat.le_refl, zmp_s, zlt_s, zcV_s, zcI_s, zcJ_s, zcA_s, zcD_s, zcF_s, zth_n, zth_t, zrt_s, zQ_l, zQ_r, false_or, or_false, true_or, or_true, false_and, and_false, not_false_eq_true, not_true_eq_false, and_self, true_and, and_true, if_true, if_false, ite_true, ite_false, zgd_t]
  refine zTo_of gX5_init_48 ?_
  simp only [KR2, nw_N, NQ3, show 118 < 118 + 1 by omega, ← m3, NR3, show 119 < 900000 by omega, zmp_s, zlt_s, zcV_s, zcI_s, zcJ_s, zcA_s, zcD_s, zcF_s, zth_n, zth_t, zrt_s, zQ_l, zQ_r, false_or, or_false, true_or, or_true, false_and, and_false, not_false_eq_true, not_true_eq_false, and_self, true_and, and_true, if_true, if_false, ite_true, ite_false, zgd_t]
  refine zTo_of gX5_init_51 ?_
  simp only [s8, zmp_s, zlt_s, zcV_s, zcI_s, zcJ_s, zcA_s, zcD_s, zcF_s, zth_n, zth_t, zrt_s, zQ_l, zQ_r, false_or, or_false, true_or, or_true, false_and, and_false, not_false_eq_true, not_true_eq_false, and_self, true_and, and_true, if_true, if_false, ite_true, ite_false]
  refine zTo_of gX5_init_53 ?_
  simp only [KT2, NT2, show 119 < 124 by omega, K_sP, ← o3, NT3, show 124 < 900000 by omega, v1, v3, Nat.le_refl, zmp_s, zlt_s, zcV_s, zcI_s, zcJ_s, zcA_s, zcD_s, zcF_s, zth_n, zth_t, zrt_s, zQ_l, zQ_r, false_or, or_false, true_or, or_true, false_and, and_false, not_false_eq_true, not_true_eq_false, and_self, true_and, and_true, if_true, if_false, ite_true, ite_false, zgd_t]
  refine zTo_of gX5_init_60 ?_
  simp only [KU, nw_N, NT3, show 124 < 124 + 1 by omega, K_sP, K_sI, zmp_s, zlt_s, zcV_s, zcI_s, zcJ_s, zcA_s, zcD_s, zcF_s, zth_n, zth_t, zrt_s, zQ_l, zQ_r, false_or, or_false, true_or, or_true, false_and, and_false, not_false_eq_true, not_true_eq_false, and_self, true_and, and_true, if_true, if_false, ite_true, ite_false, zgd_t]
  rw [o3, o2, m3, l3, l2, k3, k2, k1, j3, j2, h3, h2, g3, g2, f3, f2, f1, e3, e2, e1]
  rfl
end ZMM

