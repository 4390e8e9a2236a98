/-! THE MODEL: its object, its level, small questions. -/
section ZMA
def mI (N : zLv) (i : Nat) : Int32 := if i = 3 then eI (N 3) else nI (N i)
theorem mI_n {N : zLv} {i : Nat} (h : i ≠ 3) : mI N i = nI (N i) := if_neg h
theorem mI_3 {N : zLv} : mI N 3 = eI (N 3) := if_pos rfl
/-- a level in one row of numbers -/
def ML (h : zm_H) (q : Nat) (N : zLv) : Prop := ∀ i, i < 149 → zI h q i = mI N i
theorem ML.at {h : zm_H} {q : Nat} {N : zLv} (m : ML h q N) {i : Nat} (hi : i < 149) (h3 : i ≠ 3) : zI h q i = nI (N i) := by rw [m i hi, mI_n h3]
theorem ML.e3 {h : zm_H} {q : Nat} {N : zLv} (m : ML h q N) : zI h q 3 = eI (N 3) := by rw [m 3 (by omega), mI_3]
/-- the model's object -/
def moS (h : zm_H) (q : Nat) : Prop := zK h 125 = (12, 27) ∧ zP h 125 3 = some q ∧ zK h q = (0, 149) ∧ zP h 125 1 = some 126 ∧ zP h 125 2 = some 127 ∧ zP h 125 4 = some 128 ∧ zP h 125 5 = some 129 ∧ zP h 125 6 = some 130 ∧ zP h 125 7 = some 131 ∧ zP h 125 8 = some 132 ∧ zP h 125 9 = some 133 ∧ zP h 125 10 = some 134 ∧ zP h 125 21 = some 135 ∧ zP h 125 22 = some 136 ∧ zP h 125 23 = some 137 ∧ zP h 125 25 = some 138 ∧
  zK h 126 = (0, 149) ∧ zK h 127 = (0, 149) ∧ zK h 128 = (1, 22528) ∧ zK h 129 = (1, 22528) ∧ zK h 130 = (0, 22528) ∧ zK h 131 = (3, 22528) ∧ zK h 132 = (0, 11) ∧ zK h 133 = (0, 149) ∧ zK h 134 = (2, 500) ∧ zK h 135 = (0, 298) ∧ zK h 136 = (3, 2) ∧ zK h 137 = (0, 894) ∧ zK h 138 = (2, 200)
theorem moS_kp {h h2 : zm_H} {q : Nat} (k : zK h2 = zK h) (p : zP h2 = zP h) (m0 : moS h q) : moS h2 q := by
  unfold moS at m0 ⊢
  rw [k, p]; exact m0
theorem moS_fr {A : Nat → Prop} {h h2 : zm_H} {q : Nat} (p : zFr A h h2) (m0 : moS h q) : moS h2 q := moS_kp p.K p.P m0
theorem c_1 : (1 : Int32).toNatClampNeg = 1 := rfl
theorem c_2 : (2 : Int32).toNatClampNeg = 2 := rfl
theorem c_3 : (3 : Int32).toNatClampNeg = 3 := rfl
theorem c_4 : (4 : Int32).toNatClampNeg = 4 := rfl
theorem p_1 : ((1 : Int32) < 0) = False := eq_false (nI_pos (n := 1) (by omega))
theorem p_2 : ((2 : Int32) < 0) = False := eq_false (nI_pos (n := 2) (by omega))
theorem p_3 : ((3 : Int32) < 0) = False := eq_false (nI_pos (n := 3) (by omega))
theorem p_4 : ((4 : Int32) < 0) = False := eq_false (nI_pos (n := 4) (by omega))
theorem i10 : ((1 : Int32) = 0) = False := eq_false (fun e => nI_ne0 (n := 1) (by omega) (by omega) e)
-- tests
theorem in_G (v lo hi : Int64) (h : zm_H) : sX6_in [.long v, .long lo, .long hi] h = some (.inl (some (.int (zb (decide (lo ≤ v) && decide (v ≤ hi))))), h) := by
  refine zsem_eq (Nat.le_of_ble_eq_true rfl) (zTo_of gX6_in_0 ?_)
  simp only [lg_cmp_lt, lg_cmp_gt]
  by_cases a : v < lo
  · have b : ¬ lo ≤ v := Int64.not_le.mpr a
    simp only [a, b, false_or, or_false, true_or, or_true, false_and, and_false, not_false_eq_true, not_true_eq_false, and_self, true_and, and_true, if_true, if_false, ite_true, ite_false, zmp_s, zlt_s, zcV_s, zcI_s, zcJ_s, zcA_s, zcD_s, zcF_s, zth_n, zth_t, zrt_s, zQ_l, zQ_r, decide_false, Bool.false_and]; rfl
  · have b : lo ≤ v := Int64.not_lt.mp a
    by_cases d : hi < v
    · have f : ¬ v ≤ hi := Int64.not_le.mpr d
      simp only [a, b, d, f, false_or, or_false, true_or, or_true, false_and, and_false, not_false_eq_true, not_true_eq_false, and_self, true_and, and_true, if_true, if_false, ite_true, ite_false, zmp_s, zlt_s, zcV_s, zcI_s, zcJ_s, zcA_s, zcD_s, zcF_s, zth_n, zth_t, zrt_s, zQ_l, zQ_r, decide_false, Bool.and_false]; rfl
    · have f : v ≤ hi := Int64.not_lt.mp d
      simp only [a, b, d, f, false_or, or_false, true_or, or_true, false_and, and_false, not_false_eq_true, not_true_eq_false, and_self, true_and, and_true, if_true, if_false, ite_true, ite_false, zmp_s, zlt_s, zcV_s, zcI_s, zcJ_s, zcA_s, zcD_s, zcF_s, zth_n, zth_t, zrt_s, zQ_l, zQ_r, decide_true, Bool.and_true]; rfl
theorem in_t {r n : Nat} (hr : r < n) (hn : n < 2 ^ 31) (h : zm_H) : sX6_in [.long (nI r).toInt64, .long (0 : Int64), .long (nI n - (1 : Int32)).toInt64] h = some (.inl (some (.int 1)), h) := by
  have e : nI n - (1 : Int32) = nI (n - 1) := pk_sub (b := 1) (by omega)
  rw [in_G, e, nI_l (show r < 2 ^ 31 by omega), nI_l (show n - 1 < 2 ^ 31 by omega)]
  have e1 : (0 : Int64) ≤ lN r := by
    show lN 0 ≤ lN r
    rw [pk_lLE (by omega) (by omega)]; omega
  have e2 : lN r ≤ lN (n - 1) := by rw [pk_lLE (by omega) (by omega)]; omega
  simp only [e1, e2, decide_true, Bool.and_true]; rfl
theorem in_l {r n : Nat} {hi : Int64} (hr : r ≤ n) (hn : n < 2 ^ 31) (e : hi = lN n) (h : zm_H) : sX6_in [.long (nI r).toInt64, .long (0 : Int64), .long hi] h = some (.inl (some (.int 1)), h) := by
  subst e
  rw [in_G, nI_l (show r < 2 ^ 31 by omega)]
  have e1 : (0 : Int64) ≤ lN r := by
    show lN 0 ≤ lN r
    rw [pk_lLE (by omega) (by omega)]; omega
  have e2 : lN r ≤ lN n := by rw [pk_lLE (by omega) (by omega)]; omega
  simp only [e1, e2, decide_true, Bool.and_true]; rfl
theorem in_f {x : Int32} {n : Nat} {hi : Int64} (hn : n < 2 ^ 31) (hx : x < 0 ∨ nI n ≤ x) (e : hi.toInt = (n : Int) - 1) (h : zm_H) : sX6_in [.long x.toInt64, .long (0 : Int64), .long hi] h = some (.inl (some (.int 0)), h) := by
  rw [in_G]
  have w : (decide ((0 : Int64) ≤ x.toInt64) && decide (x.toInt64 ≤ hi)) = false := by
    by_cases a : x < 0
    · have : ¬ (0 : Int64) ≤ x.toInt64 := by
        rw [Int64.le_iff_toInt_le, Int32.toInt_toInt64]
        have := Int32.lt_iff_toInt_lt.mp a
        have z : (0 : Int32).toInt = 0 := rfl
        have z2 : (0 : Int64).toInt = 0 := rfl
        omega
      simp [this]
    · obtain ⟨j, hj, rfl⟩ := nI_of a
      have q : n ≤ j := by
        rcases hx with q | q
        · exact absurd q a
        · exact (nI_leI hn hj).mp q
      have : ¬ (nI j).toInt64 ≤ hi := by
        rw [Int64.le_iff_toInt_le, Int32.toInt_toInt64, nI_toInt hj]
        omega
      simp [this]
  rw [w]; rfl
theorem m1_toInt {n : Nat} (hn : n < 2 ^ 31) : ((nI n - (1 : Int32)).toInt64).toInt = (n : Int) - 1 := by
  rw [Int32.toInt_toInt64]
  cases n with
  | zero => rfl
  | succ k =>
    have e : nI (k + 1) - (1 : Int32) = nI (k + 1 - 1) := pk_sub (b := 1) (by omega)
    rw [e, nI_toInt (by omega)]; omega
theorem r_has {s k : Nat} (hs : s < 2 ^ 31) (hk : k < 32) (h : zm_H) : sX6_has [.int (nI s), .int (nI k)] h = some (.inl (some (.int (zb (s.testBit k)))), h) := by
  refine zsem_eq (Nat.le_of_ble_eq_true rfl) (zTo_of gX6_has_0 ?_)
  simp only [nx_bit hs hk, zb_1]
  cases s.testBit k <;> rfl
-- passes
section
variable {h : zm_H} {q : Nat}
theorem p3_t (m0 : moS h q) : sX6_passes3 [.ref 125, .int 1, .int 1, .int 1] h = some (.inl (some (.int 1)), zsI h 125 0 0) := by
  refine zsem_eq (Nat.le_of_ble_eq_true rfl) (zTo_of gX6_passes3_0 ?_)
  simp only [m0.1, K_sI, I_sIs, zput_self, i10, zmp_s, zlt_s, zcV_s, zcI_s, zcJ_s, zcA_s, zcD_s, zcF_s, zth_n, zth_t, zrt_s, zQ_l, zQ_r, false_or, or_false, true_or, or_true, false_and, and_false, not_false_eq_true, not_true_eq_false, and_self, true_and, and_true, if_true, if_false, ite_true, ite_false, zgd_t]
theorem p3_1 (m0 : moS h q) (y z : Int32) : sX6_passes3 [.ref 125, .int 0, .int y, .int z] h = some (.inl (some (.int 0)), zsI h 125 0 1) := by
  refine zsem_eq (Nat.le_of_ble_eq_true rfl) (zTo_of gX6_passes3_0 ?_)
  simp only [m0.1, K_sI, I_sIs, zput_self, i10, zmp_s, zlt_s, zcV_s, zcI_s, zcJ_s, zcA_s, zcD_s, zcF_s, zth_n, zth_t, zrt_s, zQ_l, zQ_r, false_or, or_false, true_or, or_true, false_and, and_false, not_false_eq_true, not_true_eq_false, and_self, true_and, and_true, if_true, if_false, ite_true, ite_false, zgd_t]
theorem p3_2 (m0 : moS h q) (z : Int32) : sX6_passes3 [.ref 125, .int 1, .int 0, .int z] h = some (.inl (some (.int 0)), zsI h 125 0 2) := by
  have i20 : ((2 : Int32) = 0) = False := eq_false (fun e => nI_ne0 (n := 2) (by omega) (by omega) e)
  refine zsem_eq (Nat.le_of_ble_eq_true rfl) (zTo_of gX6_passes3_0 ?_)
  simp only [m0.1, K_sI, I_sIs, zput_self, i10, i20, zmp_s, zlt_s, zcV_s, zcI_s, zcJ_s, zcA_s, zcD_s, zcF_s, zth_n, zth_t, zrt_s, zQ_l, zQ_r, false_or, or_false, true_or, or_true, false_and, and_false, not_false_eq_true, not_true_eq_false, and_self, true_and, and_true, if_true, if_false, ite_true, ite_false, zgd_t]
theorem p3_3 (m0 : moS h q) : sX6_passes3 [.ref 125, .int 1, .int 1, .int 0] h = some (.inl (some (.int 0)), zsI h 125 0 3) := by
  have i30 : ((3 : Int32) = 0) = False := eq_false (fun e => nI_ne0 (n := 3) (by omega) (by omega) e)
  refine zsem_eq (Nat.le_of_ble_eq_true rfl) (zTo_of gX6_passes3_0 ?_)
  simp only [m0.1, K_sI, I_sIs, zput_self, i10, i30, zmp_s, zlt_s, zcV_s, zcI_s, zcJ_s, zcA_s, zcD_s, zcF_s, zth_n, zth_t, zrt_s, zQ_l, zQ_r, false_or, or_false, true_or, or_true, false_and, and_false, not_false_eq_true, not_true_eq_false, and_self, true_and, and_true, if_true, if_false, ite_true, ite_false, zgd_t]
theorem p2_t (m0 : moS h q) : sX6_passes2 [.ref 125, .int 1, .int 1] h = some (.inl (some (.int 1)), zsI h 125 0 0) := by
  refine zsem_eq (Nat.le_of_ble_eq_true rfl) (zTo_of gX6_passes2_0 ?_)
  simp only [m0.1, p3_t m0, i10, zmp_s, zlt_s, zcV_s, zcI_s, zcJ_s, zcA_s, zcD_s, zcF_s, zth_n, zth_t, zrt_s, zQ_l, zQ_r, false_or, or_false, true_or, or_true, false_and, and_false, not_false_eq_true, not_true_eq_false, and_self, true_and, and_true, if_true, if_false, ite_true, ite_false, zgd_t, zrt_s]
theorem p2_1 (m0 : moS h q) (y : Int32) : sX6_passes2 [.ref 125, .int 0, .int y] h = some (.inl (some (.int 0)), zsI h 125 0 1) := by
  refine zsem_eq (Nat.le_of_ble_eq_true rfl) (zTo_of gX6_passes2_0 ?_)
  simp only [m0.1, p3_1 m0, zmp_s, zlt_s, zcV_s, zcI_s, zcJ_s, zcA_s, zcD_s, zcF_s, zth_n, zth_t, zrt_s, zQ_l, zQ_r, false_or, or_false, true_or, or_true, false_and, and_false, not_false_eq_true, not_true_eq_false, and_self, true_and, and_true, if_true, if_false, ite_true, ite_false, zgd_t, zrt_s]
theorem p2_2 (m0 : moS h q) : sX6_passes2 [.ref 125, .int 1, .int 0] h = some (.inl (some (.int 0)), zsI h 125 0 2) := by
  refine zsem_eq (Nat.le_of_ble_eq_true rfl) (zTo_of gX6_passes2_0 ?_)
  simp only [m0.1, p3_2 m0, zmp_s, zlt_s, zcV_s, zcI_s, zcJ_s, zcA_s, zcD_s, zcF_s, zth_n, zth_t, zrt_s, zQ_l, zQ_r, false_or, or_false, true_or, or_true, false_and, and_false, not_false_eq_true, not_true_eq_false, and_self, true_and, and_true, if_true, if_false, ite_true, ite_false, zgd_t, zrt_s]
theorem p1_t (m0 : moS h q) : sX6_passes [.ref 125, .int 1] h = some (.inl (some (.int 1)), zsI h 125 0 0) := by
  refine zsem_eq (Nat.le_of_ble_eq_true rfl) (zTo_of gX6_passes_0 ?_)
  simp only [m0.1, p3_t m0, i10, zmp_s, zlt_s, zcV_s, zcI_s, zcJ_s, zcA_s, zcD_s, zcF_s, zth_n, zth_t, zrt_s, zQ_l, zQ_r, false_or, or_false, true_or, or_true, false_and, and_false, not_false_eq_true, not_true_eq_false, and_self, true_and, and_true, if_true, if_false, ite_true, ite_false, zgd_t, zrt_s]
theorem p1_f (m0 : moS h q) : sX6_passes [.ref 125, .int 0] h = some (.inl (some (.int 0)), zsI h 125 0 1) := by
  refine zsem_eq (Nat.le_of_ble_eq_true rfl) (zTo_of gX6_passes_0 ?_)
  simp only [m0.1, p3_1 m0, zmp_s, zlt_s, zcV_s, zcI_s, zcJ_s, zcA_s, zcD_s, zcF_s, zth_n, zth_t, zrt_s, zQ_l, zQ_r, false_or, or_false, true_or, or_true, false_and, and_false, not_false_eq_true, not_true_eq_false, and_self, true_and, and_true, if_true, if_false, ite_true, ite_false, zgd_t, zrt_s]
theorem r_thrown (m0 : moS h q) : sX6_thrown [.ref 125] h = some (.inl (some (.int (zI h 125 0))), h) := by
  refine zsem_eq (Nat.le_of_ble_eq_true rfl) (zTo_of gX6_thrown_0 ?_)
  simp only [m0.1, zmp_s, zlt_s, zcV_s, zcI_s, zcJ_s, zcA_s, zcD_s, zcF_s, zth_n, zth_t, zrt_s, zQ_l, zQ_r, false_or, or_false, true_or, or_true, false_and, and_false, not_false_eq_true, not_true_eq_false, and_self, true_and, and_true, if_true, if_false, ite_true, ite_false, zgd_t]
end
-- the level's numbers
theorem ix16_0 (r : Nat) : (16 : Int32) + (3 : Int32) * nI r + 0 = nI (16 + 3 * r) := by
  show nI 16 + nI 3 * nI r + nI 0 = _
  rw [pk_mul, nI_add, nI_add, Nat.add_zero]
theorem ix16_1 (r : Nat) : (16 : Int32) + (3 : Int32) * nI r + 1 = nI (17 + 3 * r) := by
  show nI 16 + nI 3 * nI r + nI 1 = _
  rw [pk_mul, nI_add, nI_add]; congr 1; omega
theorem ix16_2 (r : Nat) : (16 : Int32) + (3 : Int32) * nI r + 2 = nI (18 + 3 * r) := by
  show nI 16 + nI 3 * nI r + nI 2 = _
  rw [pk_mul, nI_add, nI_add]; congr 1; omega
theorem ix49_0 (r : Nat) : (49 : Int32) + (5 : Int32) * nI r + 0 = nI (49 + 5 * r) := by
  show nI 49 + nI 5 * nI r + nI 0 = _
  rw [pk_mul, nI_add, nI_add, Nat.add_zero]
theorem ix49_1 (r : Nat) : (49 : Int32) + (5 : Int32) * nI r + 1 = nI (50 + 5 * r) := by
  show nI 49 + nI 5 * nI r + nI 1 = _
  rw [pk_mul, nI_add, nI_add]; congr 1; omega
theorem ix49_2 (r : Nat) : (49 : Int32) + (5 : Int32) * nI r + 2 = nI (51 + 5 * r) := by
  show nI 49 + nI 5 * nI r + nI 2 = _
  rw [pk_mul, nI_add, nI_add]; congr 1; omega
theorem ix49_3 (r : Nat) : (49 : Int32) + (5 : Int32) * nI r + 3 = nI (52 + 5 * r) := by
  show nI 49 + nI 5 * nI r + nI 3 = _
  rw [pk_mul, nI_add, nI_add]; congr 1; omega
theorem ix49_4 (r : Nat) : (49 : Int32) + (5 : Int32) * nI r + 4 = nI (53 + 5 * r) := by
  show nI 49 + nI 5 * nI r + nI 4 = _
  rw [pk_mul, nI_add, nI_add]; congr 1; omega
theorem ix5 (k : Nat) : (5 : Int32) + nI k = nI (5 + k) := nI_add 5 k
section
variable {h : zm_H} {q : Nat} {N : zLv}
theorem r_rooms (m0 : moS h q) (mL : ML h q N) : sX6_rooms [.ref 125] h = some (.inl (some (.int (nI (N 0)))), h) := by
  obtain ⟨t0, t3, tq, t1, t2, t4, t5, t6, t7, t8, t9, t10, t21, t22, t23, t25, n6, n7, n8, n9, n10, n11, n12, n13, n14, n15, n16, n17, n18⟩ := m0
  refine zsem_eq (Nat.le_of_ble_eq_true rfl) (zTo_of gX6_rooms_0 ?_)
  simp only [t0, t3, tq, c_0, p_0, mL.at (i := 0) (by omega) (by omega), zmp_s, zlt_s, zcV_s, zcI_s, zcJ_s, zcA_s, zcD_s, zcF_s, zth_n, zth_t, zrt_s, zQ_l, zQ_r, false_or, or_false, true_or, or_true, false_and, and_false, not_false_eq_true, not_true_eq_false, and_self, true_and, and_true, if_true, if_false, ite_true, ite_false, zgd_t, show ¬ 149 ≤ 0 by omega]
theorem r_doors (m0 : moS h q) (mL : ML h q N) : sX6_doors [.ref 125] h = some (.inl (some (.int (nI (N 1)))), h) := by
  obtain ⟨t0, t3, tq, t1, t2, t4, t5, t6, t7, t8, t9, t10, t21, t22, t23, t25, n6, n7, n8, n9, n10, n11, n12, n13, n14, n15, n16, n17, n18⟩ := m0
  refine zsem_eq (Nat.le_of_ble_eq_true rfl) (zTo_of gX6_doors_0 ?_)
  simp only [t0, t3, tq, c_1, p_1, mL.at (i := 1) (by omega) (by omega), zmp_s, zlt_s, zcV_s, zcI_s, zcJ_s, zcA_s, zcD_s, zcF_s, zth_n, zth_t, zrt_s, zQ_l, zQ_r, false_or, or_false, true_or, or_true, false_and, and_false, not_false_eq_true, not_true_eq_false, and_self, true_and, and_true, if_true, if_false, ite_true, ite_false, zgd_t, show ¬ 149 ≤ 1 by omega]
theorem r_whole (m0 : moS h q) (mL : ML h q N) (h0 : N 0 ≤ 11) : sX6_whole [.ref 125] h = some (.inl (some (.int (nI (2 ^ N 0 - 1)))), h) := by
  have e : nI (2 ^ N 0) - (1 : Int32) = nI (2 ^ N 0 - 1) := pk_sub (b := 1) Nat.one_le_two_pow
  refine zsem_eq (Nat.le_of_ble_eq_true rfl) (zTo_of gX6_whole_0 ?_)
  simp only [m0.1, r_rooms m0 mL, nx_shl1 (show N 0 < 32 by omega), e, zmp_s, zlt_s, zcV_s, zcI_s, zcJ_s, zcA_s, zcD_s, zcF_s, zth_n, zth_t, zrt_s, zQ_l, zQ_r, false_or, or_false, true_or, or_true, false_and, and_false, not_false_eq_true, not_true_eq_false, and_self, true_and, and_true, if_true, if_false, ite_true, ite_false, zgd_t]
theorem r_ofRoom0 (m0 : moS h q) (mL : ML h q N) {r : Nat} (hr : r < 11) : sX6_ofRoom [.ref 125, .int (nI r), .int 0] h = some (.inl (some (.int (nI (N (16 + 3 * r))))), h) := by
  obtain ⟨t0, t3, tq, t1, t2, t4, t5, t6, t7, t8, t9, t10, t21, t22, t23, t25, n6, n7, n8, n9, n10, n11, n12, n13, n14, n15, n16, n17, n18⟩ := m0
  refine zsem_eq (Nat.le_of_ble_eq_true rfl) (zTo_of gX6_ofRoom_0 ?_)
  simp only [t0, t3, tq, ix16_0, nI_clamp (show 16 + 3 * r < 2 ^ 31 by omega), nI_lt0 (show 16 + 3 * r < 2 ^ 31 by omega), mL.at (show 16 + 3 * r < 149 by omega) (by omega), zmp_s, zlt_s, zcV_s, zcI_s, zcJ_s, zcA_s, zcD_s, zcF_s, zth_n, zth_t, zrt_s, zQ_l, zQ_r, false_or, or_false, true_or, or_true, false_and, and_false, not_false_eq_true, not_true_eq_false, and_self, true_and, and_true, if_true, if_false, ite_true, ite_false, zgd_t, show ¬ 149 ≤ 16 + 3 * r by omega]
theorem r_ofRoom1 (m0 : moS h q) (mL : ML h q N) {r : Nat} (hr : r < 11) : sX6_ofRoom [.ref 125, .int (nI r), .int 1] h = some (.inl (some (.int (nI (N (17 + 3 * r))))), h) := by
  obtain ⟨t0, t3, tq, t1, t2, t4, t5, t6, t7, t8, t9, t10, t21, t22, t23, t25, n6, n7, n8, n9, n10, n11, n12, n13, n14, n15, n16, n17, n18⟩ := m0
  refine zsem_eq (Nat.le_of_ble_eq_true rfl) (zTo_of gX6_ofRoom_0 ?_)
  simp only [t0, t3, tq, ix16_1, nI_clamp (show 17 + 3 * r < 2 ^ 31 by omega), nI_lt0 (show 17 + 3 * r < 2 ^ 31 by omega), mL.at (show 17 + 3 * r < 149 by omega) (by omega), zmp_s, zlt_s, zcV_s, zcI_s, zcJ_s, zcA_s, zcD_s, zcF_s, zth_n, zth_t, zrt_s, zQ_l, zQ_r, false_or, or_false, true_or, or_true, false_and, and_false, not_false_eq_true, not_true_eq_false, and_self, true_and, and_true, if_true, if_false, ite_true, ite_false, zgd_t, show ¬ 149 ≤ 17 + 3 * r by omega]
theorem r_ofRoom2 (m0 : moS h q) (mL : ML h q N) {r : Nat} (hr : r < 11) : sX6_ofRoom [.ref 125, .int (nI r), .int 2] h = some (.inl (some (.int (nI (N (18 + 3 * r))))), h) := by
  obtain ⟨t0, t3, tq, t1, t2, t4, t5, t6, t7, t8, t9, t10, t21, t22, t23, t25, n6, n7, n8, n9, n10, n11, n12, n13, n14, n15, n16, n17, n18⟩ := m0
  refine zsem_eq (Nat.le_of_ble_eq_true rfl) (zTo_of gX6_ofRoom_0 ?_)
  simp only [t0, t3, tq, ix16_2, nI_clamp (show 18 + 3 * r < 2 ^ 31 by omega), nI_lt0 (show 18 + 3 * r < 2 ^ 31 by omega), mL.at (show 18 + 3 * r < 149 by omega) (by omega), zmp_s, zlt_s, zcV_s, zcI_s, zcJ_s, zcA_s, zcD_s, zcF_s, zth_n, zth_t, zrt_s, zQ_l, zQ_r, false_or, or_false, true_or, or_true, false_and, and_false, not_false_eq_true, not_true_eq_false, and_self, true_and, and_true, if_true, if_false, ite_true, ite_false, zgd_t, show ¬ 149 ≤ 18 + 3 * r by omega]
theorem r_ofDoor0 (m0 : moS h q) (mL : ML h q N) {d : Nat} (hd : d < 20) : sX6_ofDoor [.ref 125, .int (nI d), .int 0] h = some (.inl (some (.int (nI (N (49 + 5 * d))))), h) := by
  obtain ⟨t0, t3, tq, t1, t2, t4, t5, t6, t7, t8, t9, t10, t21, t22, t23, t25, n6, n7, n8, n9, n10, n11, n12, n13, n14, n15, n16, n17, n18⟩ := m0
  refine zsem_eq (Nat.le_of_ble_eq_true rfl) (zTo_of gX6_ofDoor_0 ?_)
  simp only [t0, t3, tq, ix49_0, nI_clamp (show 49 + 5 * d < 2 ^ 31 by omega), nI_lt0 (show 49 + 5 * d < 2 ^ 31 by omega), mL.at (show 49 + 5 * d < 149 by omega) (by omega), zmp_s, zlt_s, zcV_s, zcI_s, zcJ_s, zcA_s, zcD_s, zcF_s, zth_n, zth_t, zrt_s, zQ_l, zQ_r, false_or, or_false, true_or, or_true, false_and, and_false, not_false_eq_true, not_true_eq_false, and_self, true_and, and_true, if_true, if_false, ite_true, ite_false, zgd_t, show ¬ 149 ≤ 49 + 5 * d by omega]
theorem r_ofDoor1 (m0 : moS h q) (mL : ML h q N) {d : Nat} (hd : d < 20) : sX6_ofDoor [.ref 125, .int (nI d), .int 1] h = some (.inl (some (.int (nI (N (50 + 5 * d))))), h) := by
  obtain ⟨t0, t3, tq, t1, t2, t4, t5, t6, t7, t8, t9, t10, t21, t22, t23, t25, n6, n7, n8, n9, n10, n11, n12, n13, n14, n15, n16, n17, n18⟩ := m0
  refine zsem_eq (Nat.le_of_ble_eq_true rfl) (zTo_of gX6_ofDoor_0 ?_)
  simp only [t0, t3, tq, ix49_1, nI_clamp (show 50 + 5 * d < 2 ^ 31 by omega), nI_lt0 (show 50 + 5 * d < 2 ^ 31 by omega), mL.at (show 50 + 5 * d < 149 by omega) (by omega), zmp_s, zlt_s, zcV_s, zcI_s, zcJ_s, zcA_s, zcD_s, zcF_s, zth_n, zth_t, zrt_s, zQ_l, zQ_r, false_or, or_false, true_or, or_true, false_and, and_false, not_false_eq_true, not_true_eq_false, and_self, true_and, and_true, if_true, if_false, ite_true, ite_false, zgd_t, show ¬ 149 ≤ 50 + 5 * d by omega]
theorem r_ofDoor2 (m0 : moS h q) (mL : ML h q N) {d : Nat} (hd : d < 20) : sX6_ofDoor [.ref 125, .int (nI d), .int 2] h = some (.inl (some (.int (nI (N (51 + 5 * d))))), h) := by
  obtain ⟨t0, t3, tq, t1, t2, t4, t5, t6, t7, t8, t9, t10, t21, t22, t23, t25, n6, n7, n8, n9, n10, n11, n12, n13, n14, n15, n16, n17, n18⟩ := m0
  refine zsem_eq (Nat.le_of_ble_eq_true rfl) (zTo_of gX6_ofDoor_0 ?_)
  simp only [t0, t3, tq, ix49_2, nI_clamp (show 51 + 5 * d < 2 ^ 31 by omega), nI_lt0 (show 51 + 5 * d < 2 ^ 31 by omega), mL.at (show 51 + 5 * d < 149 by omega) (by omega), zmp_s, zlt_s, zcV_s, zcI_s, zcJ_s, zcA_s, zcD_s, zcF_s, zth_n, zth_t, zrt_s, zQ_l, zQ_r, false_or, or_false, true_or, or_true, false_and, and_false, not_false_eq_true, not_true_eq_false, and_self, true_and, and_true, if_true, if_false, ite_true, ite_false, zgd_t, show ¬ 149 ≤ 51 + 5 * d by omega]
theorem r_ofDoor3 (m0 : moS h q) (mL : ML h q N) {d : Nat} (hd : d < 20) : sX6_ofDoor [.ref 125, .int (nI d), .int 3] h = some (.inl (some (.int (nI (N (52 + 5 * d))))), h) := by
  obtain ⟨t0, t3, tq, t1, t2, t4, t5, t6, t7, t8, t9, t10, t21, t22, t23, t25, n6, n7, n8, n9, n10, n11, n12, n13, n14, n15, n16, n17, n18⟩ := m0
  refine zsem_eq (Nat.le_of_ble_eq_true rfl) (zTo_of gX6_ofDoor_0 ?_)
  simp only [t0, t3, tq, ix49_3, nI_clamp (show 52 + 5 * d < 2 ^ 31 by omega), nI_lt0 (show 52 + 5 * d < 2 ^ 31 by omega), mL.at (show 52 + 5 * d < 149 by omega) (by omega), zmp_s, zlt_s, zcV_s, zcI_s, zcJ_s, zcA_s, zcD_s, zcF_s, zth_n, zth_t, zrt_s, zQ_l, zQ_r, false_or, or_false, true_or, or_true, false_and, and_false, not_false_eq_true, not_true_eq_false, and_self, true_and, and_true, if_true, if_false, ite_true, ite_false, zgd_t, show ¬ 149 ≤ 52 + 5 * d by omega]
theorem r_ofDoor4 (m0 : moS h q) (mL : ML h q N) {d : Nat} (hd : d < 20) : sX6_ofDoor [.ref 125, .int (nI d), .int 4] h = some (.inl (some (.int (nI (N (53 + 5 * d))))), h) := by
  obtain ⟨t0, t3, tq, t1, t2, t4, t5, t6, t7, t8, t9, t10, t21, t22, t23, t25, n6, n7, n8, n9, n10, n11, n12, n13, n14, n15, n16, n17, n18⟩ := m0
  refine zsem_eq (Nat.le_of_ble_eq_true rfl) (zTo_of gX6_ofDoor_0 ?_)
  simp only [t0, t3, tq, ix49_4, nI_clamp (show 53 + 5 * d < 2 ^ 31 by omega), nI_lt0 (show 53 + 5 * d < 2 ^ 31 by omega), mL.at (show 53 + 5 * d < 149 by omega) (by omega), zmp_s, zlt_s, zcV_s, zcI_s, zcJ_s, zcA_s, zcD_s, zcF_s, zth_n, zth_t, zrt_s, zQ_l, zQ_r, false_or, or_false, true_or, or_true, false_and, and_false, not_false_eq_true, not_true_eq_false, and_self, true_and, and_true, if_true, if_false, ite_true, ite_false, zgd_t, show ¬ 149 ≤ 53 + 5 * d by omega]
theorem r_isRoom (m0 : moS h q) (mL : ML h q N) (h0 : N 0 ≤ 11) {r : Nat} (hr : r < N 0) : sX6_isRoom [.ref 125, .int (nI r)] h = some (.inl (some (.int 1)), h) := by
  refine zsem_eq (Nat.le_of_ble_eq_true rfl) (zTo_of gX6_isRoom_0 ?_)
  simp only [m0.1, r_rooms m0 mL, in_t hr (show N 0 < 2 ^ 31 by omega), zmp_s, zlt_s, zcV_s, zcI_s, zcJ_s, zcA_s, zcD_s, zcF_s, zth_n, zth_t, zrt_s, zQ_l, zQ_r, false_or, or_false, true_or, or_true, false_and, and_false, not_false_eq_true, not_true_eq_false, and_self, true_and, and_true, if_true, if_false, ite_true, ite_false, zgd_t]
theorem r_isRoomX (m0 : moS h q) (mL : ML h q N) (h0 : N 0 ≤ 11) {x : Int32} (hx : x < 0 ∨ nI (N 0) ≤ x) : sX6_isRoom [.ref 125, .int x] h = some (.inl (some (.int 0)), h) := by
  refine zsem_eq (Nat.le_of_ble_eq_true rfl) (zTo_of gX6_isRoom_0 ?_)
  simp only [m0.1, r_rooms m0 mL, in_f (show N 0 < 2 ^ 31 by omega) hx (m1_toInt (show N 0 < 2 ^ 31 by omega)), zmp_s, zlt_s, zcV_s, zcI_s, zcJ_s, zcA_s, zcD_s, zcF_s, zth_n, zth_t, zrt_s, zQ_l, zQ_r, false_or, or_false, true_or, or_true, false_and, and_false, not_false_eq_true, not_true_eq_false, and_self, true_and, and_true, if_true, if_false, ite_true, ite_false, zgd_t]
theorem r_isDoor (m0 : moS h q) (mL : ML h q N) (h0 : N 1 ≤ 20) {r : Nat} (hr : r < N 1) : sX6_isDoor [.ref 125, .int (nI r)] h = some (.inl (some (.int 1)), h) := by
  refine zsem_eq (Nat.le_of_ble_eq_true rfl) (zTo_of gX6_isDoor_0 ?_)
  simp only [m0.1, r_doors m0 mL, in_t hr (show N 1 < 2 ^ 31 by omega), zmp_s, zlt_s, zcV_s, zcI_s, zcJ_s, zcA_s, zcD_s, zcF_s, zth_n, zth_t, zrt_s, zQ_l, zQ_r, false_or, or_false, true_or, or_true, false_and, and_false, not_false_eq_true, not_true_eq_false, and_self, true_and, and_true, if_true, if_false, ite_true, ite_false, zgd_t]
theorem r_isDoorX (m0 : moS h q) (mL : ML h q N) (h0 : N 1 ≤ 20) {x : Int32} (hx : x < 0 ∨ nI (N 1) ≤ x) : sX6_isDoor [.ref 125, .int x] h = some (.inl (some (.int 0)), h) := by
  refine zsem_eq (Nat.le_of_ble_eq_true rfl) (zTo_of gX6_isDoor_0 ?_)
  simp only [m0.1, r_doors m0 mL, in_f (show N 1 < 2 ^ 31 by omega) hx (m1_toInt (show N 1 < 2 ^ 31 by omega)), zmp_s, zlt_s, zcV_s, zcI_s, zcJ_s, zcA_s, zcD_s, zcF_s, zth_n, zth_t, zrt_s, zQ_l, zQ_r, false_or, or_false, true_or, or_true, false_and, and_false, not_false_eq_true, not_true_eq_false, and_self, true_and, and_true, if_true, if_false, ite_true, ite_false, zgd_t]
theorem r_isKey {k : Nat} (hk : k < 8) (h : zm_H) : sX6_isKey [.int (nI k)] h = some (.inl (some (.int 1)), h) := by
  refine zsem_eq (Nat.le_of_ble_eq_true rfl) (zTo_of gX6_isKey_0 ?_)
  simp only [in_l (hi := 7) (show k ≤ 7 by omega) (by omega) rfl, zmp_s, zlt_s, zcV_s, zcI_s, zcJ_s, zcA_s, zcD_s, zcF_s, zth_n, zth_t, zrt_s, zQ_l, zQ_r, false_or, or_false, true_or, or_true, false_and, and_false, not_false_eq_true, not_true_eq_false, and_self, true_and, and_true, if_true, if_false, ite_true, ite_false, zgd_t]
theorem r_isKeyX {x : Int32} (hx : x < 0 ∨ nI 8 ≤ x) (h : zm_H) : sX6_isKey [.int x] h = some (.inl (some (.int 0)), h) := by
  refine zsem_eq (Nat.le_of_ble_eq_true rfl) (zTo_of gX6_isKey_0 ?_)
  simp only [in_f (hi := 7) (show 8 < 2 ^ 31 by omega) hx rfl, zmp_s, zlt_s, zcV_s, zcI_s, zcJ_s, zcA_s, zcD_s, zcF_s, zth_n, zth_t, zrt_s, zQ_l, zQ_r, false_or, or_false, true_or, or_true, false_and, and_false, not_false_eq_true, not_true_eq_false, and_self, true_and, and_true, if_true, if_false, ite_true, ite_false, zgd_t]
theorem r_walkedAt (m0 : moS h q) (mL : ML h q N) {k : Nat} (hk : k < 100) : sX6_walkedAt [.ref 125, .int (nI k)] h = some (.inl (some (.int (nI (N (5 + k))))), h) := by
  obtain ⟨t0, t3, tq, t1, t2, t4, t5, t6, t7, t8, t9, t10, t21, t22, t23, t25, n6, n7, n8, n9, n10, n11, n12, n13, n14, n15, n16, n17, n18⟩ := m0
  refine zsem_eq (Nat.le_of_ble_eq_true rfl) (zTo_of gX6_walkedAt_0 ?_)
  simp only [t0, t3, tq, ix5, nI_clamp (show 5 + k < 2 ^ 31 by omega), nI_lt0 (show 5 + k < 2 ^ 31 by omega), mL.at (show 5 + k < 149 by omega) (by omega), zmp_s, zlt_s, zcV_s, zcI_s, zcJ_s, zcA_s, zcD_s, zcF_s, zth_n, zth_t, zrt_s, zQ_l, zQ_r, false_or, or_false, true_or, or_true, false_and, and_false, not_false_eq_true, not_true_eq_false, and_self, true_and, and_true, if_true, if_false, ite_true, ite_false, zgd_t, show ¬ 149 ≤ 5 + k by omega]
theorem r_lastRoom (m0 : moS h q) (mL : ML h q N) (h4 : N 4 ≤ 11) (h1 : 1 ≤ N 4) : sX6_lastRoom [.ref 125] h = some (.inl (some (.int (nI (N (4 + N 4))))), h) := by
  have w := r_walkedAt m0 mL (show N 4 - 1 < 100 by omega)
  have e : nI (N 4) - (1 : Int32) = nI (N 4 - 1) := pk_sub (b := 1) h1
  obtain ⟨t0, t3, tq, t1, t2, t4, t5, t6, t7, t8, t9, t10, t21, t22, t23, t25, n6, n7, n8, n9, n10, n11, n12, n13, n14, n15, n16, n17, n18⟩ := m0
  rw [show 5 + (N 4 - 1) = 4 + N 4 by omega] at w
  refine zsem_eq (Nat.le_of_ble_eq_true rfl) (zTo_of gX6_lastRoom_0 ?_)
  simp only [t0, t3, tq, c_4, p_4, mL.at (i := 4) (by omega) (by omega), e, w, zmp_s, zlt_s, zcV_s, zcI_s, zcJ_s, zcA_s, zcD_s, zcF_s, zth_n, zth_t, zrt_s, zQ_l, zQ_r, false_or, or_false, true_or, or_true, false_and, and_false, not_false_eq_true, not_true_eq_false, and_self, true_and, and_true, if_true, if_false, ite_true, ite_false, zgd_t, show ¬ 149 ≤ 4 by omega]
theorem r_walkSet (m0 : moS h q) (mL : ML h q N) (h4 : N 4 ≤ 11) (hw : ∀ k, k < N 4 → N (5 + k) < 32) : sX6_walkSet [.ref 125] h = some (.inl (some (.int (nI (nset N)))), h) := by
  have ww := fun k (hk : k < N 4) => r_walkedAt m0 mL (show k < 100 by omega)
  obtain ⟨t0, t3, tq, t1, t2, t4, t5, t6, t7, t8, t9, t10, t21, t22, t23, t25, n6, n7, n8, n9, n10, n11, n12, n13, n14, n15, n16, n17, n18⟩ := m0
  refine zsem_eq (Nat.le_of_ble_eq_true rfl) (zTo_of gX6_walkSet_0 (zTo_for (f := fun r => (4, [some (.ref 125), some (.int (nI (zfo (fun k acc => acc ||| 2 ^ N (5 + k)) 0 r))), some (.int (nI r))], [], h)) (N 4) 0 (Nat.zero_le _) (fun r _ hr => ?_) (zTo_of gX6_walkSet_4 ?_)))
  · obtain ⟨f1, f2, f3, f4⟩ := nI_for hr (by omega)
    simp only [gX6_walkSet_4, t0, t3, tq, c_4, p_4, mL.at (i := 4) (by omega) (by omega), f1, zfo_s, f4, ww r hr, nx_shl1 (hw r hr), nx_or, zmp_s, zlt_s, zcV_s, zcI_s, zcJ_s, zcA_s, zcD_s, zcF_s, zth_n, zth_t, zrt_s, zQ_l, zQ_r, false_or, or_false, true_or, or_true, false_and, and_false, not_false_eq_true, not_true_eq_false, and_self, true_and, and_true, if_true, if_false, ite_true, ite_false, zgd_t, show ¬ 149 ≤ 4 by omega]
  · simp only [t0, t3, tq, c_4, p_4, mL.at (i := 4) (by omega) (by omega), zgd_t, nI_le (Nat.le_refl _) (show N 4 < 2 ^ 31 by omega), zmp_s, zlt_s, zcV_s, zcI_s, zcJ_s, zcA_s, zcD_s, zcF_s, zth_n, zth_t, zrt_s, zQ_l, zQ_r, false_or, or_false, true_or, or_true, false_and, and_false, not_false_eq_true, not_true_eq_false, and_self, true_and, and_true, if_true, if_false, ite_true, ite_false, show ¬ 149 ≤ 4 by omega]
    rfl
theorem r_keysIn (m0 : moS h q) (mL : ML h q N) (hN : N 0 ≤ 11) {S : Nat} (hs : S < 2 ^ 31) : sX6_keysIn [.ref 125, .int (nI S)] h = some (.inl (some (.int (nI (nkeys N S)))), h) := by
  have ww := fun k (hk : k < N 0) => r_ofRoom0 m0 mL (show k < 11 by omega)
  have e0 : ∀ x, nI x ||| (0 : Int32) = nI x := fun x => by
    show nI x ||| nI 0 = _
    rw [nx_or, Nat.or_zero]
  refine zsem_eq (Nat.le_of_ble_eq_true rfl) (zTo_of gX6_keysIn_0 (zTo_for (f := fun r => (4, [some (.ref 125), some (.int (nI S)), some (.int (nI (zfo (fun r acc => if S.testBit r then acc ||| N (16 + 3 * r) else acc) 0 r))), some (.int (nI r))], [], h)) (N 0) 0 (Nat.zero_le _) (fun r _ hr => ?_) (zTo_of gX6_keysIn_4 ?_)))
  · obtain ⟨f1, f2, f3, f4⟩ := nI_for hr (by omega)
    simp only [gX6_keysIn_4, m0.1, r_rooms m0 mL, f1, r_has hs (show r < 32 by omega), zfo_s, f4, zb_0, ww r hr, nx_or, e0, zmp_s, zlt_s, zcV_s, zcI_s, zcJ_s, zcA_s, zcD_s, zcF_s, zth_n, zth_t, zrt_s, zQ_l, zQ_r, false_or, or_false, true_or, or_true, false_and, and_false, not_false_eq_true, not_true_eq_false, and_self, true_and, and_true, if_true, if_false, ite_true, ite_false, zgd_t]
    cases S.testBit r <;> simp
  · simp only [m0.1, r_rooms m0 mL, zgd_t, nI_le (Nat.le_refl _) (show N 0 < 2 ^ 31 by omega), zmp_s, zlt_s, zcV_s, zcI_s, zcJ_s, zcA_s, zcD_s, zcF_s, zth_n, zth_t, zrt_s, zQ_l, zQ_r, false_or, or_false, true_or, or_true, false_and, and_false, not_false_eq_true, not_true_eq_false, and_self, true_and, and_true, if_true, if_false, ite_true, ite_false]
    rfl
theorem r_coinsIn (m0 : moS h q) (mL : ML h q N) (hN : N 0 ≤ 11) {S : Nat} (hs : S < 2 ^ 31) : sX6_coinsIn [.ref 125, .int (nI S)] h = some (.inl (some (.int (nI (ncoins N S)))), h) := by
  have ww := fun k (hk : k < N 0) => r_ofRoom1 m0 mL (show k < 11 by omega)
  have e0 : ∀ x, nI x + (0 : Int32) = nI x := fun x => nI_add x 0
  refine zsem_eq (Nat.le_of_ble_eq_true rfl) (zTo_of gX6_coinsIn_0 (zTo_for (f := fun r => (4, [some (.ref 125), some (.int (nI S)), some (.int (nI (zfo (fun r acc => if S.testBit r then acc + N (17 + 3 * r) else acc) 0 r))), some (.int (nI r))], [], h)) (N 0) 0 (Nat.zero_le _) (fun r _ hr => ?_) (zTo_of gX6_coinsIn_4 ?_)))
  · obtain ⟨f1, f2, f3, f4⟩ := nI_for hr (by omega)
    simp only [gX6_coinsIn_4, m0.1, r_rooms m0 mL, f1, r_has hs (show r < 32 by omega), zfo_s, f4, zb_0, ww r hr, nI_add, e0, zmp_s, zlt_s, zcV_s, zcI_s, zcJ_s, zcA_s, zcD_s, zcF_s, zth_n, zth_t, zrt_s, zQ_l, zQ_r, false_or, or_false, true_or, or_true, false_and, and_false, not_false_eq_true, not_true_eq_false, and_self, true_and, and_true, if_true, if_false, ite_true, ite_false, zgd_t]
    cases S.testBit r <;> simp
  · simp only [m0.1, r_rooms m0 mL, zgd_t, nI_le (Nat.le_refl _) (show N 0 < 2 ^ 31 by omega), zmp_s, zlt_s, zcV_s, zcI_s, zcJ_s, zcA_s, zcD_s, zcF_s, zth_n, zth_t, zrt_s, zQ_l, zQ_r, false_or, or_false, true_or, or_true, false_and, and_false, not_false_eq_true, not_true_eq_false, and_self, true_and, and_true, if_true, if_false, ite_true, ite_false]
    rfl
theorem r_isOpen (m0 : moS h q) (mL : ML h q N) (hW : WB N) {d K C : Nat} (hd : d < N 1) (hK : K < 2 ^ 31) (hC : C < 2 ^ 31) : sX6_isOpen [.ref 125, .int (nI d), .int (nI K), .int (nI C)] h = some (.inl (some (.int (zb (nopen N d K C)))), h) := by
  obtain ⟨w0, w1, w4, wr, wd, ww⟩ := hW
  obtain ⟨d1, d2, d3, d4, d5, d6, d7⟩ := wd d hd
  have w2 := r_ofDoor2 m0 mL (show d < 20 by omega)
  have w3 := r_ofDoor3 m0 mL (show d < 20 by omega)
  refine zsem_eq (Nat.le_of_ble_eq_true rfl) (zTo_of gX6_isOpen_0 ?_)
  unfold nopen
  have e1 : (nI (N (51 + 5 * d)) = 1) = (N (51 + 5 * d) = 1) := propext (nI_eq (b := 1) (by omega) (by omega))
  have e2 : (nI (N (51 + 5 * d)) = 2) = (N (51 + 5 * d) = 2) := propext (nI_eq (b := 2) (by omega) (by omega))
  simp only [m0.1, w2, w3, e1, e2, nI_eq0 (show N (51 + 5 * d) < 2 ^ 31 by omega), nI_ltI hC (show N (52 + 5 * d) < 2 ^ 31 by omega), zmp_s, zlt_s, zcV_s, zcI_s, zcJ_s, zcA_s, zcD_s, zcF_s, zth_n, zth_t, zrt_s, zQ_l, zQ_r, false_or, or_false, true_or, or_true, false_and, and_false, not_false_eq_true, not_true_eq_false, and_self, true_and, and_true, if_true, if_false, ite_true, ite_false, zgd_t]
  by_cases q0 : N (51 + 5 * d) = 0
  · simp [q0, zQ, zb]
  · by_cases q1 : N (51 + 5 * d) = 1
    · simp only [q1, false_or, or_false, true_or, or_true, false_and, and_false, not_false_eq_true, not_true_eq_false, and_self, true_and, and_true, if_true, if_false, ite_true, ite_false, r_has hK (show N (52 + 5 * d) < 32 by have := d6 q1; omega), zb_0, zmp_s, zlt_s, zcV_s, zcI_s, zcJ_s, zcA_s, zcD_s, zcF_s, zth_n, zth_t, zrt_s, zQ_l, zQ_r, zgd_t]
      cases K.testBit (N (52 + 5 * d)) <;> simp [zQ, zb]
    · have q2 : N (51 + 5 * d) = 2 := by omega
      simp only [q2, false_or, or_false, true_or, or_true, false_and, and_false, not_false_eq_true, not_true_eq_false, and_self, true_and, and_true, if_true, if_false, ite_true, ite_false, zmp_s, zlt_s, zcV_s, zcI_s, zcJ_s, zcA_s, zcD_s, zcF_s, zth_n, zth_t, zrt_s, zQ_l, zQ_r]
      by_cases q3 : C < N (52 + 5 * d)
      · have q4 : ¬ N (52 + 5 * d) ≤ C := by omega
        simp [q3, q4, zQ, zb]
      · have q4 : N (52 + 5 * d) ≤ C := by omega
        simp [q3, q4, zQ, zb]
def nthr (N : zLv) (d a : Nat) : Option Nat := if N (49 + 5 * d) = a then some (N (50 + 5 * d)) else if N (50 + 5 * d) = a ∧ N (53 + 5 * d) = 0 then some (N (49 + 5 * d)) else none
theorem r_through (m0 : moS h q) (mL : ML h q N) (hW : WB N) {d a : Nat} (hd : d < N 1) (ha : a < 2 ^ 31) : sX6_through [.ref 125, .int (nI d), .int (nI a)] h = some (.inl (some (.int (oI (nthr N d a)))), h) := by
  obtain ⟨w0, w1, w4, wr, wd, ww⟩ := hW
  obtain ⟨d1, d2, d3, d4, d5, d6, d7⟩ := wd d hd
  have v0 := r_ofDoor0 m0 mL (show d < 20 by omega)
  have v1 := r_ofDoor1 m0 mL (show d < 20 by omega)
  have v4 := r_ofDoor4 m0 mL (show d < 20 by omega)
  refine zsem_eq (Nat.le_of_ble_eq_true rfl) (zTo_of gX6_through_0 ?_)
  simp only [m0.1, v0, v1, v4, nI_eq (show N (49 + 5 * d) < 2 ^ 31 by omega) ha, nI_eq (show N (50 + 5 * d) < 2 ^ 31 by omega) ha, nI_eq0 (show N (53 + 5 * d) < 2 ^ 31 by omega), zmp_s, zlt_s, zcV_s, zcI_s, zcJ_s, zcA_s, zcD_s, zcF_s, zth_n, zth_t, zrt_s, zQ_l, zQ_r, false_or, or_false, true_or, or_true, false_and, and_false, not_false_eq_true, not_true_eq_false, and_self, true_and, and_true, if_true, if_false, ite_true, ite_false, zgd_t]
  unfold nthr
  by_cases e1 : N (49 + 5 * d) = a
  · simp only [e1, false_or, or_false, true_or, or_true, false_and, and_false, not_false_eq_true, not_true_eq_false, and_self, true_and, and_true, if_true, if_false, ite_true, ite_false, zmp_s, zlt_s, zcV_s, zcI_s, zcJ_s, zcA_s, zcD_s, zcF_s, zth_n, zth_t, zrt_s, zQ_l, zQ_r]; rfl
  · by_cases e2 : N (50 + 5 * d) = a
    · by_cases e3 : N (53 + 5 * d) = 0
      · simp only [e1, e2, e3, false_or, or_false, true_or, or_true, false_and, and_false, not_false_eq_true, not_true_eq_false, and_self, true_and, and_true, if_true, if_false, ite_true, ite_false, zmp_s, zlt_s, zcV_s, zcI_s, zcJ_s, zcA_s, zcD_s, zcF_s, zth_n, zth_t, zrt_s, zQ_l, zQ_r]; rfl
      · simp only [e1, e2, e3, false_or, or_false, true_or, or_true, false_and, and_false, not_false_eq_true, not_true_eq_false, and_self, true_and, and_true, if_true, if_false, ite_true, ite_false, zmp_s, zlt_s, zcV_s, zcI_s, zcJ_s, zcA_s, zcD_s, zcF_s, zth_n, zth_t, zrt_s, zQ_l, zQ_r]; rfl
    · simp only [e1, e2, false_or, or_false, true_or, or_true, false_and, and_false, not_false_eq_true, not_true_eq_false, and_self, true_and, and_true, if_true, if_false, ite_true, ite_false, zmp_s, zlt_s, zcV_s, zcI_s, zcJ_s, zcA_s, zcD_s, zcF_s, zth_n, zth_t, zrt_s, zQ_l, zQ_r]; rfl
theorem nthr_lt (hW : WB N) {d a b : Nat} (hd : d < N 1) (e : nthr N d a = some b) : b < N 0 := by
  obtain ⟨w0, w1, w4, wr, wd, ww⟩ := hW
  obtain ⟨d1, d2, d3, d4, d5, d6, d7⟩ := wd d hd
  unfold nthr at e
  split at e
  · cases e; exact d2
  · split at e
    · cases e; exact d1
    · cases e
theorem nthr_step (hW : WB N) {d a : Nat} (hd : d < N 1) (S acc : Nat) : ndstep N S a d acc = (match nthr N d a with | some b => if nopen N d (nkeys N S) (ncoins N S) then acc ||| 2 ^ b else acc | none => acc) := by
  obtain ⟨w0, w1, w4, wr, wd, ww⟩ := hW
  obtain ⟨d1, d2, d3, d4, d5, d6, d7⟩ := wd d hd
  unfold ndstep nthr
  by_cases e1 : N (49 + 5 * d) = a
  · have e2 : ¬ N (50 + 5 * d) = a := fun e => d3 (by rw [e1, e])
    simp [e1, e2]
  · by_cases e2 : N (50 + 5 * d) = a <;> by_cases e3 : N (53 + 5 * d) = 0 <;> simp [e1, e2, e3]
theorem r_leads (m0 : moS h q) (mL : ML h q N) (hW : WB N) {S a : Nat} (hs : S < 2 ^ 31) (ha : a < 2 ^ 31) : sX6_leads [.ref 125, .int (nI a), .int (nI S)] h = some (.inl (some (.int (nI (nld N S a)))), h) := by
  have w0 := hW.1
  have w1 := hW.2.1
  have hK := nkeys_lt hW S
  have hC := ncoins_le hW S
  have e0 : ∀ x, nI x ||| (0 : Int32) = nI x := fun x => by
    show nI x ||| nI 0 = _
    rw [nx_or, Nat.or_zero]
  refine zsem_eq (Nat.le_of_ble_eq_true rfl) (zTo_of gX6_leads_0 ?_)
  simp only [m0.1, r_keysIn m0 mL w0 hs, r_coinsIn m0 mL w0 hs, zmp_s, zlt_s, zcV_s, zcI_s, zcJ_s, zcA_s, zcD_s, zcF_s, zth_n, zth_t, zrt_s, zQ_l, zQ_r, false_or, or_false, true_or, or_true, false_and, and_false, not_false_eq_true, not_true_eq_false, and_self, true_and, and_true, if_true, if_false, ite_true, ite_false, zgd_t]
  refine zTo_for (f := fun r => (12, [some (.ref 125), some (.int (nI a)), none, some (.int (nI (nkeys N S))), some (.int (nI (ncoins N S))), some (.int (nI (zfo (ndstep N S a) 0 r))), some (.int (nI r)), none], [], h)) (N 1) 0 (Nat.zero_le _) (fun r _ hr => ?_) (zTo_of gX6_leads_12 ?_)
  · obtain ⟨f1, f2, f3, f4⟩ := nI_for hr (by omega)
    simp only [gX6_leads_12, m0.1, r_doors m0 mL, f1, f4, zfo_s, nthr_step hW hr, r_through m0 mL hW hr ha, zmp_s, zlt_s, zcV_s, zcI_s, zcJ_s, zcA_s, zcD_s, zcF_s, zth_n, zth_t, zrt_s, zQ_l, zQ_r, false_or, or_false, true_or, or_true, false_and, and_false, not_false_eq_true, not_true_eq_false, and_self, true_and, and_true, if_true, if_false, ite_true, ite_false, zgd_t]
    cases e : nthr N r a with
    | none => simp only [oI, e0, false_or, or_false, true_or, or_true, false_and, and_false, not_false_eq_true, not_true_eq_false, and_self, true_and, and_true, if_true, if_false, ite_true, ite_false]
    | some b =>
      have hb := nthr_lt hW hr e
      have e1 : ¬ (nI b = -1) := by
        rw [nI_m1]
        intro x
        have h3 := congrArg (fun y => (Int32.toBitVec y).toNat) x
        have h4 : (BitVec.ofNat 32 b).toNat = (BitVec.ofNat 32 4294967295).toNat := h3
        simp only [BitVec.toNat_ofNat] at h4
        omega
      simp only [oI, e1, false_or, or_false, true_or, or_true, false_and, and_false, not_false_eq_true, not_true_eq_false, and_self, true_and, and_true, if_true, if_false, ite_true, ite_false, r_isOpen m0 mL hW hr (show nkeys N S < 2 ^ 31 by omega) (show ncoins N S < 2 ^ 31 by omega), zb_0, zmp_s, zlt_s, zcV_s, zcI_s, zcJ_s, zcA_s, zcD_s, zcF_s, zth_n, zth_t, zrt_s, zQ_l, zQ_r, zgd_t]
      cases nopen N r (nkeys N S) (ncoins N S) <;> simp [e0, nx_shl1 (show b < 32 by omega), nx_or]
  · simp only [m0.1, r_doors m0 mL, zgd_t, nI_le (Nat.le_refl _) (show N 1 < 2 ^ 31 by omega), zmp_s, zlt_s, zcV_s, zcI_s, zcJ_s, zcA_s, zcD_s, zcF_s, zth_n, zth_t, zrt_s, zQ_l, zQ_r, false_or, or_false, true_or, or_true, false_and, and_false, not_false_eq_true, not_true_eq_false, and_self, true_and, and_true, if_true, if_false, ite_true, ite_false]
    rfl
end
end ZMA
