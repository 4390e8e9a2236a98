/-! THE CLASS: questions about the level and the walk. -/
section ZC2
theorem i32_c (n : Nat) (hn : n < 2 ^ 31) (x : Int32) : (x.toInt < 0 ∨ (n : Int) < x.toInt) ∨ ∃ k, k ≤ n ∧ x = nI k := by
  by_cases h : x < 0
  · left; left
    have := Int32.lt_iff_toInt_lt.mp h
    simpa using this
  · obtain ⟨j, hj, rfl⟩ := nI_of h
    rw [nI_toInt hj]
    by_cases w : j ≤ n
    · exact Or.inr ⟨j, w, rfl⟩
    · left; right; omega
/-- property, room, door: their values -/
def nPr (N : zLv) (k : Nat) : Int32 := match k with
  | 0 => nI (N 0) | 1 => nI (N 1) | 2 => nI (N 2) | 3 => eI (N 3) | 4 => nI (N 4) | 5 => nI (N (4 + N 4)) | 6 => nI (nset N) | 7 => nI (nkeys N (nset N)) | _ => nI (ncoins N (nset N))
theorem WF.set31 {N : zLv} (hF : WF N) : nset N < 2 ^ 31 := by
  have h1 := hF.set_lt (Nat.le_refl (N 4))
  rw [← nset_nsk] at h1
  have h2 := pow_le hF.1.1
  omega
theorem m_property {h : zm_H} {N : zLv} {k : Nat} (c : CI h N) (hk9 : k ≤ 8) : sX5_property [.ref 0, .int (nI k)] h = some (.inl (some (.int (nPr N k))), h) := by
  obtain ⟨hk, hL, hF, hst, ho5, ho16⟩ := c
  obtain ⟨q0, r0, r1, r2, r3, r4, r5, r6, r7, r9, i0, i1, i2, o0, o1, o2, v5, v16, hh, v96, v107, sl0, sl1, sl2, fl0, tb, rw0⟩ := hk
  have y5 := v5.1
  have l0 := hL.1
  have l1 := hL.2.1
  have l2 := hL.2.2.1
  have l3 := hL.2.2.2.1
  have l4 := hL.2.2.2.2.1
  have hW := hF.1
  have w1 := q_walkSet v5 hL hW.2.2.1 hF.walk32
  have w2 := q_lastRoom v5 hL hW.2.2.1 hF.2.2.2.2.1
  have w3 := q_keysIn v5 hL hW.1 hF.set31
  have w4 := q_coinsIn v5 hL hW.1 hF.set31
  match k, hk9 with
  | 0, _ => exact zsem_eq (Nat.le_of_ble_eq_true rfl) (zTo_of gX5_property_0 (zTo_of gX5_property_1_0 (zTo_of gX5_property_2 (by simp only [q0, r2, y5, l0, l1, l2, l3, l4, w1, w2, w3, w4, zmp_s, zlt_s, zcV_s, zcI_s, zcJ_s, zcA_s, zcD_s, zcF_s, zth_n, zth_t, zrt_s, zQ_l, zQ_r, zgd_t]; rfl))))
  | 1, _ => exact zsem_eq (Nat.le_of_ble_eq_true rfl) (zTo_of gX5_property_0 (zTo_of gX5_property_1_1 (zTo_of gX5_property_6 (by simp only [q0, r2, y5, l0, l1, l2, l3, l4, w1, w2, w3, w4, zmp_s, zlt_s, zcV_s, zcI_s, zcJ_s, zcA_s, zcD_s, zcF_s, zth_n, zth_t, zrt_s, zQ_l, zQ_r, zgd_t]; rfl))))
  | 2, _ => exact zsem_eq (Nat.le_of_ble_eq_true rfl) (zTo_of gX5_property_0 (zTo_of gX5_property_1_2 (zTo_of gX5_property_10 (by simp only [q0, r2, y5, l0, l1, l2, l3, l4, w1, w2, w3, w4, zmp_s, zlt_s, zcV_s, zcI_s, zcJ_s, zcA_s, zcD_s, zcF_s, zth_n, zth_t, zrt_s, zQ_l, zQ_r, zgd_t]; rfl))))
  | 3, _ => exact zsem_eq (Nat.le_of_ble_eq_true rfl) (zTo_of gX5_property_0 (zTo_of gX5_property_1_3 (zTo_of gX5_property_14 (by simp only [q0, r2, y5, l0, l1, l2, l3, l4, w1, w2, w3, w4, zmp_s, zlt_s, zcV_s, zcI_s, zcJ_s, zcA_s, zcD_s, zcF_s, zth_n, zth_t, zrt_s, zQ_l, zQ_r, zgd_t]; rfl))))
  | 4, _ => exact zsem_eq (Nat.le_of_ble_eq_true rfl) (zTo_of gX5_property_0 (zTo_of gX5_property_1_4 (zTo_of gX5_property_18 (by simp only [q0, r2, y5, l0, l1, l2, l3, l4, w1, w2, w3, w4, zmp_s, zlt_s, zcV_s, zcI_s, zcJ_s, zcA_s, zcD_s, zcF_s, zth_n, zth_t, zrt_s, zQ_l, zQ_r, zgd_t]; rfl))))
  | 5, _ => exact zsem_eq (Nat.le_of_ble_eq_true rfl) (zTo_of gX5_property_0 (zTo_of gX5_property_1_5 (zTo_of gX5_property_22 (by simp only [q0, r2, y5, l0, l1, l2, l3, l4, w1, w2, w3, w4, zmp_s, zlt_s, zcV_s, zcI_s, zcJ_s, zcA_s, zcD_s, zcF_s, zth_n, zth_t, zrt_s, zQ_l, zQ_r, zgd_t]; rfl))))
  | 6, _ => exact zsem_eq (Nat.le_of_ble_eq_true rfl) (zTo_of gX5_property_0 (zTo_of gX5_property_1_6 (zTo_of gX5_property_26 (by simp only [q0, r2, y5, l0, l1, l2, l3, l4, w1, w2, w3, w4, zmp_s, zlt_s, zcV_s, zcI_s, zcJ_s, zcA_s, zcD_s, zcF_s, zth_n, zth_t, zrt_s, zQ_l, zQ_r, zgd_t]; rfl))))
  | 7, _ => exact zsem_eq (Nat.le_of_ble_eq_true rfl) (zTo_of gX5_property_0 (zTo_of gX5_property_1_7 (zTo_of gX5_property_30 (by simp only [q0, r2, y5, l0, l1, l2, l3, l4, w1, w2, w3, w4, zmp_s, zlt_s, zcV_s, zcI_s, zcJ_s, zcA_s, zcD_s, zcF_s, zth_n, zth_t, zrt_s, zQ_l, zQ_r, zgd_t]; rfl))))
  | 8, _ => exact zsem_eq (Nat.le_of_ble_eq_true rfl) (zTo_of gX5_property_0 (zTo_of gX5_property_1_8 (zTo_of gX5_property_37 (by simp only [q0, r2, y5, l0, l1, l2, l3, l4, w1, w2, w3, w4, zmp_s, zlt_s, zcV_s, zcI_s, zcJ_s, zcA_s, zcD_s, zcF_s, zth_n, zth_t, zrt_s, zQ_l, zQ_r, zgd_t]; rfl))))
theorem m_propertyX {h : zm_H} {x : Int32} (hx : x.toInt < 0 ∨ 8 < x.toInt) : sX5_property [.ref 0, .int x] h = some (.inr 1, h) :=
  zsem_eq (Nat.le_of_ble_eq_true rfl) (zTo_of gX5_property_0 (zTo_of (gX5_property_1_d hx) (zTo_of gX5_property_44 rfl)))
def nRo (N : zLv) (r k : Nat) : Int32 := match k with
  | 0 => nI (N (16 + 3 * r)) | 1 => nI (N (17 + 3 * r)) | 2 => nI (nmask (ndf N r) (N 1)) | 3 => nI (nmask (ndi N r) (N 1)) | _ => oI (nplace N r (N 4))
theorem m_room {h : zm_H} {N : zLv} {r k : Nat} (c : CI h N) (hr : r < N 0) (hk5 : k ≤ 4) : sX5_room [.ref 0, .int (nI r), .int (nI k)] h = some (.inl (some (.int (nRo N r k))), h) := by
  have nr := m_needRoom c hr
  obtain ⟨hk, hL, hF, hst, ho5, ho16⟩ := c
  obtain ⟨q0, r0, r1, r2, r3, r4, r5, r6, r7, r9, i0, i1, i2, o0, o1, o2, v5, v16, hh, v96, v107, sl0, sl1, sl2, fl0, tb, rw0⟩ := hk
  have y5 := v5.1
  have hW := hF.1
  have hn := hW.1
  have v5' := v5
  have hL' := hL
  obtain ⟨k0, p1, p2, p3, p5, p6, p7, p8, p9, p12, p14, k1, k2, k3, k4, k5, k6, k7, k8, k9, k10⟩ := v5'
  obtain ⟨l0, l1, l2, l3, l4, ln, lk, lc, lf, lt, ld, lb, lo, lw⟩ := hL'
  have f2 := nI_clamp (show r < 2 ^ 31 by omega)
  have f3 := nI_lt0 (show r < 2 ^ 31 by omega)
  have f5 : ¬ 11 ≤ r := by omega
  have w1 := q_doorsFrom v5 hL hW (show r < 2 ^ 31 by omega)
  have w2 := q_doorsInto v5 hL hW (show r < 2 ^ 31 by omega)
  have w3 := q_placeOf v5 hL hW.2.2.1 hF.walk32 (show r < 2 ^ 31 by omega)
  have a1 := lk r hr
  have a2 := lc r hr
  have e0 : zTo vX5_room rX5_room (0, [some (.ref 0), some (.int (nI r)), some (.int (nI k))], [], h) (fun y => y = (.inl (some (.int (nRo N r k))), h)) := by
    refine zTo_of gX5_room_0 ?_
    simp only [q0, nr, zmp_s, zlt_s, zcV_s, zcI_s, zcJ_s, zcA_s, zcD_s, zcF_s, zth_n, zth_t, zrt_s, zQ_l, zQ_r, zgd_t]
    match k, hk5 with
    | 0, _ => exact zTo_of gX5_room_4_0 (zTo_of gX5_room_5 (by simp only [q0, r2, y5, p2, k2, p3, k3, f2, f3, f5, a1, a2, w1, w2, w3, zmp_s, zlt_s, zcV_s, zcI_s, zcJ_s, zcA_s, zcD_s, zcF_s, zth_n, zth_t, zrt_s, zQ_l, zQ_r, false_or, or_false, true_or, or_true, false_and, and_false, not_false_eq_true, not_true_eq_false, and_self, true_and, and_true, if_true, if_false, ite_true, ite_false, zgd_t]; rfl))
    | 1, _ => exact zTo_of gX5_room_4_1 (zTo_of gX5_room_11 (by simp only [q0, r2, y5, p2, k2, p3, k3, f2, f3, f5, a1, a2, w1, w2, w3, zmp_s, zlt_s, zcV_s, zcI_s, zcJ_s, zcA_s, zcD_s, zcF_s, zth_n, zth_t, zrt_s, zQ_l, zQ_r, false_or, or_false, true_or, or_true, false_and, and_false, not_false_eq_true, not_true_eq_false, and_self, true_and, and_true, if_true, if_false, ite_true, ite_false, zgd_t]; rfl))
    | 2, _ => exact zTo_of gX5_room_4_2 (zTo_of gX5_room_17 (by simp only [q0, r2, y5, p2, k2, p3, k3, f2, f3, f5, a1, a2, w1, w2, w3, zmp_s, zlt_s, zcV_s, zcI_s, zcJ_s, zcA_s, zcD_s, zcF_s, zth_n, zth_t, zrt_s, zQ_l, zQ_r, false_or, or_false, true_or, or_true, false_and, and_false, not_false_eq_true, not_true_eq_false, and_self, true_and, and_true, if_true, if_false, ite_true, ite_false, zgd_t]; rfl))
    | 3, _ => exact zTo_of gX5_room_4_3 (zTo_of gX5_room_22 (by simp only [q0, r2, y5, p2, k2, p3, k3, f2, f3, f5, a1, a2, w1, w2, w3, zmp_s, zlt_s, zcV_s, zcI_s, zcJ_s, zcA_s, zcD_s, zcF_s, zth_n, zth_t, zrt_s, zQ_l, zQ_r, false_or, or_false, true_or, or_true, false_and, and_false, not_false_eq_true, not_true_eq_false, and_self, true_and, and_true, if_true, if_false, ite_true, ite_false, zgd_t]; rfl))
    | 4, _ => exact zTo_of gX5_room_4_4 (zTo_of gX5_room_27 (by simp only [q0, r2, y5, p2, k2, p3, k3, f2, f3, f5, a1, a2, w1, w2, w3, zmp_s, zlt_s, zcV_s, zcI_s, zcJ_s, zcA_s, zcD_s, zcF_s, zth_n, zth_t, zrt_s, zQ_l, zQ_r, false_or, or_false, true_or, or_true, false_and, and_false, not_false_eq_true, not_true_eq_false, and_self, true_and, and_true, if_true, if_false, ite_true, ite_false, zgd_t]; rfl))
  exact zsem_eq (Nat.le_of_ble_eq_true rfl) e0
theorem m_roomX {h : zm_H} {N : zLv} {x y : Int32} (c : CI h N) (hx : x < 0 ∨ nI (N 0) ≤ x) : sX5_room [.ref 0, .int x, .int y] h = some (.inr 2, h) := by
  have q0 := c.1.1
  refine zsem_eq (Nat.le_of_ble_eq_true rfl) (zTo_of gX5_room_0 ?_)
  simp only [q0, m_needRoomX c hx, zmp_s, zlt_s, zcV_s, zcI_s, zcJ_s, zcA_s, zcD_s, zcF_s, zth_n, zth_t, zrt_s, zQ_l, zQ_r, zgd_t]
theorem m_roomY {h : zm_H} {N : zLv} {r : Nat} {y : Int32} (c : CI h N) (hr : r < N 0) (hy : y.toInt < 0 ∨ 4 < y.toInt) : sX5_room [.ref 0, .int (nI r), .int y] h = some (.inr 1, h) := by
  have q0 := c.1.1
  have nr := m_needRoom c hr
  have e0 : zTo vX5_room rX5_room (0, [some (.ref 0), some (.int (nI r)), some (.int y)], [], h) (fun z => z = (.inr 1, h)) := by
    refine zTo_of gX5_room_0 ?_
    simp only [q0, nr, zmp_s, zlt_s, zcV_s, zcI_s, zcJ_s, zcA_s, zcD_s, zcF_s, zth_n, zth_t, zrt_s, zQ_l, zQ_r, zgd_t]
    exact zTo_of (gX5_room_4_d hy) (zTo_of gX5_room_32 rfl)
  exact zsem_eq (Nat.le_of_ble_eq_true rfl) e0
def nDo (N : zLv) (d k : Nat) : Int32 := match k with
  | 0 => nI (N (49 + 5 * d)) | 1 => nI (N (50 + 5 * d)) | 2 => nI (N (51 + 5 * d)) | 3 => nI (N (52 + 5 * d)) | 4 => nI (N (53 + 5 * d)) | _ => zb (nopen N d (nkeys N (nset N)) (ncoins N (nset N)))
theorem openMask_bit {N : zLv} {K C k : Nat} : (zfo (fun d acc => if nopen N d K C then acc ||| 2 ^ d else acc) 0 (N 1)).testBit k = (decide (k < N 1) && nopen N k K C) := nmask_bit (fun d => nopen N d K C) (N 1) k
theorem openMask_lt {N : zLv} (hW : WB N) {K C : Nat} : zfo (fun d acc => if nopen N d K C then acc ||| 2 ^ d else acc) 0 (N 1) < 2 ^ 20 := Nat.lt_of_lt_of_le (nmask_lt (fun d => nopen N d K C) (N 1)) (Nat.pow_le_pow_right (by omega) hW.2.1)
theorem WF.k31 {N : zLv} (hF : WF N) : nkeys N (nset N) < 2 ^ 31 := by have := nkeys_lt hF.1 (nset N); omega
theorem WF.c31 {N : zLv} (hF : WF N) : ncoins N (nset N) < 2 ^ 31 := by have := ncoins_le hF.1 (nset N); omega
theorem m_door {h : zm_H} {N : zLv} {d k : Nat} (c : CI h N) (hd : d < N 1) (hk5 : k ≤ 5) : sX5_door [.ref 0, .int (nI d), .int (nI k)] h = some (.inl (some (.int (nDo N d k))), h) := by
  have nr := m_needDoor c hd
  obtain ⟨hk, hL, hF, hst, ho5, ho16⟩ := c
  obtain ⟨q0, r0, r1, r2, r3, r4, r5, r6, r7, r9, i0, i1, i2, o0, o1, o2, v5, v16, hh, v96, v107, sl0, sl1, sl2, fl0, tb, rw0⟩ := hk
  have y5 := v5.1
  have hW := hF.1
  have hn := hW.2.1
  have v5' := v5
  have hL' := hL
  obtain ⟨k0, p1, p2, p3, p5, p6, p7, p8, p9, p12, p14, k1, k2, k3, k4, k5, k6, k7, k8, k9, k10⟩ := v5'
  obtain ⟨l0, l1, l2, l3, l4, ln, lk, lc, lf, lt, ld, lb, lo, lw⟩ := hL'
  obtain ⟨d1, d2, d3, d4, d5, d6, d7⟩ := hW.2.2.2.2.1 d hd
  have f2 := nI_clamp (show d < 2 ^ 31 by omega)
  have f3 := nI_lt0 (show d < 2 ^ 31 by omega)
  have f5 : ¬ 20 ≤ d := by omega
  have w1 := q_walkSet v5 hL hW.2.2.1 hF.walk32
  have w2 := q_openDoors v5 hL hW hF.set31 hF.k31 hF.c31
  have om := openMask_lt hW (K := nkeys N (nset N)) (C := ncoins N (nset N))
  have w3 := q_has (s := zfo (fun d acc => if nopen N d (nkeys N (nset N)) (ncoins N (nset N)) then acc ||| 2 ^ d else acc) 0 (N 1)) (k := d) (by omega) (show d < 32 by omega)
  have a1 := lf d hd
  have a2 := lt d hd
  have a3 := ld d hd
  have a4 := lb d hd
  have a5 := lo d hd
  have z5 := nI_eq0 (show N (53 + 5 * d) < 2 ^ 31 by omega)
  have e0 : zTo vX5_door rX5_door (0, [some (.ref 0), some (.int (nI d)), some (.int (nI k))], [], h) (fun y => y = (.inl (some (.int (nDo N d k))), h)) := by
    refine zTo_of gX5_door_0 ?_
    simp only [q0, nr, zmp_s, zlt_s, zcV_s, zcI_s, zcJ_s, zcA_s, zcD_s, zcF_s, zth_n, zth_t, zrt_s, zQ_l, zQ_r, zgd_t]
    match k, hk5 with
    | 0, _ => exact zTo_of gX5_door_4_0 (zTo_of gX5_door_5 (by simp only [q0, r2, y5, p5, k4, p6, k5, p7, k6, p8, k7, f2, f3, f5, a1, a2, a3, a4, zmp_s, zlt_s, zcV_s, zcI_s, zcJ_s, zcA_s, zcD_s, zcF_s, zth_n, zth_t, zrt_s, zQ_l, zQ_r, false_or, or_false, true_or, or_true, false_and, and_false, not_false_eq_true, not_true_eq_false, and_self, true_and, and_true, if_true, if_false, ite_true, ite_false, zgd_t]; rfl))
    | 1, _ => exact zTo_of gX5_door_4_1 (zTo_of gX5_door_11 (by simp only [q0, r2, y5, p5, k4, p6, k5, p7, k6, p8, k7, f2, f3, f5, a1, a2, a3, a4, zmp_s, zlt_s, zcV_s, zcI_s, zcJ_s, zcA_s, zcD_s, zcF_s, zth_n, zth_t, zrt_s, zQ_l, zQ_r, false_or, or_false, true_or, or_true, false_and, and_false, not_false_eq_true, not_true_eq_false, and_self, true_and, and_true, if_true, if_false, ite_true, ite_false, zgd_t]; rfl))
    | 2, _ => exact zTo_of gX5_door_4_2 (zTo_of gX5_door_17 (by simp only [q0, r2, y5, p5, k4, p6, k5, p7, k6, p8, k7, f2, f3, f5, a1, a2, a3, a4, zmp_s, zlt_s, zcV_s, zcI_s, zcJ_s, zcA_s, zcD_s, zcF_s, zth_n, zth_t, zrt_s, zQ_l, zQ_r, false_or, or_false, true_or, or_true, false_and, and_false, not_false_eq_true, not_true_eq_false, and_self, true_and, and_true, if_true, if_false, ite_true, ite_false, zgd_t]; rfl))
    | 3, _ => exact zTo_of gX5_door_4_3 (zTo_of gX5_door_23 (by simp only [q0, r2, y5, p5, k4, p6, k5, p7, k6, p8, k7, f2, f3, f5, a1, a2, a3, a4, zmp_s, zlt_s, zcV_s, zcI_s, zcJ_s, zcA_s, zcD_s, zcF_s, zth_n, zth_t, zrt_s, zQ_l, zQ_r, false_or, or_false, true_or, or_true, false_and, and_false, not_false_eq_true, not_true_eq_false, and_self, true_and, and_true, if_true, if_false, ite_true, ite_false, zgd_t]; rfl))
    | 4, _ =>
      refine zTo_of gX5_door_4_4 (zTo_of gX5_door_29 ?_)
      simp only [q0, r2, y5, p9, k8, f2, f3, f5, a5, z5, zmp_s, zlt_s, zcV_s, zcI_s, zcJ_s, zcA_s, zcD_s, zcF_s, zth_n, zth_t, zrt_s, zQ_l, zQ_r, false_or, or_false, true_or, or_true, false_and, and_false, not_false_eq_true, not_true_eq_false, and_self, true_and, and_true, if_true, if_false, ite_true, ite_false, zgd_t]
      by_cases q : N (53 + 5 * d) = 0
      · simp only [q, false_or, or_false, true_or, or_true, false_and, and_false, not_false_eq_true, not_true_eq_false, and_self, true_and, and_true, if_true, if_false, ite_true, ite_false, zmp_s, zlt_s, zcV_s, zcI_s, zcJ_s, zcA_s, zcD_s, zcF_s, zth_n, zth_t, zrt_s, zQ_l, zQ_r, nDo]; rfl
      · have : N (53 + 5 * d) = 1 := by omega
        simp only [q, false_or, or_false, true_or, or_true, false_and, and_false, not_false_eq_true, not_true_eq_false, and_self, true_and, and_true, if_true, if_false, ite_true, ite_false, zmp_s, zlt_s, zcV_s, zcI_s, zcJ_s, zcA_s, zcD_s, zcF_s, zth_n, zth_t, zrt_s, zQ_l, zQ_r, nDo, this]; rfl
    | 5, _ =>
      refine zTo_of gX5_door_4_5 (zTo_of gX5_door_39 ?_)
      simp only [q0, r2, y5, w1, w2, w3, zb_0, openMask_bit, hd, decide_true, Bool.true_and, zmp_s, zlt_s, zcV_s, zcI_s, zcJ_s, zcA_s, zcD_s, zcF_s, zth_n, zth_t, zrt_s, zQ_l, zQ_r, false_or, or_false, true_or, or_true, false_and, and_false, not_false_eq_true, not_true_eq_false, and_self, true_and, and_true, if_true, if_false, ite_true, ite_false, zgd_t]
      cases q : nopen N d (nkeys N (nset N)) (ncoins N (nset N)) <;> simp [zQ, nDo, q] <;> rfl
  exact zsem_eq (Nat.le_of_ble_eq_true rfl) e0
theorem m_doorX {h : zm_H} {N : zLv} {x y : Int32} (c : CI h N) (hx : x < 0 ∨ nI (N 1) ≤ x) : sX5_door [.ref 0, .int x, .int y] h = some (.inr 2, h) := by
  have q0 := c.1.1
  refine zsem_eq (Nat.le_of_ble_eq_true rfl) (zTo_of gX5_door_0 ?_)
  simp only [q0, m_needDoorX c hx, zmp_s, zlt_s, zcV_s, zcI_s, zcJ_s, zcA_s, zcD_s, zcF_s, zth_n, zth_t, zrt_s, zQ_l, zQ_r, zgd_t]
theorem m_doorY {h : zm_H} {N : zLv} {d : Nat} {y : Int32} (c : CI h N) (hd : d < N 1) (hy : y.toInt < 0 ∨ 5 < y.toInt) : sX5_door [.ref 0, .int (nI d), .int y] h = some (.inr 1, h) := by
  have q0 := c.1.1
  have nr := m_needDoor c hd
  have e0 : zTo vX5_door rX5_door (0, [some (.ref 0), some (.int (nI d)), some (.int y)], [], h) (fun z => z = (.inr 1, h)) := by
    refine zTo_of gX5_door_0 ?_
    simp only [q0, nr, zmp_s, zlt_s, zcV_s, zcI_s, zcJ_s, zcA_s, zcD_s, zcF_s, zth_n, zth_t, zrt_s, zQ_l, zQ_r, zgd_t]
    exact zTo_of (gX5_door_4_d hy) (zTo_of gX5_door_52 rfl)
  exact zsem_eq (Nat.le_of_ble_eq_true rfl) e0
theorem m_walked {h : zm_H} {N : zLv} {k : Nat} (c : CI h N) (hk4 : k < N 4) : sX5_walked [.ref 0, .int (nI k)] h = some (.inl (some (.int (nI (nwk N k)))), h) := by
  obtain ⟨hk, hL, hF, hst, ho5, ho16⟩ := c
  obtain ⟨q0, r0, r1, r2, r3, r4, r5, r6, r7, r9, i0, i1, i2, o0, o1, o2, v5, v16, hh, v96, v107, sl0, sl1, sl2, fl0, tb, rw0⟩ := hk
  have hn := hF.1.2.2.1
  have y5 := v5.1
  have l4 := hL.2.2.2.2.1
  have p12 := v5.2.2.2.2.2.2.2.2.2.1
  have k9 := v5.2.2.2.2.2.2.2.2.2.2.2.2.2.2.2.2.2.2.2.1
  have lw := hL.2.2.2.2.2.2.2.2.2.2.2.2.2 k hk4
  refine zsem_eq (Nat.le_of_ble_eq_true rfl) (zTo_of gX5_walked_0 ?_)
  simp only [q0, r2, y5, l4, p12, k9, lw, nI_lt0 (show k < 2 ^ 31 by omega), nI_clamp (show k < 2 ^ 31 by omega), nI_lt hk4 (show N 4 < 2 ^ 31 by omega), show ¬ 11 ≤ k by omega, zmp_s, zlt_s, zcV_s, zcI_s, zcJ_s, zcA_s, zcD_s, zcF_s, zth_n, zth_t, zrt_s, zQ_l, zQ_r, false_or, or_false, true_or, or_true, false_and, and_false, not_false_eq_true, not_true_eq_false, and_self, true_and, and_true, if_true, if_false, ite_true, ite_false, zgd_t]
  rfl
theorem m_walkedX {h : zm_H} {N : zLv} {x : Int32} (c : CI h N) (hx : x < 0 ∨ nI (N 4) ≤ x) : sX5_walked [.ref 0, .int x] h = some (.inr 3, h) := by
  obtain ⟨hk, hL, hF, hst, ho5, ho16⟩ := c
  obtain ⟨q0, r0, r1, r2, r3, r4, r5, r6, r7, r9, i0, i1, i2, o0, o1, o2, v5, v16, hh, v96, v107, sl0, sl1, sl2, fl0, tb, rw0⟩ := hk
  have y5 := v5.1
  have l4 := hL.2.2.2.2.1
  refine zsem_eq (Nat.le_of_ble_eq_true rfl) (zTo_of gX5_walked_0 ?_)
  by_cases w : x < 0
  · simp only [w, zmp_s, zlt_s, zcV_s, zcI_s, zcJ_s, zcA_s, zcD_s, zcF_s, zth_n, zth_t, zrt_s, zQ_l, zQ_r, false_or, or_false, true_or, or_true, false_and, and_false, not_false_eq_true, not_true_eq_false, and_self, true_and, and_true, if_true, if_false, ite_true, ite_false]
  · have w2 : ¬ x < nI (N 4) := by
      rcases hx with q | q
      · exact absurd q w
      · exact Int32.not_lt.mpr q
    simp only [w, w2, q0, r2, y5, l4, zmp_s, zlt_s, zcV_s, zcI_s, zcJ_s, zcA_s, zcD_s, zcF_s, zth_n, zth_t, zrt_s, zQ_l, zQ_r, false_or, or_false, true_or, or_true, false_and, and_false, not_false_eq_true, not_true_eq_false, and_self, true_and, and_true, if_true, if_false, ite_true, ite_false, zgd_t]
def nFo (N : zLv) (key : Nat) : Option Nat := nfind (fun k => (N (16 + 3 * nwk N k)).testBit key) (N 4)
/-- why the walk cannot go on -/
def nWhy (N : zLv) (r : Nat) : Nat := if (nplace N r (N 4)).isSome then 1 else if nany (fun d => ndgo N d (N (4 + N 4)) r && nopen N d (nkeys N (nset N)) (ncoins N (nset N))) (N 1) then 0 else if nany (fun d => ndgo N d (N (4 + N 4)) r && decide (N (51 + 5 * d) = 2)) (N 1) then 4 else if nany (fun d => ndgo N d (N (4 + N 4)) r) (N 1) then 3 else 2
theorem oI_m1 {n : Nat} {o : Option Nat} (h : ∀ k, o = some k → k < 2 ^ 31) : (oI o = -1) = (o = none) := by
  apply propext
  cases o with
  | none => exact ⟨fun _ => rfl, fun _ => rfl⟩
  | some k =>
    have hk := h k rfl
    refine ⟨fun q => ?_, fun q => (by cases q)⟩
    have q : nI k = -1 := q
    rw [nI_m1] at q
    have h2 : BitVec.ofNat 32 k = BitVec.ofNat 32 4294967295 := congrArg Int32.toBitVec q
    have h3 := congrArg BitVec.toNat h2
    simp only [BitVec.toNat_ofNat] at h3
    omega
theorem m_why {h : zm_H} {N : zLv} {r : Nat} (c : CI h N) (hr : r < N 0) : sX5_why [.ref 0, .int (nI r)] h = some (.inl (some (.int (nI (nWhy N r)))), h) := by
  have nr := m_needRoom c hr
  obtain ⟨hk, hL, hF, hst, ho5, ho16⟩ := c
  obtain ⟨q0, r0, r1, r2, r3, r4, r5, r6, r7, r9, i0, i1, i2, o0, o1, o2, v5, v16, hh, v96, v107, sl0, sl1, sl2, fl0, tb, rw0⟩ := hk
  have hW := hF.1
  have hn := hW.2.2.1
  have hn0 := hW.1
  have hn1 := hW.2.1
  have y5 := v5.1
  have hl := hF.last
  have w1 := q_walkSet v5 hL hW.2.2.1 hF.walk32
  have w2 := q_openDoors v5 hL hW hF.set31 hF.k31 hF.c31
  have w3 := q_placeOf v5 hL hW.2.2.1 hF.walk32 (show r < 2 ^ 31 by omega)
  have w4 := q_lastRoom v5 hL hW.2.2.1 hF.2.2.2.2.1
  have w5 := q_doorsFrom v5 hL hW (show N (4 + N 4) < 2 ^ 31 by omega)
  have w6 := q_doorsInto v5 hL hW (show r < 2 ^ 31 by omega)
  have op := oI_m1 (n := 0) (o := nplace N r (N 4)) (fun k hk => by have := (nplace_some hk).1; omega)
  refine zsem_eq (Nat.le_of_ble_eq_true rfl) (zTo_of gX5_why_0 ?_)
  simp only [q0, nr, r2, y5, w3, op, zmp_s, zlt_s, zcV_s, zcI_s, zcJ_s, zcA_s, zcD_s, zcF_s, zth_n, zth_t, zrt_s, zQ_l, zQ_r, zgd_t]
  unfold nWhy
  cases pl : nplace N r (N 4) with
  | some k => simp [zQ]; rfl
  | none =>
    have hne : N (4 + N 4) ≠ r := by
      have := nplace_none.mp pl (N 4 - 1) (by have := hF.2.2.2.2.1; omega)
      rwa [show 5 + (N 4 - 1) = 4 + N 4 by have := hF.2.2.2.2.1; omega] at this
    have hg : ∀ d, d < N 1 → (ndf N (N (4 + N 4)) d && ndi N r d) = ndgo N d (N (4 + N 4)) r := by
      intro d hd
      obtain ⟨d1, d2, d3, -⟩ := hW.2.2.2.2.1 d hd
      unfold ndf ndi ndgo
      by_cases a1 : N (49 + 5 * d) = N (4 + N 4) <;> by_cases a2 : N (50 + 5 * d) = N (4 + N 4) <;> by_cases a3 : N (49 + 5 * d) = r <;> by_cases a4 : N (50 + 5 * d) = r <;> by_cases a5 : N (53 + 5 * d) = 0 <;> simp [a1, a2, a3, a4, a5] <;> omega
    obtain ⟨D, hD⟩ : ∃ D, D = nmask (ndf N (N (4 + N 4))) (N 1) &&& nmask (ndi N r) (N 1) := ⟨_, rfl⟩
    obtain ⟨O, hO⟩ : ∃ O, O = zfo (fun d acc => if nopen N d (nkeys N (nset N)) (ncoins N (nset N)) then acc ||| 2 ^ d else acc) 0 (N 1) := ⟨_, rfl⟩
    have hDl : D < 2 ^ 20 := by
      rw [hD]
      exact and_lt (Nat.lt_of_lt_of_le (nmask_lt _ _) (Nat.pow_le_pow_right (by omega) hn1))
    have hDb : ∀ d, D.testBit d = (decide (d < N 1) && ndgo N d (N (4 + N 4)) r) := by
      intro d
      rw [hD, Nat.testBit_and, nmask_bit, nmask_bit]
      by_cases q : d < N 1
      · rw [← hg d q]; simp [q]
      · simp [q]
    have hDO : ∀ d, (D &&& O).testBit d = (decide (d < N 1) && (ndgo N d (N (4 + N 4)) r && nopen N d (nkeys N (nset N)) (ncoins N (nset N)))) := by
      intro d
      rw [Nat.testBit_and, hDb, hO, openMask_bit]
      cases decide (d < N 1) <;> simp
    have z0 : ∀ (X : Nat) (p : Nat → Bool), (∀ d, X.testBit d = (decide (d < N 1) && p d)) → (X = 0 ↔ nany p (N 1) = false) := by
      intro X p hX
      constructor
      · intro e
        cases q : nany p (N 1) with
        | false => rfl
        | true =>
          obtain ⟨d, h1, h2⟩ := nany_iff.mp q
          have := hX d
          rw [e, Nat.zero_testBit, h2] at this
          simp [h1] at this
      · intro e
        apply nat_ext; intro d
        rw [hX, Nat.zero_testBit]
        by_cases q : d < N 1
        · cases q2 : p d with
          | false => simp
          | true => rw [nany_iff.mpr ⟨d, q, q2⟩] at e; cases e
        · simp [q]
    have hDOl : D &&& O < 2 ^ 20 := and_lt hDl
    have w7 := q_anyToll v5 hL hW (show D < 2 ^ 31 by omega)
    rw [← hO] at w2
    simp only [false_or, or_false, true_or, or_true, false_and, and_false, not_false_eq_true, not_true_eq_false, and_self, true_and, and_true, if_true, if_false, ite_true, ite_false, q0, r2, y5, w4, w5, w6, nx_and, ← hD, nI_eq0 (show D < 2 ^ 31 by omega), w1, w2, nI_eq0 (show D &&& O < 2 ^ 31 by omega), w7, zb_0, zmp_s, zlt_s, zcV_s, zcI_s, zcJ_s, zcA_s, zcD_s, zcF_s, zth_n, zth_t, zrt_s, zQ_l, zQ_r, zgd_t, Option.isSome_none, Bool.false_eq_true]
    have at1 : nany (fun d => D.testBit d && decide (N (51 + 5 * d) = 2)) (N 1) = nany (fun d => ndgo N d (N (4 + N 4)) r && decide (N (51 + 5 * d) = 2)) (N 1) := by
      cases q : nany (fun d => ndgo N d (N (4 + N 4)) r && decide (N (51 + 5 * d) = 2)) (N 1) with
      | true =>
        obtain ⟨d, h1, h2⟩ := nany_iff.mp q
        exact nany_iff.mpr ⟨d, h1, by rw [hDb]; simp [h1]; simpa using h2⟩
      | false =>
        cases q2 : nany (fun d => D.testBit d && decide (N (51 + 5 * d) = 2)) (N 1) with
        | false => rfl
        | true =>
          obtain ⟨d, h1, h2⟩ := nany_iff.mp q2
          rw [hDb] at h2
          simp [h1] at h2
          rw [nany_iff.mpr ⟨d, h1, by simpa using h2⟩] at q; cases q
    by_cases e1 : D = 0
    · have n1 := (z0 D _ hDb).mp e1
      have n2 : nany (fun d => ndgo N d (N (4 + N 4)) r && nopen N d (nkeys N (nset N)) (ncoins N (nset N))) (N 1) = false := (z0 (D &&& O) _ hDO).mp (by rw [e1, Nat.zero_and])
      have n3 : nany (fun d => ndgo N d (N (4 + N 4)) r && decide (N (51 + 5 * d) = 2)) (N 1) = false := by
        rw [← at1, e1]
        cases q : nany (fun d => (0 : Nat).testBit d && decide (N (51 + 5 * d) = 2)) (N 1) with
        | false => rfl
        | true =>
          obtain ⟨d, h1, h2⟩ := nany_iff.mp q
          rw [Nat.zero_testBit] at h2; simp at h2
      rw [n1, n2, n3]
      simp only [e1, false_or, or_false, true_or, or_true, false_and, and_false, not_false_eq_true, not_true_eq_false, and_self, true_and, and_true, if_true, if_false, ite_true, ite_false, zmp_s, zlt_s, zcV_s, zcI_s, zcJ_s, zcA_s, zcD_s, zcF_s, zth_n, zth_t, zrt_s, zQ_l, zQ_r, Bool.false_eq_true]; rfl
    · have n1 : nany (fun d => ndgo N d (N (4 + N 4)) r) (N 1) = true := by
        cases q : nany (fun d => ndgo N d (N (4 + N 4)) r) (N 1) with
        | true => rfl
        | false => exact absurd ((z0 D _ hDb).mpr q) e1
      by_cases e2 : D &&& O = 0
      · have n2 := (z0 (D &&& O) _ hDO).mp e2
        rw [n1, n2, at1]
        cases q : nany (fun d => ndgo N d (N (4 + N 4)) r && decide (N (51 + 5 * d) = 2)) (N 1) with
        | true => simp only [e1, e2, false_or, or_false, true_or, or_true, false_and, and_false, not_false_eq_true, not_true_eq_false, and_self, true_and, and_true, if_true, if_false, ite_true, ite_false, zmp_s, zlt_s, zcV_s, zcI_s, zcJ_s, zcA_s, zcD_s, zcF_s, zth_n, zth_t, zrt_s, zQ_l, zQ_r, Bool.false_eq_true, Bool.true_eq_false]; rfl
        | false => simp only [e1, e2, false_or, or_false, true_or, or_true, false_and, and_false, not_false_eq_true, not_true_eq_false, and_self, true_and, and_true, if_true, if_false, ite_true, ite_false, zmp_s, zlt_s, zcV_s, zcI_s, zcJ_s, zcA_s, zcD_s, zcF_s, zth_n, zth_t, zrt_s, zQ_l, zQ_r, Bool.false_eq_true, Bool.true_eq_false]; rfl
      · have n2 : nany (fun d => ndgo N d (N (4 + N 4)) r && nopen N d (nkeys N (nset N)) (ncoins N (nset N))) (N 1) = true := by
          cases q : nany (fun d => ndgo N d (N (4 + N 4)) r && nopen N d (nkeys N (nset N)) (ncoins N (nset N))) (N 1) with
          | true => rfl
          | false => exact absurd ((z0 (D &&& O) _ hDO).mpr q) e2
        rw [n2]
        simp only [e1, e2, false_or, or_false, true_or, or_true, false_and, and_false, not_false_eq_true, not_true_eq_false, and_self, true_and, and_true, if_true, if_false, ite_true, ite_false, zmp_s, zlt_s, zcV_s, zcI_s, zcJ_s, zcA_s, zcD_s, zcF_s, zth_n, zth_t, zrt_s, zQ_l, zQ_r, Bool.false_eq_true, Bool.true_eq_false]; rfl
theorem m_whyX {h : zm_H} {N : zLv} {x : Int32} (c : CI h N) (hx : x < 0 ∨ nI (N 0) ≤ x) : sX5_why [.ref 0, .int x] h = some (.inr 2, h) := by
  have q0 := c.1.1
  refine zsem_eq (Nat.le_of_ble_eq_true rfl) (zTo_of gX5_why_0 ?_)
  simp only [q0, m_needRoomX c hx, zmp_s, zlt_s, zcV_s, zcI_s, zcJ_s, zcA_s, zcD_s, zcF_s, zth_n, zth_t, zrt_s, zQ_l, zQ_r, zgd_t]
end ZC2

