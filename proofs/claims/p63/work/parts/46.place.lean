/-! THE CLASS: where rooms stand, coins, rounds, shares. -/
section ZC6
/-- a sum over all sets of rooms but none -/
def nSum (N : zLv) (F : Nat → Nat) : Nat := zsu (fun i => F (i + 1)) (2 ^ N 0 - 1)
def nAh (N : zLv) (r o : Nat) : Nat := nSum N (fun S => if S.testBit o then 0 else nWW N (2 ^ N 2) (N 2) S r * nTT N S r)
def nAt (N : zLv) (r p : Nat) : Nat := nSum N (fun S => if npc S 11 = p + 1 then nWW N (2 ^ N 2) (N 2) S r * nTT N S r else 0)
def nBe (N : zLv) (r o : Nat) : Nat := nSum N (fun S => nWW N (2 ^ N 2) (N 2) S r * ncn N S r o)
theorem m_ahead {h : zm_H} {N : zLv} {r o : Nat} (c : CI h N) (hr : r < N 0) (ho : o < N 0) (hne : r ≠ o) : ∃ g, sX5_ahead [.ref 0, .int (nI r), .int (nI o)] h = some (.inl (some (.long (lN (nAh N r o)))), g) ∧ CQ N h g := by
  have q00 := c.1.1
  have nr := m_needTwo c hr ho hne
  obtain ⟨g, s1, cq, tg⟩ := m_solved c
  have c2 := c.go cq
  obtain ⟨hk, hL, hF, hst, ho5, ho16⟩ := c2
  obtain ⟨q0, r0, r1, r2, r3, r4, r5, r6, r7, r9, i0, i1, i2, o0, o1, o2, v5, v16, hh, v96, v107, sl0, sl1, sl2, fl0, tb, rw0⟩ := hk
  have hW := hF.1
  have hn := hW.1
  have y5 := v5.1
  have y119 := tb.1
  have one := Nat.one_le_two_pow (n := N 0)
  have hp := pow_le hn
  have er := q_everyRoom v5 hL hW.1
  refine ⟨g, ?_, cq⟩
  refine zsem_eq (Nat.le_of_ble_eq_true rfl) (zTo_of gX5_ahead_0 ?_)
  simp only [q00, nr, s1, zmp_s, zlt_s, zcV_s, zcI_s, zcJ_s, zcA_s, zcD_s, zcF_s, zth_n, zth_t, zrt_s, zQ_l, zQ_r, false_or, or_false, true_or, or_true, false_and, and_false, not_false_eq_true, not_true_eq_false, and_self, true_and, and_true, if_true, if_false, ite_true, ite_false, zgd_t]
  refine zTo_for (f := fun k => (11, [some (.ref 0), some (.int (nI r)), some (.int (nI o)), some (.ref 119), some (.long (lN (zsu (fun i => (fun S => if S.testBit o then 0 else nWW N (2 ^ N 2) (N 2) S r * nTT N S r) (i + 1)) k))), none, some (.int (nI (k + 1)))], [], g)) (2 ^ N 0 - 1) 0 (Nat.zero_le _) (fun k _ hk => ?_) (zTo_of gX5_ahead_11 ?_)
  · have lt0 : (nI (2 ^ N 0 - 1) < nI (k + 1)) = False := by
      rw [nI_ltI (by omega) (by omega)]; exact eq_false (by omega)
    simp only [gX5_ahead_11, q0, r2, y5, er, lt0, q_has (show k + 1 < 2 ^ 31 by omega) (show o < 32 by omega), zb_0, y119, q_toursBy tb hW tg (show k + 1 < 2 ^ N 0 by omega) hr, nI_1, zsu_s, zmp_s, zlt_s, zcV_s, zcI_s, zcJ_s, zcA_s, zcD_s, zcF_s, zth_n, zth_t, zrt_s, zQ_l, zQ_r, false_or, or_false, true_or, or_true, false_and, and_false, not_false_eq_true, not_true_eq_false, and_self, true_and, and_true, if_true, if_false, ite_true, ite_false, zgd_t]
    cases w : (k + 1).testBit o with
    | false => simp [lN_add]
    | true => simp
  · have lt0 : (nI (2 ^ N 0 - 1) < nI (2 ^ N 0 - 1 + 1)) = True := by
      rw [nI_ltI (by omega) (by omega)]; exact eq_true (by omega)
    simp only [q0, r2, y5, er, lt0, zmp_s, zlt_s, zcV_s, zcI_s, zcJ_s, zcA_s, zcD_s, zcF_s, zth_n, zth_t, zrt_s, zQ_l, zQ_r, false_or, or_false, true_or, or_true, false_and, and_false, not_false_eq_true, not_true_eq_false, and_self, true_and, and_true, if_true, if_false, ite_true, ite_false, zgd_t]
    rfl
theorem m_aheadS {h : zm_H} {N : zLv} {r : Nat} (c : CI h N) (hr : r < N 0) : sX5_ahead [.ref 0, .int (nI r), .int (nI r)] h = some (.inr 1, h) := by
  have q0 := c.1.1
  refine zsem_eq (Nat.le_of_ble_eq_true rfl) (zTo_of gX5_ahead_0 ?_)
  simp only [q0, m_needTwoS c hr, zmp_s, zlt_s, zcV_s, zcI_s, zcJ_s, zcA_s, zcD_s, zcF_s, zth_n, zth_t, zrt_s, zQ_l, zQ_r, zgd_t]
theorem m_aheadX {h : zm_H} {N : zLv} {x y : Int32} (c : CI h N) (hx : (x < 0 ∨ nI (N 0) ≤ x) ∨ ((∃ r, r < N 0 ∧ x = nI r) ∧ (y < 0 ∨ nI (N 0) ≤ y))) : sX5_ahead [.ref 0, .int x, .int y] h = some (.inr 2, h) := by
  have q0 := c.1.1
  refine zsem_eq (Nat.le_of_ble_eq_true rfl) (zTo_of gX5_ahead_0 ?_)
  simp only [q0, m_needTwoX c hx, zmp_s, zlt_s, zcV_s, zcI_s, zcJ_s, zcA_s, zcD_s, zcF_s, zth_n, zth_t, zrt_s, zQ_l, zQ_r, zgd_t]
theorem m_atPlace {h : zm_H} {N : zLv} {r p : Nat} (c : CI h N) (hr : r < N 0) (ho : p < N 0) : ∃ g, sX5_atPlace [.ref 0, .int (nI r), .int (nI p)] h = some (.inl (some (.long (lN (nAt N r p)))), g) ∧ CQ N h g := by
  have q00 := c.1.1
  have nr := m_needRoom c hr
  have np := m_needPlace c ho
  obtain ⟨g, s1, cq, tg⟩ := m_solved c
  have c2 := c.go cq
  obtain ⟨hk, hL, hF, hst, ho5, ho16⟩ := c2
  obtain ⟨q0, r0, r1, r2, r3, r4, r5, r6, r7, r9, i0, i1, i2, o0, o1, o2, v5, v16, hh, v96, v107, sl0, sl1, sl2, fl0, tb, rw0⟩ := hk
  have hW := hF.1
  have hn := hW.1
  have y5 := v5.1
  have y119 := tb.1
  have one := Nat.one_le_two_pow (n := N 0)
  have hp := pow_le hn
  have er := q_everyRoom v5 hL hW.1
  refine ⟨g, ?_, cq⟩
  refine zsem_eq (Nat.le_of_ble_eq_true rfl) (zTo_of gX5_atPlace_0 ?_)
  simp only [q00, nr, np, s1, zmp_s, zlt_s, zcV_s, zcI_s, zcJ_s, zcA_s, zcD_s, zcF_s, zth_n, zth_t, zrt_s, zQ_l, zQ_r, false_or, or_false, true_or, or_true, false_and, and_false, not_false_eq_true, not_true_eq_false, and_self, true_and, and_true, if_true, if_false, ite_true, ite_false, zgd_t]
  refine zTo_for (f := fun k => (13, [some (.ref 0), some (.int (nI r)), some (.int (nI p)), some (.ref 119), some (.long (lN (zsu (fun i => (fun S => if npc S 11 = p + 1 then nWW N (2 ^ N 2) (N 2) S r * nTT N S r else 0) (i + 1)) k))), none, some (.int (nI (k + 1)))], [], g)) (2 ^ N 0 - 1) 0 (Nat.zero_le _) (fun k _ hk => ?_) (zTo_of gX5_atPlace_13 ?_)
  · have lt0 : (nI (2 ^ N 0 - 1) < nI (k + 1)) = False := by
      rw [nI_ltI (by omega) (by omega)]; exact eq_false (by omega)
    have pl : npc (k + 1) 11 ≤ 11 := npc_le _ _
    simp only [gX5_atPlace_13, q0, r2, y5, er, lt0, q_bitCount (show k + 1 < 2048 by omega), nI_1, nI_eq (show npc (k + 1) 11 < 2 ^ 31 by omega) (show p + 1 < 2 ^ 31 by omega), y119, q_toursBy tb hW tg (show k + 1 < 2 ^ N 0 by omega) hr, zsu_s, zmp_s, zlt_s, zcV_s, zcI_s, zcJ_s, zcA_s, zcD_s, zcF_s, zth_n, zth_t, zrt_s, zQ_l, zQ_r, false_or, or_false, true_or, or_true, false_and, and_false, not_false_eq_true, not_true_eq_false, and_self, true_and, and_true, if_true, if_false, ite_true, ite_false, zgd_t]
    by_cases w : npc (k + 1) 11 = p + 1
    · simp [w, lN_add]
    · simp [w]
  · have lt0 : (nI (2 ^ N 0 - 1) < nI (2 ^ N 0 - 1 + 1)) = True := by
      rw [nI_ltI (by omega) (by omega)]; exact eq_true (by omega)
    simp only [q0, r2, y5, er, lt0, zmp_s, zlt_s, zcV_s, zcI_s, zcJ_s, zcA_s, zcD_s, zcF_s, zth_n, zth_t, zrt_s, zQ_l, zQ_r, false_or, or_false, true_or, or_true, false_and, and_false, not_false_eq_true, not_true_eq_false, and_self, true_and, and_true, if_true, if_false, ite_true, ite_false, zgd_t]
    rfl
theorem m_atPlaceX {h : zm_H} {N : zLv} {x y : Int32} (c : CI h N) (hx : x < 0 ∨ nI (N 0) ≤ x) : sX5_atPlace [.ref 0, .int x, .int y] h = some (.inr 2, h) := by
  have q0 := c.1.1
  refine zsem_eq (Nat.le_of_ble_eq_true rfl) (zTo_of gX5_atPlace_0 ?_)
  simp only [q0, m_needRoomX c hx, zmp_s, zlt_s, zcV_s, zcI_s, zcJ_s, zcA_s, zcD_s, zcF_s, zth_n, zth_t, zrt_s, zQ_l, zQ_r, zgd_t]
theorem m_atPlaceY {h : zm_H} {N : zLv} {r : Nat} {y : Int32} (c : CI h N) (hr : r < N 0) (hy : y < 0 ∨ nI (N 0) ≤ y) : sX5_atPlace [.ref 0, .int (nI r), .int y] h = some (.inr 1, h) := by
  have q0 := c.1.1
  refine zsem_eq (Nat.le_of_ble_eq_true rfl) (zTo_of gX5_atPlace_0 ?_)
  simp only [q0, m_needRoom c hr, m_needPlaceX c hy, zmp_s, zlt_s, zcV_s, zcI_s, zcJ_s, zcA_s, zcD_s, zcF_s, zth_n, zth_t, zrt_s, zQ_l, zQ_r, zgd_t]
end ZC6

