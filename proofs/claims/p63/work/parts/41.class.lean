/-! THE CLASS: its object, what is tested, what is solved. -/
section ZCL
def L5 : Nat := 5
def L16 : Nat := 16
theorem L5e : L5 = 5 := rfl
theorem L16e : L16 = 16 := rfl
/-- the object and what it holds -/
def ktS (h : zm_H) : Prop := zK h 0 = (11, 12) ∧ zP h 0 0 = some 1 ∧ zP h 0 1 = some 3 ∧ zP h 0 2 = some L5 ∧ zP h 0 3 = some L16 ∧ zP h 0 4 = some 27 ∧ zP h 0 5 = some 95 ∧ zP h 0 6 = some 118 ∧ zP h 0 7 = some 119 ∧ zP h 0 9 = some 124 ∧
  zK h 1 = (6, 2) ∧ zP h 1 0 = some 2 ∧ zK h 2 = (0, 500) ∧ zK h 3 = (6, 2) ∧ zP h 3 0 = some 4 ∧ zK h 4 = (0, 77) ∧ lvS h L5 ∧ lvS h L16 ∧ hiS h ∧ lvS h 96 ∧ lvS h 107 ∧ zK h 95 = (5, 2) ∧ zP h 95 0 = some 96 ∧ zP h 95 1 = some 107 ∧ zK h 118 = (3, 2) ∧ tbS h 119 ∧ zK h 124 = (0, 11)
theorem hiS_kp {h h2 : zm_H} (k : zK h2 = zK h) (p : zP h2 = zP h) (hS : hiS h) : hiS h2 := by
  obtain ⟨a, b, c, d, e⟩ := hS
  exact ⟨by rw [k]; exact a, by rw [p]; exact b, by rw [k]; exact c, fun i hi => by rw [p]; exact d i hi, fun i hi => lvS_kp k p (e i hi)⟩
theorem ktS_kp {h h2 : zm_H} (k : zK h2 = zK h) (p : zP h2 = zP h) (hS : ktS h) : ktS h2 := by
  obtain ⟨q0, r0, r1, r2, r3, r4, r5, r6, r7, r9, i0, i1, i2, o0, o1, o2, v5, v16, hh, v96, v107, s0, s1, s2, fl0, tb, rw0⟩ := hS
  unfold ktS
  rw [k, p]
  exact ⟨q0, r0, r1, r2, r3, r4, r5, r6, r7, r9, i0, i1, i2, o0, o1, o2, lvS_kp k p v5, lvS_kp k p v16, hiS_kp k p hh, lvS_kp k p v96, lvS_kp k p v107, s0, s1, s2, fl0, tbS_kp k p tb, rw0⟩
/-- a level that is right -/
def WF (N : zLv) : Prop := WB N ∧ 1 ≤ N 0 ∧ N 2 < N 0 ∧ N 3 ≤ N 0 ∧ 1 ≤ N 4 ∧ N 4 ≤ N 0 ∧ N 5 = N 2 ∧ (∀ k, k + 1 < N 4 → nnx N (nsk (nwk N) (k + 1)) (nwk N k) (nwk N (k + 1)) = true) ∧ ∀ r, r < N 0 → N (18 + 3 * r) < 27 ^ 6
def STL (h : zm_H) (N : zLv) : Prop := zI h 0 8 = 1 ∨ (zI h 0 8 = 0 ∧ TBg h 119 N (2 ^ N 2) (N 2))
def CI (h : zm_H) (N : zLv) : Prop := ktS h ∧ KL h L5 N ∧ WF N ∧ STL h N ∧ lvO h L5 ∧ lvO h L16
/-- rows that a question uses -/
def scA : Nat → Prop := fun c => c = 0 ∨ c = 15 ∨ (16 ≤ c ∧ c ≤ 26) ∨ (119 ≤ c ∧ c ≤ 124)
def CQ (N : zLv) (h g : zm_H) : Prop := zFr scA h g ∧ zI g 0 10 = zI h 0 10 ∧ zI g 0 11 = zI h 0 11 ∧ STL g N ∧ lvO g L16
theorem CQ.tr {N : zLv} {h g k : zm_H} (p : CQ N h g) (q : CQ N g k) : CQ N h k := ⟨p.1.tr q.1, q.2.1.trans p.2.1, q.2.2.1.trans p.2.2.1, q.2.2.2⟩
theorem CI.rf {N : zLv} {h : zm_H} (c : CI h N) : CQ N h h := ⟨zFr.rf, rfl, rfl, c.2.2.2.1, c.2.2.2.2.2⟩
theorem CI.go {N : zLv} {h g : zm_H} (c : CI h N) (q : CQ N h g) : CI g N := by
  obtain ⟨hk, hL, hF, hst, ho5, ho16⟩ := c
  refine ⟨ktS_kp q.1.K q.1.P hk, KL_fr q.1 (fun i hi e => by unfold scA at e; rw [L5e] at e; omega) hL, hF, q.2.2.2.1, lvO_fr q.1 (fun e => by unfold scA at e; rw [L5e] at e; omega) ho5, q.2.2.2.2⟩
theorem one_bit (r : Nat) : (2 ^ r).testBit r = true := by rw [Nat.testBit_two_pow]; simp
theorem WF.bit {N : zLv} (hF : WF N) : 2 ^ N 2 < 2 ^ N 0 ∧ (2 ^ N 2).testBit (N 2) = true := ⟨Nat.pow_lt_pow_right (by omega) hF.2.2.1, one_bit _⟩
def svA : Nat → Prop := fun c => c = 0 ∨ c = 15 ∨ (119 ≤ c ∧ c ≤ 123)
theorem m_solvedX {h : zm_H} {N : zLv} (c : CI h N) : ∃ g, sX5_solved [.ref 0] h = some (.inl (some (.ref 119)), g) ∧ CQ N h g ∧ TBg g 119 N (2 ^ N 2) (N 2) ∧ zFr svA h g ∧ zI g 0 8 = 0 ∧ (zI h 0 8 = 0 → g = h) := by
  have c0 := c
  obtain ⟨hk, hL, hF, hst, ho5, ho16⟩ := c
  have hk0 := hk
  obtain ⟨q0, r0, r1, r2, r3, r4, r5, r6, r7, r9, i0, i1, i2, o0, o1, o2, v5, v16, hh, v96, v107, sl0, sl1, sl2, fl0, tb, rw0⟩ := hk
  obtain ⟨hW, hn1, hs, he, hw1, hw2, hw3, hw4⟩ := hF
  rcases hst with st | ⟨st, tg⟩
  · obtain ⟨g1, s1', fr1, b1⟩ := q_spread tb v5 hL hW (by have := hW.1; omega) (show L5 + 10 < 119 ∨ 119 + 4 < L5 by rw [L5e]; omega) (c0.2.2.1.bit).1 hs (c0.2.2.1.bit).2
    obtain ⟨g2, s2', fr2, b2⟩ := q_gather (tbS_kp fr1.K fr1.P tb) hW b1 (c0.2.2.1.bit).2
    have K1 := fr1.K
    have P1 := fr1.P
    have K2 : zK g2 = zK h := fr2.K.trans fr1.K
    have P2 : zP g2 = zP h := fr2.P.trans fr1.P
    have l2 := hL.2.2.1
    have y5 := v5.1
    have y119 := tb.1
    have e1 : (1 : Int32) <<< (nI (N 2) &&& 31) = nI (2 ^ N 2) := nx_shl1 (by have := hW.1; omega)
    refine ⟨zsI g2 0 8 0, ?_, ⟨?_, ?_, ?_, Or.inr ⟨?_, ?_⟩, ?_⟩, ?_, ?_, ?_, ?_⟩
    · refine zsem_eq (Nat.le_of_ble_eq_true rfl) (zTo_of gX5_solved_0 ?_)
      simp only [q0, st, show ((1 : Int32) = 0) = False by decide, r7, r2, y5, l2, e1, y119, s1', K1, P1, s2', K2, P2, K_sI, K_sJ, K_sD, K_sP, K_rI, K_rJ, P_sI, P_sJ, P_sD, P_rI, P_rJ, N_sI, N_sJ, N_sD, N_sP, N_rI, N_rJ, J_sI, J_sD, J_sP, J_rI, I_sJ, I_sD, I_sP, I_rJ, D_sI, D_sJ, D_sP, D_rI, D_rJ, zmp_s, zlt_s, zcV_s, zcI_s, zcJ_s, zcA_s, zcD_s, zcF_s, zth_n, zth_t, zrt_s, zQ_l, zQ_r, false_or, or_false, true_or, or_true, false_and, and_false, not_false_eq_true, not_true_eq_false, and_self, true_and, and_true, if_true, if_false, ite_true, ite_false, zgd_t]
    · refine ((fr1.mono (fun c hc => ?_)).tr (fr2.mono (fun c hc => ?_))).tr (zFr.sI (Or.inl rfl))
      · unfold tAl at hc; unfold scA; rw [L5e] at hc; omega
      · unfold scA; omega
    · rw [I_sIs, zput_ne _ _ (by omega), fr2.I (by omega), fr1.I (fun e => by unfold tAl at e; rw [L5e] at e; omega)]
    · rw [I_sIs, zput_ne _ _ (by omega), fr2.I (by omega), fr1.I (fun e => by unfold tAl at e; rw [L5e] at e; omega)]
    · rw [I_sIs, zput_self]
    · exact TBg_off (A := fun c => c = 0) (zFr.sI rfl) (fun i hi => by omega) b2
    · refine lvO_fr (A := fun c => c = 0) (zFr.sI rfl) (by omega) (lvO_fr fr2 (by rw [L16e]; omega) (lvO_fr fr1 (fun e => by unfold tAl at e; rw [L5e, L16e] at e; omega) ho16))
    · exact TBg_off (A := fun c => c = 0) (zFr.sI rfl) (fun i hi => by omega) b2
    · refine ((fr1.mono (fun c hc => ?_)).tr (fr2.mono (fun c hc => ?_))).tr (zFr.sI (Or.inl rfl))
      · unfold tAl at hc; unfold svA; rw [L5e] at hc; omega
      · unfold svA; omega
    · rw [I_sIs, zput_self]
    · intro e; rw [st] at e; exact absurd e (by decide)
  · refine ⟨h, ?_, c0.rf, tg, zFr.rf, st, fun _ => rfl⟩
    refine zsem_eq (Nat.le_of_ble_eq_true rfl) (zTo_of gX5_solved_0 ?_)
    simp only [q0, st, r7, zmp_s, zlt_s, zcV_s, zcI_s, zcJ_s, zcA_s, zcD_s, zcF_s, zth_n, zth_t, zrt_s, zQ_l, zQ_r, false_or, or_false, true_or, or_true, false_and, and_false, not_false_eq_true, not_true_eq_false, and_self, true_and, and_true, if_true, if_false, ite_true, ite_false, zgd_t]
theorem m_solved {h : zm_H} {N : zLv} (c : CI h N) : ∃ g, sX5_solved [.ref 0] h = some (.inl (some (.ref 119)), g) ∧ CQ N h g ∧ TBg g 119 N (2 ^ N 2) (N 2) := by
  obtain ⟨g, h1, h2, h3, -⟩ := m_solvedX c
  exact ⟨g, h1, h2, h3⟩
-- tests of arguments
theorem m_needRoom {h : zm_H} {N : zLv} {r : Nat} (c : CI h N) (hr : r < N 0) : sX5_needRoom [.ref 0, .int (nI r)] h = some (.inl none, h) := by
  obtain ⟨hk, hL, hF, hst, ho5, ho16⟩ := c
  obtain ⟨q0, r0, r1, r2, r3, r4, r5, r6, r7, r9, i0, i1, i2, o0, o1, o2, v5, v16, hh, v96, v107, sl0, sl1, sl2, fl0, tb, rw0⟩ := hk
  have hn := hF.1.1
  have y5 := v5.1
  have l0 := hL.1
  refine zsem_eq (Nat.le_of_ble_eq_true rfl) (zTo_of gX5_needRoom_0 ?_)
  simp only [q0, r2, y5, l0, nI_lt0 (show r < 2 ^ 31 by omega), nI_lt hr (show N 0 < 2 ^ 31 by omega), zmp_s, zlt_s, zcV_s, zcI_s, zcJ_s, zcA_s, zcD_s, zcF_s, zth_n, zth_t, zrt_s, zQ_l, zQ_r, false_or, or_false, true_or, or_true, false_and, and_false, not_false_eq_true, not_true_eq_false, and_self, true_and, and_true, if_true, if_false, ite_true, ite_false, zgd_t]
theorem m_needRoomX {h : zm_H} {N : zLv} {x : Int32} (c : CI h N) (hx : x < 0 ∨ nI (N 0) ≤ x) : sX5_needRoom [.ref 0, .int x] h = some (.inr 2, h) := by
  obtain ⟨hk, hL, hF, hst, ho5, ho16⟩ := c
  obtain ⟨q0, r0, r1, r2, r3, r4, r5, r6, r7, r9, i0, i1, i2, o0, o1, o2, v5, v16, hh, v96, v107, sl0, sl1, sl2, fl0, tb, rw0⟩ := hk
  have y5 := v5.1
  have l0 := hL.1
  refine zsem_eq (Nat.le_of_ble_eq_true rfl) (zTo_of gX5_needRoom_0 ?_)
  by_cases w : x < 0
  · simp only [w, zmp_s, zlt_s, zcV_s, zcI_s, zcJ_s, zcA_s, zcD_s, zcF_s, zth_n, zth_t, zrt_s, zQ_l, zQ_r, false_or, or_false, true_or, or_true, false_and, and_false, not_false_eq_true, not_true_eq_false, and_self, true_and, and_true, if_true, if_false, ite_true, ite_false]
  · have w2 : ¬ x < nI (N 0) := by
      rcases hx with q | q
      · exact absurd q w
      · exact Int32.not_lt.mpr q
    simp only [w, w2, q0, r2, y5, l0, zmp_s, zlt_s, zcV_s, zcI_s, zcJ_s, zcA_s, zcD_s, zcF_s, zth_n, zth_t, zrt_s, zQ_l, zQ_r, false_or, or_false, true_or, or_true, false_and, and_false, not_false_eq_true, not_true_eq_false, and_self, true_and, and_true, if_true, if_false, ite_true, ite_false, zgd_t]
theorem m_needDoor {h : zm_H} {N : zLv} {d : Nat} (c : CI h N) (hd : d < N 1) : sX5_needDoor [.ref 0, .int (nI d)] h = some (.inl none, h) := by
  obtain ⟨hk, hL, hF, hst, ho5, ho16⟩ := c
  obtain ⟨q0, r0, r1, r2, r3, r4, r5, r6, r7, r9, i0, i1, i2, o0, o1, o2, v5, v16, hh, v96, v107, sl0, sl1, sl2, fl0, tb, rw0⟩ := hk
  have hn := hF.1.2.1
  have y5 := v5.1
  have l1 := hL.2.1
  refine zsem_eq (Nat.le_of_ble_eq_true rfl) (zTo_of gX5_needDoor_0 ?_)
  simp only [q0, r2, y5, l1, nI_lt0 (show d < 2 ^ 31 by omega), nI_lt hd (show N 1 < 2 ^ 31 by omega), zmp_s, zlt_s, zcV_s, zcI_s, zcJ_s, zcA_s, zcD_s, zcF_s, zth_n, zth_t, zrt_s, zQ_l, zQ_r, false_or, or_false, true_or, or_true, false_and, and_false, not_false_eq_true, not_true_eq_false, and_self, true_and, and_true, if_true, if_false, ite_true, ite_false, zgd_t]
theorem m_needDoorX {h : zm_H} {N : zLv} {x : Int32} (c : CI h N) (hx : x < 0 ∨ nI (N 1) ≤ x) : sX5_needDoor [.ref 0, .int x] h = some (.inr 2, h) := by
  obtain ⟨hk, hL, hF, hst, ho5, ho16⟩ := c
  obtain ⟨q0, r0, r1, r2, r3, r4, r5, r6, r7, r9, i0, i1, i2, o0, o1, o2, v5, v16, hh, v96, v107, sl0, sl1, sl2, fl0, tb, rw0⟩ := hk
  have y5 := v5.1
  have l1 := hL.2.1
  refine zsem_eq (Nat.le_of_ble_eq_true rfl) (zTo_of gX5_needDoor_0 ?_)
  by_cases w : x < 0
  · simp only [w, zmp_s, zlt_s, zcV_s, zcI_s, zcJ_s, zcA_s, zcD_s, zcF_s, zth_n, zth_t, zrt_s, zQ_l, zQ_r, false_or, or_false, true_or, or_true, false_and, and_false, not_false_eq_true, not_true_eq_false, and_self, true_and, and_true, if_true, if_false, ite_true, ite_false]
  · have w2 : ¬ x < nI (N 1) := by
      rcases hx with q | q
      · exact absurd q w
      · exact Int32.not_lt.mpr q
    simp only [w, w2, q0, r2, y5, l1, zmp_s, zlt_s, zcV_s, zcI_s, zcJ_s, zcA_s, zcD_s, zcF_s, zth_n, zth_t, zrt_s, zQ_l, zQ_r, false_or, or_false, true_or, or_true, false_and, and_false, not_false_eq_true, not_true_eq_false, and_self, true_and, and_true, if_true, if_false, ite_true, ite_false, zgd_t]
theorem m_needPlace {h : zm_H} {N : zLv} {r : Nat} (c : CI h N) (hr : r < N 0) : sX5_needPlace [.ref 0, .int (nI r)] h = some (.inl none, h) := by
  obtain ⟨hk, hL, hF, hst, ho5, ho16⟩ := c
  obtain ⟨q0, r0, r1, r2, r3, r4, r5, r6, r7, r9, i0, i1, i2, o0, o1, o2, v5, v16, hh, v96, v107, sl0, sl1, sl2, fl0, tb, rw0⟩ := hk
  have hn := hF.1.1
  have y5 := v5.1
  have l0 := hL.1
  refine zsem_eq (Nat.le_of_ble_eq_true rfl) (zTo_of gX5_needPlace_0 ?_)
  simp only [q0, r2, y5, l0, nI_lt0 (show r < 2 ^ 31 by omega), nI_lt hr (show N 0 < 2 ^ 31 by omega), zmp_s, zlt_s, zcV_s, zcI_s, zcJ_s, zcA_s, zcD_s, zcF_s, zth_n, zth_t, zrt_s, zQ_l, zQ_r, false_or, or_false, true_or, or_true, false_and, and_false, not_false_eq_true, not_true_eq_false, and_self, true_and, and_true, if_true, if_false, ite_true, ite_false, zgd_t]
theorem m_needPlaceX {h : zm_H} {N : zLv} {x : Int32} (c : CI h N) (hx : x < 0 ∨ nI (N 0) ≤ x) : sX5_needPlace [.ref 0, .int x] h = some (.inr 1, h) := by
  obtain ⟨hk, hL, hF, hst, ho5, ho16⟩ := c
  obtain ⟨q0, r0, r1, r2, r3, r4, r5, r6, r7, r9, i0, i1, i2, o0, o1, o2, v5, v16, hh, v96, v107, sl0, sl1, sl2, fl0, tb, rw0⟩ := hk
  have y5 := v5.1
  have l0 := hL.1
  refine zsem_eq (Nat.le_of_ble_eq_true rfl) (zTo_of gX5_needPlace_0 ?_)
  by_cases w : x < 0
  · simp only [w, zmp_s, zlt_s, zcV_s, zcI_s, zcJ_s, zcA_s, zcD_s, zcF_s, zth_n, zth_t, zrt_s, zQ_l, zQ_r, false_or, or_false, true_or, or_true, false_and, and_false, not_false_eq_true, not_true_eq_false, and_self, true_and, and_true, if_true, if_false, ite_true, ite_false]
  · have w2 : ¬ x < nI (N 0) := by
      rcases hx with q | q
      · exact absurd q w
      · exact Int32.not_lt.mpr q
    simp only [w, w2, q0, r2, y5, l0, zmp_s, zlt_s, zcV_s, zcI_s, zcJ_s, zcA_s, zcD_s, zcF_s, zth_n, zth_t, zrt_s, zQ_l, zQ_r, false_or, or_false, true_or, or_true, false_and, and_false, not_false_eq_true, not_true_eq_false, and_self, true_and, and_true, if_true, if_false, ite_true, ite_false, zgd_t]
theorem m_needKey {k : Nat} (hk : k < 8) (h : zm_H) : sX5_needKey [.int (nI k)] h = some (.inl none, h) := by
  refine zsem_eq (Nat.le_of_ble_eq_true rfl) (zTo_of gX5_needKey_0 ?_)
  have e : (nI k < (8 : Int32)) = True := eq_true (nI_lt (b := 8) hk (by omega))
  simp only [nI_lt0 (show k < 2 ^ 31 by omega), e, zmp_s, zlt_s, zcV_s, zcI_s, zcJ_s, zcA_s, zcD_s, zcF_s, zth_n, zth_t, zrt_s, zQ_l, zQ_r, false_or, or_false, true_or, or_true, false_and, and_false, not_false_eq_true, not_true_eq_false, and_self, true_and, and_true, if_true, if_false, ite_true, ite_false]
theorem m_needKeyX {x : Int32} (hx : x < 0 ∨ nI 8 ≤ x) (h : zm_H) : sX5_needKey [.int x] h = some (.inr 2, h) := by
  refine zsem_eq (Nat.le_of_ble_eq_true rfl) (zTo_of gX5_needKey_0 ?_)
  by_cases w : x < 0
  · simp only [w, zmp_s, zlt_s, zcV_s, zcI_s, zcJ_s, zcA_s, zcD_s, zcF_s, zth_n, zth_t, zrt_s, zQ_l, zQ_r, false_or, or_false, true_or, or_true, false_and, and_false, not_false_eq_true, not_true_eq_false, and_self, true_and, and_true, if_true, if_false, ite_true, ite_false]
  · have w2 : ¬ x < (8 : Int32) := by
      rcases hx with q | q
      · exact absurd q w
      · exact Int32.not_lt.mpr q
    simp only [w, w2, zmp_s, zlt_s, zcV_s, zcI_s, zcJ_s, zcA_s, zcD_s, zcF_s, zth_n, zth_t, zrt_s, zQ_l, zQ_r, false_or, or_false, true_or, or_true, false_and, and_false, not_false_eq_true, not_true_eq_false, and_self, true_and, and_true, if_true, if_false, ite_true, ite_false]
theorem m_needTwo {h : zm_H} {N : zLv} {r s : Nat} (c : CI h N) (hr : r < N 0) (hs : s < N 0) (hne : r ≠ s) : sX5_needTwoRooms [.ref 0, .int (nI r), .int (nI s)] h = some (.inl none, h) := by
  have q0 := c.1.1
  have hn := c.2.2.1.1.1
  refine zsem_eq (Nat.le_of_ble_eq_true rfl) (zTo_of gX5_needTwoRooms_0 ?_)
  simp only [q0, m_needRoom c hr, m_needRoom c hs, nI_eq (show r < 2 ^ 31 by omega) (show s < 2 ^ 31 by omega), hne, zmp_s, zlt_s, zcV_s, zcI_s, zcJ_s, zcA_s, zcD_s, zcF_s, zth_n, zth_t, zrt_s, zQ_l, zQ_r, false_or, or_false, true_or, or_true, false_and, and_false, not_false_eq_true, not_true_eq_false, and_self, true_and, and_true, if_true, if_false, ite_true, ite_false, zgd_t]
theorem m_needTwoS {h : zm_H} {N : zLv} {r : Nat} (c : CI h N) (hr : r < N 0) : sX5_needTwoRooms [.ref 0, .int (nI r), .int (nI r)] h = some (.inr 1, h) := by
  have q0 := c.1.1
  refine zsem_eq (Nat.le_of_ble_eq_true rfl) (zTo_of gX5_needTwoRooms_0 ?_)
  simp only [q0, m_needRoom c hr, zmp_s, zlt_s, zcV_s, zcI_s, zcJ_s, zcA_s, zcD_s, zcF_s, zth_n, zth_t, zrt_s, zQ_l, zQ_r, false_or, or_false, true_or, or_true, false_and, and_false, not_false_eq_true, not_true_eq_false, and_self, true_and, and_true, if_true, if_false, ite_true, ite_false, zgd_t]
theorem m_needTwoX {h : zm_H} {N : zLv} {x y : Int32} (c : CI h N) (hx : (x < 0 ∨ nI (N 0) ≤ x) ∨ ((∃ r, r < N 0 ∧ x = nI r) ∧ (y < 0 ∨ nI (N 0) ≤ y))) : sX5_needTwoRooms [.ref 0, .int x, .int y] h = some (.inr 2, h) := by
  have q0 := c.1.1
  refine zsem_eq (Nat.le_of_ble_eq_true rfl) (zTo_of gX5_needTwoRooms_0 ?_)
  rcases hx with hx | ⟨⟨r, hr, rfl⟩, hy⟩
  · simp only [q0, m_needRoomX c hx, zmp_s, zlt_s, zcV_s, zcI_s, zcJ_s, zcA_s, zcD_s, zcF_s, zth_n, zth_t, zrt_s, zQ_l, zQ_r, false_or, or_false, true_or, or_true, false_and, and_false, not_false_eq_true, not_true_eq_false, and_self, true_and, and_true, if_true, if_false, ite_true, ite_false, zgd_t]
  · simp only [q0, m_needRoom c hr, m_needRoomX c hy, zmp_s, zlt_s, zcV_s, zcI_s, zcJ_s, zcA_s, zcD_s, zcF_s, zth_n, zth_t, zrt_s, zQ_l, zQ_r, false_or, or_false, true_or, or_true, false_and, and_false, not_false_eq_true, not_true_eq_false, and_self, true_and, and_true, if_true, if_false, ite_true, ite_false, zgd_t]
/-- tours -/
def nTo (N : zLv) : Nat := nTT N (2 ^ N 2) (N 2)
theorem nTB_start {N : zLv} : nTB N (2 ^ N 2) (N 2) (2 ^ N 2) (N 2) = nTo N := by
  unfold nTB nWW
  rw [nW_start, if_pos rfl, if_pos (by omega)]; rfl
theorem nTo_lt {N : zLv} (hF : WF N) : nTo N < 2 ^ 40 := nTT_lt hF.1 (hF.bit).1 _
theorem m_needTour {h : zm_H} {N : zLv} {k : Nat} (c : CI h N) (hk : k < nTo N) : ∃ g, sX5_needTour [.ref 0, .long (lN k)] h = some (.inl none, g) ∧ CQ N h g ∧ TBg g 119 N (2 ^ N 2) (N 2) := by
  obtain ⟨g, s1, cq, tg⟩ := m_solved c
  have c2 := c.go cq
  have c3 := c2
  have tl := nTo_lt c.2.2.1
  obtain ⟨hk, hL, hF, hst, ho5, ho16⟩ := c2
  obtain ⟨q0, r0, r1, r2, r3, r4, r5, r6, r7, r9, i0, i1, i2, o0, o1, o2, v5, v16, hh, v96, v107, sl0, sl1, sl2, fl0, tb, rw0⟩ := hk
  have y5 := v5.1
  have l2 := hL.2.2.1
  have y119 := tb.1
  have q00 := c.1.1
  have e1 : (1 : Int32) <<< (nI (N 2) &&& 31) = nI (2 ^ N 2) := nx_shl1 (by have := hF.1.1; have := hF.2.2.1; omega)
  have e2 : (lg_cmp (lN k) (0 : Int64) < 0) = False := eq_false (by
    rw [lg_cmp_lt]
    show ¬ lN k < lN 0
    rw [pk_lLT (by omega) (by omega)]; omega)
  have e3 : (lg_cmp (lN k) (lN (nTo N)) < 0) = True := eq_true (by
    rw [lg_cmp_lt, pk_lLT (by omega) (by omega)]; exact hk)
  refine ⟨g, ?_, cq, tg⟩
  refine zsem_eq (Nat.le_of_ble_eq_true rfl) (zTo_of gX5_needTour_0 ?_)
  simp only [q00, s1, q0, r2, y5, l2, e1, y119, q_begun tb hF.1 tg (hF.bit).1 hF.2.2.1, nTB_start, e2, e3, zmp_s, zlt_s, zcV_s, zcI_s, zcJ_s, zcA_s, zcD_s, zcF_s, zth_n, zth_t, zrt_s, zQ_l, zQ_r, false_or, or_false, true_or, or_true, false_and, and_false, not_false_eq_true, not_true_eq_false, and_self, true_and, and_true, if_true, if_false, ite_true, ite_false, zgd_t]
theorem m_needTourX {h : zm_H} {N : zLv} {x : Int64} (c : CI h N) (hx : x < 0 ∨ lN (nTo N) ≤ x) : ∃ g, sX5_needTour [.ref 0, .long x] h = some (.inr 1, g) ∧ CQ N h g := by
  obtain ⟨g, s1, cq, tg⟩ := m_solved c
  have c2 := c.go cq
  obtain ⟨hk, hL, hF, hst, ho5, ho16⟩ := c2
  obtain ⟨q0, r0, r1, r2, r3, r4, r5, r6, r7, r9, i0, i1, i2, o0, o1, o2, v5, v16, hh, v96, v107, sl0, sl1, sl2, fl0, tb, rw0⟩ := hk
  have y5 := v5.1
  have l2 := hL.2.2.1
  have y119 := tb.1
  have q00 := c.1.1
  have e1 : (1 : Int32) <<< (nI (N 2) &&& 31) = nI (2 ^ N 2) := nx_shl1 (by have := hF.1.1; have := hF.2.2.1; omega)
  refine ⟨g, ?_, cq⟩
  refine zsem_eq (Nat.le_of_ble_eq_true rfl) (zTo_of gX5_needTour_0 ?_)
  simp only [q00, s1, q0, r2, y5, l2, e1, y119, q_begun tb hF.1 tg (hF.bit).1 hF.2.2.1, nTB_start, lg_cmp_lt, zmp_s, zlt_s, zcV_s, zcI_s, zcJ_s, zcA_s, zcD_s, zcF_s, zth_n, zth_t, zrt_s, zQ_l, zQ_r, zgd_t]
  by_cases w : x < 0
  · have w' : (x < (0 : Int64)) = True := eq_true w
    simp only [w', zmp_s, zlt_s, zcV_s, zcI_s, zcJ_s, zcA_s, zcD_s, zcF_s, zth_n, zth_t, zrt_s, zQ_l, zQ_r, false_or, or_false, true_or, or_true, false_and, and_false, not_false_eq_true, not_true_eq_false, and_self, true_and, and_true, if_true, if_false, ite_true, ite_false]
  · have w2 : ¬ x < lN (nTo N) := by
      rcases hx with q | q
      · exact absurd q w
      · exact Int64.not_lt.mpr q
    simp only [w, w2, zmp_s, zlt_s, zcV_s, zcI_s, zcJ_s, zcA_s, zcD_s, zcF_s, zth_n, zth_t, zrt_s, zQ_l, zQ_r, false_or, or_false, true_or, or_true, false_and, and_false, not_false_eq_true, not_true_eq_false, and_self, true_and, and_true, if_true, if_false, ite_true, ite_false]
theorem m_tours {h : zm_H} {N : zLv} (c : CI h N) : ∃ g, sX5_tours [.ref 0] h = some (.inl (some (.long (lN (nTo N)))), g) ∧ CQ N h g := by
  obtain ⟨g, s1, cq, tg⟩ := m_solved c
  have c2 := c.go cq
  obtain ⟨hk, hL, hF, hst, ho5, ho16⟩ := c2
  obtain ⟨q0, r0, r1, r2, r3, r4, r5, r6, r7, r9, i0, i1, i2, o0, o1, o2, v5, v16, hh, v96, v107, sl0, sl1, sl2, fl0, tb, rw0⟩ := hk
  have y5 := v5.1
  have l2 := hL.2.2.1
  have y119 := tb.1
  have q00 := c.1.1
  have e1 : (1 : Int32) <<< (nI (N 2) &&& 31) = nI (2 ^ N 2) := nx_shl1 (by have := hF.1.1; have := hF.2.2.1; omega)
  refine ⟨g, ?_, cq⟩
  refine zsem_eq (Nat.le_of_ble_eq_true rfl) (zTo_of gX5_tours_0 ?_)
  simp only [q00, s1, q0, r2, y5, l2, e1, y119, q_begun tb hF.1 tg (hF.bit).1 hF.2.2.1, nTB_start, zmp_s, zlt_s, zcV_s, zcI_s, zcJ_s, zcA_s, zcD_s, zcF_s, zth_n, zth_t, zrt_s, zQ_l, zQ_r, zgd_t]
-- the walk's rooms as a set
theorem nset_nsk (N : zLv) : nset N = nsk (nwk N) (N 4) := rfl
theorem WF.wk {N : zLv} (hF : WF N) {k : Nat} (hk : k < N 4) : nwk N k < N 0 := hF.1.2.2.2.2.2 k hk
theorem WF.set_lt {N : zLv} (hF : WF N) {k : Nat} (hk : k ≤ N 4) : nsk (nwk N) k < 2 ^ N 0 := nsk_lt k (fun i hi => hF.wk (by omega))
theorem WF.reach {N : zLv} (hF : WF N) : ∀ k, k < N 4 → 0 < nWW N (2 ^ N 2) (N 2) (nsk (nwk N) (k + 1)) (nwk N k) := by
  intro k
  induction k with
  | zero =>
    intro _
    have e1 : nwk N 0 = N 2 := hF.2.2.2.2.2.2.1
    have e2 : nsk (nwk N) 1 = 2 ^ N 2 := by
      show 0 ||| 2 ^ nwk N 0 = _
      rw [Nat.zero_or, e1]
    rw [e2, e1]
    unfold nWW
    rw [nW_start, if_pos rfl]; omega
  | succ k ih =>
    intro hk
    exact nWW_on hF.1 (hF.wk (by omega)) (ih (by omega)) (hF.2.2.2.2.2.2.2.1 k (by omega))
theorem WF.pc {N : zLv} (hF : WF N) : ∀ k, k < N 4 → npc (nsk (nwk N) (k + 1)) (N 0) = k + 1 := by
  intro k
  induction k with
  | zero =>
    intro hk
    have e2 : nsk (nwk N) 1 = 0 ||| 2 ^ nwk N 0 := rfl
    rw [e2, npc_or _ (hF.wk hk) (Nat.zero_testBit _)]
    have : npc 0 (N 0) = 0 := zsu_0 _ (fun i _ => by rw [Nat.zero_testBit]; rfl)
    rw [this]
  | succ k ih =>
    intro hk
    obtain ⟨x1, x2⟩ := nnx_ok hF.1 _ _ _ (hF.2.2.2.2.2.2.2.1 k (by omega))
    show npc (nsk (nwk N) (k + 1) ||| 2 ^ nwk N (k + 1)) (N 0) = _
    rw [npc_or _ x1 x2, ih (by omega)]
/-- tours that begin with the walk -/
def nCo (N : zLv) : Nat := nTT N (nset N) (N (4 + N 4))
theorem nCo_at {N : zLv} (hF : WF N) : nTB N (2 ^ N 2) (N 2) (nset N) (N (4 + N 4)) = nCo N := by
  have h1 := hF.reach (N 4 - 1) (by have := hF.2.2.2.2.1; omega)
  have e : N 4 - 1 + 1 = N 4 := by have := hF.2.2.2.2.1; omega
  rw [e] at h1
  have e2 : nwk N (N 4 - 1) = N (4 + N 4) := by
    unfold nwk
    rw [show 5 + (N 4 - 1) = 4 + N 4 by omega]
  rw [e2] at h1
  unfold nTB nCo
  rw [nset_nsk, if_pos h1]
theorem WF.last {N : zLv} (hF : WF N) : N (4 + N 4) < N 0 := by
  have h1 := hF.wk (show N 4 - 1 < N 4 by have := hF.2.2.2.2.1; omega)
  unfold nwk at h1
  rwa [show 5 + (N 4 - 1) = 4 + N 4 by have := hF.2.2.2.2.1; omega] at h1
theorem WF.walk32 {N : zLv} (hF : WF N) : ∀ k, k < N 4 → N (5 + k) < 32 := fun k hk => by
  have h1 := hF.wk hk
  have h2 := hF.1.1
  unfold nwk at h1
  omega
theorem m_completions {h : zm_H} {N : zLv} (c : CI h N) : ∃ g, sX5_completions [.ref 0] h = some (.inl (some (.long (lN (nCo N)))), g) ∧ CQ N h g := by
  obtain ⟨g, s1, cq, tg⟩ := m_solved c
  have c2 := c.go cq
  obtain ⟨hk, hL, hF, hst, ho5, ho16⟩ := c2
  obtain ⟨q0, r0, r1, r2, r3, r4, r5, r6, r7, r9, i0, i1, i2, o0, o1, o2, v5, v16, hh, v96, v107, sl0, sl1, sl2, fl0, tb, rw0⟩ := hk
  have y5 := v5.1
  have y119 := tb.1
  have q00 := c.1.1
  have sl := hF.set_lt (Nat.le_refl (N 4))
  rw [← nset_nsk] at sl
  refine ⟨g, ?_, cq⟩
  refine zsem_eq (Nat.le_of_ble_eq_true rfl) (zTo_of gX5_completions_0 ?_)
  simp only [q00, s1, q0, r2, y5, y119, q_walkSet v5 hL hF.1.2.2.1 hF.walk32, q_lastRoom v5 hL hF.1.2.2.1 hF.2.2.2.2.1, q_begun tb hF.1 tg sl hF.last, nCo_at hF, zmp_s, zlt_s, zcV_s, zcI_s, zcJ_s, zcA_s, zcD_s, zcF_s, zth_n, zth_t, zrt_s, zQ_l, zQ_r, zgd_t]
end ZCL

