/-! THE LAW: an act. -/
section ZLA
section
variable {h : zm_H} {N : zLv} {P : List zLv}
def RA (y : zm_O) : Prop := ∃ v g, y = (.inl (some (.long v)), g) ∧ LR g
theorem LR_q {g : zm_H} (c : CI h N) (H : HH h P) (h6 : N 0 ≤ 6) (Q : CQ N h g) : LR g := ⟨N, P, c.go Q, HH_fr Q.1 (fun c h1 h2 => by unfold scA; omega) H, h6⟩
theorem LR_t {g : zm_H} {M : zLv} (h6 : N 0 ≤ 6) (e : M 0 = N 0) {Q : List zLv} (T : CT h g M Q) : LR g := ⟨M, Q, T.2.2.2.1, T.2.2.2.2, by omega⟩
theorem w_went {r : Nat} (c : CI h N) (H : HH h P) (h6 : N 0 ≤ 6) (hr : r < N 0) : ∃ v g, sL_went [.ref 0, .int (nI r)] h = some (.inl (some (.long v)), g) ∧ LR g := by
  have q0 := c.1.1
  by_cases w : nWhy N r = 0
  · obtain ⟨g, s, T⟩ := m_go c H hr w
    refine ⟨lN (nCo (nGo1 N r)), g, ?_, LR_t h6 ?_ T⟩
    · refine zsem_eq (Nat.le_of_ble_eq_true rfl) (zTo_of (gL_went_n s) ?_)
      simp only [q0, zmp_s, zlt_s, zcV_s, zcI_s, zcJ_s, zcA_s, zcD_s, zcF_s, zth_n, zth_t, zrt_s, zQ_l, zQ_r, false_or, or_false, true_or, or_true, false_and, and_false, not_false_eq_true, not_true_eq_false, and_self, true_and, and_true, if_true, if_false, ite_true, ite_false, zgd_t]
    · unfold nGo1
      rw [zput_ne _ _ (by omega), zput_ne _ _ (by omega)]
  · have s := m_goY c hr w
    refine ⟨-9, h, ?_, LR_q c H h6 c.rf⟩
    refine zsem_eq (Nat.le_of_ble_eq_true rfl) (zTo_of (gL_went_t0 s) ?_)
    simp only [q0, zmp_s, zlt_s, zcV_s, zcI_s, zcJ_s, zcA_s, zcD_s, zcF_s, zth_n, zth_t, zrt_s, zQ_l, zQ_r, false_or, or_false, true_or, or_true, false_and, and_false, not_false_eq_true, not_true_eq_false, and_self, true_and, and_true, if_true, if_false, ite_true, ite_false, zgd_t]
theorem nCm_0 (hF : WF N) : nCm N 0 = N 0 := nWl_lo hF.1.1 (Or.inl (by omega))
theorem w_completed (c : CI h N) (H : HH h P) (h6 : N 0 ≤ 6) : ∃ v g, sL_completed [.ref 0] h = some (.inl (some (.long v)), g) ∧ LR g := by
  have q0 := c.1.1
  by_cases w : nCo N = 0
  · obtain ⟨g, s, Q⟩ := m_completeX c w
    refine ⟨-9, g, ?_, LR_q c H h6 Q⟩
    refine zsem_eq (Nat.le_of_ble_eq_true rfl) (zTo_of (gL_completed_t0 s) ?_)
    simp only [q0, zmp_s, zlt_s, zcV_s, zcI_s, zcJ_s, zcA_s, zcD_s, zcF_s, zth_n, zth_t, zrt_s, zQ_l, zQ_r, false_or, or_false, true_or, or_true, false_and, and_false, not_false_eq_true, not_true_eq_false, and_self, true_and, and_true, if_true, if_false, ite_true, ite_false, zgd_t]
  · obtain ⟨g, s, T⟩ := m_complete c H w
    refine ⟨(nI (N 0 - N 4)).toInt64, g, ?_, LR_t h6 (nCm_0 c.2.2.1) T⟩
    refine zsem_eq (Nat.le_of_ble_eq_true rfl) (zTo_of (gL_completed_n s) ?_)
    simp only [q0, zmp_s, zlt_s, zcV_s, zcI_s, zcJ_s, zcA_s, zcD_s, zcF_s, zth_n, zth_t, zrt_s, zQ_l, zQ_r, false_or, or_false, true_or, or_true, false_and, and_false, not_false_eq_true, not_true_eq_false, and_self, true_and, and_true, if_true, if_false, ite_true, ite_false, zgd_t]
theorem w_doored {r s : Nat} (b : Bool) (c : CI h N) (H : HH h P) (h6 : N 0 ≤ 6) (hr : r < N 0) (hs : s < N 0) : ∃ v g, sL_doored [.ref 0, .int (nI r), .int (nI s), .int (zb b)] h = some (.inl (some (.int v)), g) ∧ LR g := by
  have q0 := c.1.1
  by_cases e : r = s
  · subst e
    have t := m_addDoorS (z := zb b) c hr
    refine ⟨-9, h, ?_, LR_q c H h6 c.rf⟩
    refine zsem_eq (Nat.le_of_ble_eq_true rfl) (zTo_of (gL_doored_t1 t) ?_)
    simp only [q0, zmp_s, zlt_s, zcV_s, zcI_s, zcJ_s, zcA_s, zcD_s, zcF_s, zth_n, zth_t, zrt_s, zQ_l, zQ_r, false_or, or_false, true_or, or_true, false_and, and_false, not_false_eq_true, not_true_eq_false, and_self, true_and, and_true, if_true, if_false, ite_true, ite_false, zgd_t]
  · by_cases w : N 1 < 20
    · obtain ⟨g, t, T⟩ := m_addDoor (b := b) c H hr hs e w
      refine ⟨nI (N 1), g, ?_, LR_t h6 ?_ T⟩
      · refine zsem_eq (Nat.le_of_ble_eq_true rfl) (zTo_of (gL_doored_n t) ?_)
        simp only [q0, zmp_s, zlt_s, zcV_s, zcI_s, zcJ_s, zcA_s, zcD_s, zcF_s, zth_n, zth_t, zrt_s, zQ_l, zQ_r, false_or, or_false, true_or, or_true, false_and, and_false, not_false_eq_true, not_true_eq_false, and_self, true_and, and_true, if_true, if_false, ite_true, ite_false, zgd_t]
      · unfold nAdd nAddD
        rw [zput_ne _ _ (by omega), zput_ne _ _ (by omega), zput_ne _ _ (by omega), zput_ne _ _ (by omega), zput_ne _ _ (by omega), zput_ne _ _ (by omega), zput_ne _ _ (by omega)]
    · have t := m_addDoorF (z := zb b) c hr hs e w
      refine ⟨-9, h, ?_, LR_q c H h6 c.rf⟩
      refine zsem_eq (Nat.le_of_ble_eq_true rfl) (zTo_of (gL_doored_t0 t) ?_)
      simp only [q0, zmp_s, zlt_s, zcV_s, zcI_s, zcJ_s, zcA_s, zcD_s, zcF_s, zth_n, zth_t, zrt_s, zQ_l, zQ_r, false_or, or_false, true_or, or_true, false_and, and_false, not_false_eq_true, not_true_eq_false, and_self, true_and, and_true, if_true, if_false, ite_true, ite_false, zgd_t]
theorem nCt_0 (M : zLv) : nCt M 0 = M 0 := zput_ne _ _ (by omega)
section
variable {sc : Nat × (Nat → Int32)} {n m r : Nat}
abbrev aT (sc : Nat × (Nat → Int32)) (t : zm_T) : Prop := zTo (vL_act sc) rL_act t RA
theorem a37 (c : CI h N) (H : HH h P) (h6 : N 0 ≤ 6) (hr : r < N 0) : aT sc (37, [some (.ref 0), none, none, none, none, some (.int (nI r)), none], [], h) := by
  obtain ⟨v, g, e, L⟩ := w_went c H h6 hr
  refine zTo_of gL_act_37 ?_
  simp only [e, zmp_s, zlt_s, zcV_s, zcI_s, zcJ_s, zcA_s, zcD_s, zcF_s, zth_n, zth_t, zrt_s, zQ_l, zQ_r, false_or, or_false, true_or, or_true, false_and, and_false, not_false_eq_true, not_true_eq_false, and_self, true_and, and_true, if_true, if_false, ite_true, ite_false, zgd_t]
  exact ⟨v, g, rfl, L⟩
theorem a41 (c : CI h N) (H : HH h P) (h6 : N 0 ≤ 6) (hn : n < 100000) : aT sc (41, [some (.ref 0), none, none, some (.int (nI n)), none, none, none], [], h) := by
  have q0 := c.1.1
  have p4 := w_p4 c
  have n4 := c.2.2.1.2.2.2.2.2.1
  have n11 := c.2.2.1.1.1
  refine zTo_of gL_act_41 ?_
  by_cases w : 2 ≤ N 4
  · have w1 : ((2 : Int32) ≤ nI (N 4)) = True := eq_true (nI_le (a := 2) w (by omega))
    have e1 : nI (N 4) - (1 : Int32) = nI (N 4 - 1) := nI_sb (b := 1) (by omega)
    have e0 : (¬ nI (N 4 - 1) = 0) = True := eq_true (nI_ne0 (by omega) (by omega))
    have e2 : nI n - nI n / nI (N 4 - 1) * nI (N 4 - 1) = nI (n % (N 4 - 1)) := pk_rem (by omega) (by omega) (by omega)
    have e3 : (1 : Int32) + nI (n % (N 4 - 1)) = nI (1 + n % (N 4 - 1)) := nI_add 1 _
    have ml := Nat.mod_lt n (show 0 < N 4 - 1 by omega)
    obtain ⟨g, s, T⟩ := m_back (k := 1 + n % (N 4 - 1)) c H (by omega)
    simp only [q0, p4, w1, e1, e0, e2, e3, s, zmp_s, zlt_s, zcV_s, zcI_s, zcJ_s, zcA_s, zcD_s, zcF_s, zth_n, zth_t, zrt_s, zQ_l, zQ_r, false_or, or_false, true_or, or_true, false_and, and_false, not_false_eq_true, not_true_eq_false, and_self, true_and, and_true, if_true, if_false, ite_true, ite_false, zgd_t]
    exact ⟨_, g, rfl, LR_t h6 (zput_ne _ _ (by omega)) T⟩
  · have w1 : ((2 : Int32) ≤ nI (N 4)) = False := eq_false (nI_ge (b := 2) (by omega) (by omega))
    simp only [q0, p4, w1, zmp_s, zlt_s, zcV_s, zcI_s, zcJ_s, zcA_s, zcD_s, zcF_s, zth_n, zth_t, zrt_s, zQ_l, zQ_r, false_or, or_false, true_or, or_true, false_and, and_false, not_false_eq_true, not_true_eq_false, and_self, true_and, and_true, if_true, if_false, ite_true, ite_false, zgd_t]
    exact ⟨_, h, rfl, LR_q c H h6 c.rf⟩
theorem rm3 {x d : Nat} (hx : x < 100000) (hd : 0 < d) (hd2 : d < 100000) : nI x - nI x / nI d * nI d = nI (x % d) := pk_rem (by omega) hd (by omega)
theorem a61 (c : CI h N) (H : HH h P) (h6 : N 0 ≤ 6) (hn : n < 100000) (hr : r < N 0) : aT sc (61, [some (.ref 0), none, none, some (.int (nI n)), none, some (.int (nI r)), none], [], h) := by
  have q0 := c.1.1
  have d0 : (¬ (3 : Int32) = 0) = True := eq_true (by decide)
  have e2 : nI n - nI n / (3 : Int32) * (3 : Int32) = nI (n % 3) := rm3 (d := 3) hn (by omega) (by omega)
  have e3 := nI_eq0 (n := n % 3) (by omega)
  refine zTo_of gL_act_61 ?_
  by_cases w : n % 3 = 0
  · have w1 : (n % 3 = 0) = True := eq_true w
    obtain ⟨g, s, T⟩ := m_again c H
    simp only [d0, e2, e3, w1, q0, s, zmp_s, zlt_s, zcV_s, zcI_s, zcJ_s, zcA_s, zcD_s, zcF_s, zth_n, zth_t, zrt_s, zQ_l, zQ_r, false_or, or_false, true_or, or_true, false_and, and_false, not_false_eq_true, not_true_eq_false, and_self, true_and, and_true, if_true, if_false, ite_true, ite_false, zgd_t]
    exact ⟨_, g, rfl, LR_t h6 (zput_ne _ _ (by omega)) T⟩
  · have w1 : (n % 3 = 0) = False := eq_false w
    obtain ⟨v, g, e, L⟩ := w_went c H h6 hr
    simp only [d0, e2, e3, w1, e, zmp_s, zlt_s, zcV_s, zcI_s, zcJ_s, zcA_s, zcD_s, zcF_s, zth_n, zth_t, zrt_s, zQ_l, zQ_r, false_or, or_false, true_or, or_true, false_and, and_false, not_false_eq_true, not_true_eq_false, and_self, true_and, and_true, if_true, if_false, ite_true, ite_false, zgd_t]
    exact ⟨v, g, rfl, L⟩
theorem a73 (c : CI h N) (H : HH h P) (h6 : N 0 ≤ 6) : aT sc (73, [some (.ref 0), none, none, none, none, none, none], [], h) := by
  obtain ⟨v, g, e, L⟩ := w_completed c H h6
  refine zTo_of gL_act_73 ?_
  simp only [e, zmp_s, zlt_s, zcV_s, zcI_s, zcJ_s, zcA_s, zcD_s, zcF_s, zth_n, zth_t, zrt_s, zQ_l, zQ_r, false_or, or_false, true_or, or_true, false_and, and_false, not_false_eq_true, not_true_eq_false, and_self, true_and, and_true, if_true, if_false, ite_true, ite_false, zgd_t]
  exact ⟨v, g, rfl, L⟩
theorem a76 (c : CI h N) (H : HH h P) (h6 : N 0 ≤ 6) (hn : n < 100000) : aT sc (76, [some (.ref 0), none, none, some (.int (nI n)), none, none, none], [], h) := by
  have hF := c.2.2.1
  have t40 := nTo_lt hF
  obtain ⟨g1, s1, Q1⟩ := m_tours c
  have c1 := c.go Q1
  have H1 := HH_fr Q1.1 (fun c h1 h2 => by unfold scA; omega) H
  have l00 : (0 : Int64) = lN 0 := by decide +kernel
  have z : (lg_cmp (lN (nTo N)) (0 : Int64) = 0) = (nTo N = 0) := by
    rw [lg0, l00]; exact propext (pk_lEQ (by omega) (by omega))
  refine zTo_of gL_act_76 ?_
  by_cases w : nTo N = 0
  · have w1 : (nTo N = 0) = True := eq_true w
    simp only [c.1.1, s1, z, w1, zmp_s, zlt_s, zcV_s, zcI_s, zcJ_s, zcA_s, zcD_s, zcF_s, zth_n, zth_t, zrt_s, zQ_l, zQ_r, false_or, or_false, true_or, or_true, false_and, and_false, not_false_eq_true, not_true_eq_false, and_self, true_and, and_true, if_true, if_false, ite_true, ite_false, zgd_t]
    exact ⟨_, g1, rfl, LR_q c H h6 Q1⟩
  · have w1 : (nTo N = 0) = False := eq_false w
    obtain ⟨g2, s2, Q2⟩ := m_tours c1
    have c2 := c1.go Q2
    have H2 := HH_fr Q2.1 (fun c h1 h2 => by unfold scA; omega) H1
    have z2 : (¬ lN (nTo N) = 0) = True := eq_true (fun q => by
      rw [l00] at q
      exact w ((pk_lEQ (by omega) (by omega)).mp q))
    have e1 : (nI n).toInt64 = lN n := nI_l (by omega)
    have e2 : lN n - lN n / lN (nTo N) * lN (nTo N) = lN (n % nTo N) := pk_lRem (by omega) (by omega) (by omega)
    obtain ⟨g3, s3, T⟩ := m_walk (k := n % nTo N) c2 H2 (Nat.mod_lt _ (by omega))
    simp only [c.1.1, s1, z, w1, c1.1.1, s2, z2, e1, e2, c2.1.1, s3, zmp_s, zlt_s, zcV_s, zcI_s, zcJ_s, zcA_s, zcD_s, zcF_s, zth_n, zth_t, zrt_s, zQ_l, zQ_r, false_or, or_false, true_or, or_true, false_and, and_false, not_false_eq_true, not_true_eq_false, and_self, true_and, and_true, if_true, if_false, ite_true, ite_false, zgd_t]
    refine ⟨_, g3, rfl, LR_t h6 ?_ T⟩
    unfold nWa
    exact nWl_lo hF.1.1 (Or.inl (by omega))
theorem a92 (c : CI h N) (H : HH h P) (h6 : N 0 ≤ 6) (hn : n < 100000) (hm : m < 100000) (hr : r < N 0) : aT sc (92, [some (.ref 0), none, none, some (.int (nI n)), some (.int (nI m)), some (.int (nI r)), none], [], h) := by
  have q0 := c.1.1
  have d3 : (¬ (3 : Int32) = 0) = True := eq_true (by decide)
  have d4 : (¬ (4 : Int32) = 0) = True := eq_true (by decide)
  have e3 : nI n - nI n / (3 : Int32) * (3 : Int32) = nI (n % 3) := rm3 (d := 3) hn (by omega) (by omega)
  have e4 : nI m - nI m / (4 : Int32) * (4 : Int32) = nI (m % 4) := rm3 (d := 4) hm (by omega) (by omega)
  have e0 : (∀ M : zLv, M = nCt (nSk N r (m % 4) true) ∨ M = nCt (nSk N r (m % 4) false) → M 0 = N 0) := by
    intro M hM
    rcases hM with hM | hM
    · rw [hM, nCt_0]; unfold nSk; exact zput_ne _ _ (by omega)
    · rw [hM, nCt_0]; unfold nSk; exact zput_ne _ _ (by omega)
  refine zTo_of gL_act_92 ?_
  by_cases w : n % 3 = 0
  · have w1 : (nI (n % 3) ≤ (0 : Int32)) = True := eq_true (by rw [w]; decide)
    obtain ⟨g, s, T⟩ := m_setKey (key := m % 4) (b := false) c H hr (by omega)
    have s : sX5_setKey [.ref 0, .int (nI r), .int (nI (m % 4)), .int (0 : Int32)] h = _ := s
    by_cases z : zb ((N (16 + 3 * r)).testBit (m % 4)) = 0
    · have z1 : (zb ((N (16 + 3 * r)).testBit (m % 4)) = 0) = True := eq_true z
      simp only [d3, d4, e3, w1, e4, q0, s, z1, zmp_s, zlt_s, zcV_s, zcI_s, zcJ_s, zcA_s, zcD_s, zcF_s, zth_n, zth_t, zrt_s, zQ_l, zQ_r, false_or, or_false, true_or, or_true, false_and, and_false, not_false_eq_true, not_true_eq_false, and_self, true_and, and_true, if_true, if_false, ite_true, ite_false, zgd_t]
      exact ⟨_, g, rfl, LR_t h6 (e0 _ (Or.inr rfl)) T⟩
    · have z1 : (zb ((N (16 + 3 * r)).testBit (m % 4)) = 0) = False := eq_false z
      simp only [d3, d4, e3, w1, e4, q0, s, z1, zmp_s, zlt_s, zcV_s, zcI_s, zcJ_s, zcA_s, zcD_s, zcF_s, zth_n, zth_t, zrt_s, zQ_l, zQ_r, false_or, or_false, true_or, or_true, false_and, and_false, not_false_eq_true, not_true_eq_false, and_self, true_and, and_true, if_true, if_false, ite_true, ite_false, zgd_t]
      exact ⟨_, g, rfl, LR_t h6 (e0 _ (Or.inr rfl)) T⟩
  · have w1 : (nI (n % 3) ≤ (0 : Int32)) = False := eq_false (nI_nle (by omega) (by omega))
    obtain ⟨g, s, T⟩ := m_setKey (key := m % 4) (b := true) c H hr (by omega)
    have s : sX5_setKey [.ref 0, .int (nI r), .int (nI (m % 4)), .int (1 : Int32)] h = _ := s
    by_cases z : zb ((N (16 + 3 * r)).testBit (m % 4)) = 0
    · have z1 : (zb ((N (16 + 3 * r)).testBit (m % 4)) = 0) = True := eq_true z
      simp only [d3, d4, e3, w1, e4, q0, s, z1, zmp_s, zlt_s, zcV_s, zcI_s, zcJ_s, zcA_s, zcD_s, zcF_s, zth_n, zth_t, zrt_s, zQ_l, zQ_r, false_or, or_false, true_or, or_true, false_and, and_false, not_false_eq_true, not_true_eq_false, and_self, true_and, and_true, if_true, if_false, ite_true, ite_false, zgd_t]
      exact ⟨_, g, rfl, LR_t h6 (e0 _ (Or.inl rfl)) T⟩
    · have z1 : (zb ((N (16 + 3 * r)).testBit (m % 4)) = 0) = False := eq_false z
      simp only [d3, d4, e3, w1, e4, q0, s, z1, zmp_s, zlt_s, zcV_s, zcI_s, zcJ_s, zcA_s, zcD_s, zcF_s, zth_n, zth_t, zrt_s, zQ_l, zQ_r, false_or, or_false, true_or, or_true, false_and, and_false, not_false_eq_true, not_true_eq_false, and_self, true_and, and_true, if_true, if_false, ite_true, ite_false, zgd_t]
      exact ⟨_, g, rfl, LR_t h6 (e0 _ (Or.inl rfl)) T⟩
theorem a110 (c : CI h N) (H : HH h P) (h6 : N 0 ≤ 6) (hm : m < 100000) (hr : r < N 0) : aT sc (110, [some (.ref 0), none, none, none, some (.int (nI m)), some (.int (nI r)), none], [], h) := by
  have q0 := c.1.1
  have d3 : (¬ (30 : Int32) = 0) = True := eq_true (by decide)
  have e3 : nI m - nI m / (30 : Int32) * (30 : Int32) = nI (m % 30) := rm3 (d := 30) hm (by omega) (by omega)
  obtain ⟨g, s, T⟩ := m_setCoins (v := m % 30) c H hr (by omega)
  refine zTo_of gL_act_110 ?_
  simp only [d3, e3, q0, s, zmp_s, zlt_s, zcV_s, zcI_s, zcJ_s, zcA_s, zcD_s, zcF_s, zth_n, zth_t, zrt_s, zQ_l, zQ_r, false_or, or_false, true_or, or_true, false_and, and_false, not_false_eq_true, not_true_eq_false, and_self, true_and, and_true, if_true, if_false, ite_true, ite_false, zgd_t]
  exact ⟨_, g, rfl, LR_t h6 (by rw [nCt_0]; exact zput_ne _ _ (by omega)) T⟩
/-- a door, or -1 -/
def xD (N : zLv) (n : Nat) : Int32 := if N 1 = 0 then -1 else nI (n % N 1)
theorem nSl_0 (d k v : Nat) : nCt (nSl N d k v) 0 = N 0 := by
  rw [nCt_0]; unfold nSl
  rw [zput_ne _ _ (by omega), zput_ne _ _ (by omega)]
theorem a118 (c : CI h N) (H : HH h P) (h6 : N 0 ≤ 6) (hn : n < 100000) (hm : m < 100000) : aT sc (118, [some (.ref 0), none, none, none, some (.int (nI m)), none, some (.int (xD N n))], [], h) := by
  have q0 := c.1.1
  have n20 := c.2.2.1.1.2.1
  refine zTo_of gL_act_118 ?_
  unfold xD
  by_cases w : N 1 = 0
  · have w1 : ((0 : Int32) ≤ -1) = False := eq_false (by decide)
    rw [if_pos w]
    simp only [w1, zmp_s, zlt_s, zcV_s, zcI_s, zcJ_s, zcA_s, zcD_s, zcF_s, zth_n, zth_t, zrt_s, zQ_l, zQ_r, false_or, or_false, true_or, or_true, false_and, and_false, not_false_eq_true, not_true_eq_false, and_self, true_and, and_true, if_true, if_false, ite_true, ite_false, zgd_t]
    exact ⟨_, h, rfl, LR_q c H h6 c.rf⟩
  · rw [if_neg w]
    have ml := Nat.mod_lt n (show 0 < N 1 by omega)
    have w1 : ((0 : Int32) ≤ nI (n % N 1)) = True := nI_0le (by omega)
    have d3 : (¬ (3 : Int32) = 0) = True := eq_true (by decide)
    have d4 : (¬ (4 : Int32) = 0) = True := eq_true (by decide)
    have d30 : (¬ (30 : Int32) = 0) = True := eq_true (by decide)
    have e3 : nI m - nI m / (3 : Int32) * (3 : Int32) = nI (m % 3) := rm3 (d := 3) hm (by omega) (by omega)
    have ed : nI m / (3 : Int32) = nI (m / 3) := pk_div (d := 3) (by omega) (by omega) (by omega)
    have e4 : nI (m / 3) - nI (m / 3) / (4 : Int32) * (4 : Int32) = nI (m / 3 % 4) := rm3 (d := 4) (by omega) (by omega) (by omega)
    have e30 : nI (m / 3) - nI (m / 3) / (30 : Int32) * (30 : Int32) = nI (m / 3 % 30) := rm3 (d := 30) (by omega) (by omega) (by omega)
    have z0 := nI_eq0 (n := m % 3) (by omega)
    have z1 : (nI (m % 3) = (1 : Int32)) = (m % 3 = 1) := nI_is (b := 1) (by omega) (by omega)
    have e3' : nI m - nI (m / 3) * (3 : Int32) = nI (m % 3) := by rw [← ed]; exact e3
    by_cases v0 : m % 3 = 0
    · have v1 : (m % 3 = 0) = True := eq_true v0
      obtain ⟨g, s, T⟩ := m_setLock (k := 0) (v := 0) c H ml (by omega) (by unfold nGn; omega)
      have s : sX5_setLock [.ref 0, .int (nI (n % N 1)), .int (0 : Int32), .int (0 : Int32)] h = _ := s
      simp only [w1, d3, ed, e3', z0, v1, q0, s, zmp_s, zlt_s, zcV_s, zcI_s, zcJ_s, zcA_s, zcD_s, zcF_s, zth_n, zth_t, zrt_s, zQ_l, zQ_r, false_or, or_false, true_or, or_true, false_and, and_false, not_false_eq_true, not_true_eq_false, and_self, true_and, and_true, if_true, if_false, ite_true, ite_false, zgd_t]
      exact ⟨_, g, rfl, LR_t h6 (nSl_0 _ _ _) T⟩
    · have v1 : (m % 3 = 0) = False := eq_false v0
      by_cases v2 : m % 3 = 1
      · have v3 : (m % 3 = 1) = True := eq_true v2
        obtain ⟨g, s, T⟩ := m_setLock (k := m % 3) (v := m / 3 % 4) c H ml (by omega) (by rw [v2]; show _ ≤ 7; omega)
        simp only [w1, d3, ed, e3', z0, v1, z1, v3, d4, e4, q0, s, zmp_s, zlt_s, zcV_s, zcI_s, zcJ_s, zcA_s, zcD_s, zcF_s, zth_n, zth_t, zrt_s, zQ_l, zQ_r, false_or, or_false, true_or, or_true, false_and, and_false, not_false_eq_true, not_true_eq_false, and_self, true_and, and_true, if_true, if_false, ite_true, ite_false, zgd_t]
        exact ⟨_, g, rfl, LR_t h6 (nSl_0 _ _ _) T⟩
      · have v3 : (m % 3 = 1) = False := eq_false v2
        obtain ⟨g, s, T⟩ := m_setLock (k := m % 3) (v := m / 3 % 30) c H ml (by omega) (by rw [show m % 3 = 2 by omega]; show _ ≤ 999; omega)
        simp only [w1, d3, ed, e3', z0, v1, z1, v3, d30, e30, q0, s, zmp_s, zlt_s, zcV_s, zcI_s, zcJ_s, zcA_s, zcD_s, zcF_s, zth_n, zth_t, zrt_s, zQ_l, zQ_r, false_or, or_false, true_or, or_true, false_and, and_false, not_false_eq_true, not_true_eq_false, and_self, true_and, and_true, if_true, if_false, ite_true, ite_false, zgd_t]
        exact ⟨_, g, rfl, LR_t h6 (nSl_0 _ _ _) T⟩
theorem a153 (c : CI h N) (H : HH h P) (h6 : N 0 ≤ 6) (hm : m < 100000) (hr : r < N 0) : aT sc (153, [some (.ref 0), none, none, none, some (.int (nI m)), some (.int (nI r)), none], [], h) := by
  have q0 := c.1.1
  have p0 := w_p0 c
  have n0 := c.2.2.1.2.1
  have z0 : (¬ nI (N 0) = 0) = True := eq_true (nI_ne0 (by omega) (by omega))
  have d4 : (¬ (4 : Int32) = 0) = True := eq_true (by decide)
  have e4 : nI m - nI m / (4 : Int32) * (4 : Int32) = nI (m % 4) := rm3 (d := 4) hm (by omega) (by omega)
  have eN : nI m - nI m / nI (N 0) * nI (N 0) = nI (m % N 0) := rm3 hm (by omega) (by omega)
  have z4 := nI_eq0 (n := m % 4) (by omega)
  refine zTo_of gL_act_153 ?_
  by_cases w : m % 4 = 0
  · have w1 : (m % 4 = 0) = True := eq_true w
    obtain ⟨v, g, s, L⟩ := w_doored true c H h6 hr (Nat.mod_lt m (show 0 < N 0 by omega))
    have s : sL_doored [.ref 0, .int (nI r), .int (nI (m % N 0)), .int (1 : Int32)] h = _ := s
    simp only [q0, p0, z0, d4, e4, z4, w1, eN, s, zmp_s, zlt_s, zcV_s, zcI_s, zcJ_s, zcA_s, zcD_s, zcF_s, zth_n, zth_t, zrt_s, zQ_l, zQ_r, false_or, or_false, true_or, or_true, false_and, and_false, not_false_eq_true, not_true_eq_false, and_self, true_and, and_true, if_true, if_false, ite_true, ite_false, zgd_t]
    exact ⟨_, g, rfl, L⟩
  · have w1 : (m % 4 = 0) = False := eq_false w
    obtain ⟨v, g, s, L⟩ := w_doored false c H h6 hr (Nat.mod_lt m (show 0 < N 0 by omega))
    have s : sL_doored [.ref 0, .int (nI r), .int (nI (m % N 0)), .int (0 : Int32)] h = _ := s
    simp only [q0, p0, z0, d4, e4, z4, w1, eN, s, zmp_s, zlt_s, zcV_s, zcI_s, zcJ_s, zcA_s, zcD_s, zcF_s, zth_n, zth_t, zrt_s, zQ_l, zQ_r, false_or, or_false, true_or, or_true, false_and, and_false, not_false_eq_true, not_true_eq_false, and_self, true_and, and_true, if_true, if_false, ite_true, ite_false, zgd_t]
    exact ⟨_, g, rfl, L⟩
theorem a170 (c : CI h N) (H : HH h P) (h6 : N 0 ≤ 6) (hn : n < 100000) : aT sc (170, [some (.ref 0), none, none, none, none, none, some (.int (xD N n))], [], h) := by
  have q0 := c.1.1
  have p1 := w_p1 c
  have n20 := c.2.2.1.1.2.1
  refine zTo_of gL_act_170 ?_
  unfold xD
  by_cases w : N 1 = 0
  · have w1 : ((-1 : Int32) < 0) = True := eq_true (by decide)
    rw [if_pos w]
    simp only [w1, zmp_s, zlt_s, zcV_s, zcI_s, zcJ_s, zcA_s, zcD_s, zcF_s, zth_n, zth_t, zrt_s, zQ_l, zQ_r, false_or, or_false, true_or, or_true, false_and, and_false, not_false_eq_true, not_true_eq_false, and_self, true_and, and_true, if_true, if_false, ite_true, ite_false, zgd_t]
    exact ⟨_, h, rfl, LR_q c H h6 c.rf⟩
  · rw [if_neg w]
    have ml := Nat.mod_lt n (show 0 < N 1 by omega)
    have w1 : (nI (n % N 1) < (0 : Int32)) = False := nI_lt0 (by omega)
    by_cases v : 4 ≤ N 1
    · have v1 : ((4 : Int32) ≤ nI (N 1)) = True := eq_true (nI_le (a := 4) v (by omega))
      obtain ⟨g, s, T⟩ := m_removeDoor c H ml
      simp only [w1, q0, p1, v1, s, zmp_s, zlt_s, zcV_s, zcI_s, zcJ_s, zcA_s, zcD_s, zcF_s, zth_n, zth_t, zrt_s, zQ_l, zQ_r, false_or, or_false, true_or, or_true, false_and, and_false, not_false_eq_true, not_true_eq_false, and_self, true_and, and_true, if_true, if_false, ite_true, ite_false, zgd_t]
      refine ⟨_, g, rfl, LR_t h6 ?_ T⟩
      rw [nCt_0]; unfold nDrop nMv
      rw [zput_ne _ _ (by omega), if_neg (by omega)]
    · have v1 : ((4 : Int32) ≤ nI (N 1)) = False := eq_false (nI_ge (b := 4) (by omega) (by omega))
      simp only [w1, q0, p1, v1, zmp_s, zlt_s, zcV_s, zcI_s, zcJ_s, zcA_s, zcD_s, zcF_s, zth_n, zth_t, zrt_s, zQ_l, zQ_r, false_or, or_false, true_or, or_true, false_and, and_false, not_false_eq_true, not_true_eq_false, and_self, true_and, and_true, if_true, if_false, ite_true, ite_false, zgd_t]
      exact ⟨_, h, rfl, LR_q c H h6 c.rf⟩
theorem a184 (c : CI h N) (H : HH h P) (h6 : N 0 ≤ 6) (hr : r < N 0) : aT sc (184, [some (.ref 0), none, none, none, none, some (.int (nI r)), none], [], h) := by
  have q0 := c.1.1
  obtain ⟨g, s, T⟩ := m_setStart c H hr
  refine zTo_of gL_act_184 ?_
  simp only [q0, s, zmp_s, zlt_s, zcV_s, zcI_s, zcJ_s, zcA_s, zcD_s, zcF_s, zth_n, zth_t, zrt_s, zQ_l, zQ_r, false_or, or_false, true_or, or_true, false_and, and_false, not_false_eq_true, not_true_eq_false, and_self, true_and, and_true, if_true, if_false, ite_true, ite_false, zgd_t]
  refine ⟨_, g, rfl, LR_t h6 ?_ T⟩
  split
  · rfl
  · unfold nSs
    rw [zput_ne _ _ (by omega), zput_ne _ _ (by omega), zput_ne _ _ (by omega)]
theorem a189 (c : CI h N) (H : HH h P) (h6 : N 0 ≤ 6) (hm : m < 100000) (hr : r < N 0) : aT sc (189, [some (.ref 0), none, none, none, some (.int (nI m)), some (.int (nI r)), none], [], h) := by
  have q0 := c.1.1
  have d3 : (¬ (3 : Int32) = 0) = True := eq_true (by decide)
  have e3 : nI m - nI m / (3 : Int32) * (3 : Int32) = nI (m % 3) := rm3 (d := 3) hm (by omega) (by omega)
  refine zTo_of gL_act_189 ?_
  by_cases w : m % 3 = 0
  · have w1 : (nI (m % 3) ≤ (0 : Int32)) = True := eq_true (by rw [w]; decide)
    obtain ⟨g, s, T⟩ := m_setEnd (e := r + 1) c H (by omega)
    rw [eI_s] at s
    obtain ⟨x, hx⟩ : ∃ x, x = eI (N 3) := ⟨_, rfl⟩
    rw [← hx] at s
    simp only [d3, e3, w1, q0, s, zmp_s, zlt_s, zcV_s, zcI_s, zcJ_s, zcA_s, zcD_s, zcF_s, zth_n, zth_t, zrt_s, zQ_l, zQ_r, false_or, or_false, true_or, or_true, false_and, and_false, not_false_eq_true, not_true_eq_false, and_self, true_and, and_true, if_true, if_false, ite_true, ite_false, zgd_t]
    exact ⟨_, g, rfl, LR_t h6 (zput_ne _ _ (by omega)) T⟩
  · have w1 : (nI (m % 3) ≤ (0 : Int32)) = False := eq_false (nI_nle (by omega) (by omega))
    obtain ⟨g, s, T⟩ := m_setEnd (e := 0) c H (by omega)
    rw [eI_0] at s
    obtain ⟨x, hx⟩ : ∃ x, x = eI (N 3) := ⟨_, rfl⟩
    rw [← hx] at s
    simp only [d3, e3, w1, q0, s, zmp_s, zlt_s, zcV_s, zcI_s, zcJ_s, zcA_s, zcD_s, zcF_s, zth_n, zth_t, zrt_s, zQ_l, zQ_r, false_or, or_false, true_or, or_true, false_and, and_false, not_false_eq_true, not_true_eq_false, and_self, true_and, and_true, if_true, if_false, ite_true, ite_false, zgd_t]
    exact ⟨_, g, rfl, LR_t h6 (zput_ne _ _ (by omega)) T⟩
theorem a202 (c : CI h N) (H : HH h P) (h6 : N 0 ≤ 6) (hr : r < N 0) : aT sc (202, [some (.ref 0), none, none, none, none, some (.int (nI r)), none], [], h) := by
  have q0 := c.1.1
  have p0 := w_p0 c
  have n0 := c.2.2.1.2.1
  have z0 : (¬ nI (N 0) = 0) = True := eq_true (nI_ne0 (by omega) (by omega))
  have r1 : nI r + (1 : Int32) = nI (r + 1) := nI_add r 1
  have eN : nI (r + 1) - nI (r + 1) / nI (N 0) * nI (N 0) = nI ((r + 1) % N 0) := rm3 (by omega) (by omega) (by omega)
  obtain ⟨v, g, s, L⟩ := w_doored false c H h6 hr (Nat.mod_lt (r + 1) (show 0 < N 0 by omega))
  have s : sL_doored [.ref 0, .int (nI r), .int (nI ((r + 1) % N 0)), .int (0 : Int32)] h = _ := s
  refine zTo_of gL_act_202 ?_
  simp only [q0, p0, z0, r1, eN, s, zmp_s, zlt_s, zcV_s, zcI_s, zcJ_s, zcA_s, zcD_s, zcF_s, zth_n, zth_t, zrt_s, zQ_l, zQ_r, false_or, or_false, true_or, or_true, false_and, and_false, not_false_eq_true, not_true_eq_false, and_self, true_and, and_true, if_true, if_false, ite_true, ite_false, zgd_t]
  exact ⟨_, g, rfl, L⟩
theorem w_act {k : Nat} (hs : sc.1 < 2 ^ 31) (hk : k < 1000) (L : LR h) : ∃ v g, sL_act sc [.ref 0, .ref 2000000, .int (nI k)] h = some (.inl (some (.long v)), g) ∧ LR g := by
  obtain ⟨N, P, c, H, h6⟩ := L
  have q0 := c.1.1
  have p0 := w_p0 c
  have p1 := w_p1 c
  have n0 := c.2.2.1.2.1
  have n20 := c.2.2.1.1.2.1
  have d1 : ∀ h, sL_draw sc [.ref 2000000, .int (nI k + (1 : Int32)), .int (100000 : Int32)] h = some (.inl (some (.int (nI (dwN sc (k + 1) 100000)))), h) := w_drawA (a := k) (r := 1) (m := 100000) hs (by omega) (by omega) (by omega)
  have d2 : ∀ h, sL_draw sc [.ref 2000000, .int (nI k + (2 : Int32)), .int (100000 : Int32)] h = some (.inl (some (.int (nI (dwN sc (k + 2) 100000)))), h) := w_drawA (a := k) (r := 2) (m := 100000) hs (by omega) (by omega) (by omega)
  have d0 : ∀ h, sL_draw sc [.ref 2000000, .int (nI k), .int (22 : Int32)] h = some (.inl (some (.int (nI (dwN sc k 22)))), h) := fun h => w_draw (k := k) (n := 22) h hs (by omega) (by omega) (by omega)
  have hn := dwN_lt (sc := sc) (k := k + 1) (n := 100000) (by omega)
  have hm := dwN_lt (sc := sc) (k := k + 2) (n := 100000) (by omega)
  have hq := dwN_lt (sc := sc) (k := k) (n := 22) (by omega)
  obtain ⟨n, en⟩ : ∃ n, n = dwN sc (k + 1) 100000 := ⟨_, rfl⟩
  obtain ⟨m, em⟩ : ∃ m, m = dwN sc (k + 2) 100000 := ⟨_, rfl⟩
  obtain ⟨q, eq⟩ : ∃ q, q = dwN sc k 22 := ⟨_, rfl⟩
  rw [← en] at hn
  rw [← em] at hm
  rw [← eq] at hq
  have hr : n % N 0 < N 0 := Nat.mod_lt _ (by omega)
  have z0 : (¬ nI (N 0) = 0) = True := eq_true (nI_ne0 (by omega) (by omega))
  have eN : nI n - nI n / nI (N 0) * nI (N 0) = nI (n % N 0) := rm3 hn (by omega) (by omega)
  have st36 : aT sc (36, [some (.ref 0), none, none, some (.int (nI n)), some (.int (nI m)), some (.int (nI (n % N 0))), some (.int (xD N n))], [.int (nI q)], h) := by
    by_cases w : 20 ≤ q
    · have hx : (nI q).toInt < 0 ∨ 19 < (nI q).toInt := Or.inr (by rw [nI_toInt (by omega)]; omega)
      exact zTo_of (gL_act_36_d hx) (a202 c H h6 hr)
    · have : q = 0 ∨ q = 1 ∨ q = 2 ∨ q = 3 ∨ q = 4 ∨ q = 5 ∨ q = 6 ∨ q = 7 ∨ q = 8 ∨ q = 9 ∨ q = 10 ∨ q = 11 ∨ q = 12 ∨ q = 13 ∨ q = 14 ∨ q = 15 ∨ q = 16 ∨ q = 17 ∨ q = 18 ∨ q = 19 := by omega
      clear eq
      rcases this with rfl | rfl | rfl | rfl | rfl | rfl | rfl | rfl | rfl | rfl | rfl | rfl | rfl | rfl | rfl | rfl | rfl | rfl | rfl | rfl
      · exact zTo_of gL_act_36_0 (a37 c H h6 hr)
      · exact zTo_of gL_act_36_1 (a37 c H h6 hr)
      · exact zTo_of gL_act_36_2 (a37 c H h6 hr)
      · exact zTo_of gL_act_36_3 (a37 c H h6 hr)
      · exact zTo_of gL_act_36_4 (a37 c H h6 hr)
      · exact zTo_of gL_act_36_5 (a41 c H h6 hn)
      · exact zTo_of gL_act_36_6 (a61 c H h6 hn hr)
      · exact zTo_of gL_act_36_7 (a73 c H h6)
      · exact zTo_of gL_act_36_8 (a76 c H h6 hn)
      · exact zTo_of gL_act_36_9 (a92 c H h6 hn hm hr)
      · exact zTo_of gL_act_36_10 (a92 c H h6 hn hm hr)
      · exact zTo_of gL_act_36_11 (a110 c H h6 hm hr)
      · exact zTo_of gL_act_36_12 (a118 c H h6 hn hm)
      · exact zTo_of gL_act_36_13 (a118 c H h6 hn hm)
      · exact zTo_of gL_act_36_14 (a153 c H h6 hm hr)
      · exact zTo_of gL_act_36_15 (a153 c H h6 hm hr)
      · exact zTo_of gL_act_36_16 (a153 c H h6 hm hr)
      · exact zTo_of gL_act_36_17 (a170 c H h6 hn)
      · exact zTo_of gL_act_36_18 (a184 c H h6 hr)
      · exact zTo_of gL_act_36_19 (a189 c H h6 hm hr)
  have t : zTo (vL_act sc) rL_act (0, zlok 7 [.ref 0, .ref 2000000, .int (nI k)], [], h) RA := by
    refine zTo_of gL_act_0 ?_
    rw [← en] at d1
    rw [← em] at d2
    rw [← eq] at d0
    unfold xD at st36
    by_cases w : N 1 = 0
    · have y : (nI (N 1) = 0) = True := by rw [nI_eq0 (by omega)]; exact eq_true w
      rw [if_pos w] at st36
      simp only [d1, d2, q0, p0, z0, p1, y, d0, eN, zmp_s, zlt_s, zcV_s, zcI_s, zcJ_s, zcA_s, zcD_s, zcF_s, zth_n, zth_t, zrt_s, zQ_l, zQ_r, false_or, or_false, true_or, or_true, false_and, and_false, not_false_eq_true, not_true_eq_false, and_self, true_and, and_true, if_true, if_false, ite_true, ite_false, zgd_t]
      exact st36
    · have y : (nI (N 1) = 0) = False := by rw [nI_eq0 (by omega)]; exact eq_false w
      have y2 : (¬ nI (N 1) = 0) = True := eq_true (nI_ne0 (by omega) (by omega))
      have eM : nI n - nI n / nI (N 1) * nI (N 1) = nI (n % N 1) := rm3 hn (by omega) (by omega)
      rw [if_neg w] at st36
      simp only [d1, d2, q0, p0, z0, p1, y, d0, eN, eM, zmp_s, zlt_s, zcV_s, zcI_s, zcJ_s, zcA_s, zcD_s, zcF_s, zth_n, zth_t, zrt_s, zQ_l, zQ_r, false_or, or_false, true_or, or_true, false_and, and_false, not_false_eq_true, not_true_eq_false, and_self, true_and, and_true, if_true, if_false, ite_true, ite_false, zgd_t]
      exact st36
  obtain ⟨y, e, v, g, rfl, L⟩ := zsem_to (Nat.le_of_ble_eq_true rfl) t
  exact ⟨v, g, e, L⟩
end
end
end ZLA
