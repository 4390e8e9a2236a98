/-! THE CLASS: keys and doors that are needed, doors opened. -/
section ZC5
theorem nDrop_lo {N : zLv} {d i : Nat} (h : i < 49) (h1 : i ≠ 1) : nDrop N d i = N i := by
  unfold nDrop
  rw [zput_ne _ _ h1, nMv_lo h]
theorem nDrop_1 {N : zLv} {d : Nat} : nDrop N d 1 = N 1 - 1 := by
  unfold nDrop
  rw [zput_self]
theorem nDrop_at {N : zLv} {d i j : Nat} (hi : i < N 1 - 1) (hj : j < 5) : nDrop N d (49 + j + 5 * i) = if d ≤ i then N (49 + j + 5 * (i + 1)) else N (49 + j + 5 * i) := by
  unfold nDrop
  rw [zput_ne _ _ (by omega)]
  unfold nMv
  by_cases e : d ≤ i
  · rw [if_pos e, if_pos (by omega), show 49 + j + 5 * i + 5 = 49 + j + 5 * (i + 1) by omega]
  · rw [if_neg e, if_neg (by omega)]
theorem WB_nDrop {N : zLv} (hW : WB N) (d : Nat) : WB (nDrop N d) := by
  have h4 := hW.2.2.1
  have h0 := hW.1
  refine ⟨by rw [nDrop_lo (by omega) (by omega)]; exact hW.1, by rw [nDrop_1]; have := hW.2.1; omega, by rw [nDrop_lo (by omega) (by omega)]; exact hW.2.2.1, fun r hr => ?_, fun i hi => ?_, fun k hk => ?_⟩
  · rw [nDrop_lo (by omega) (by omega)] at hr
    rw [nDrop_lo (by omega) (by omega), nDrop_lo (by omega) (by omega)]
    exact hW.2.2.2.1 r hr
  · rw [nDrop_1] at hi
    rw [nDrop_lo (i := 0) (by omega) (by omega)]
    have e0 := nDrop_at (N := N) (d := d) (j := 0) hi (by omega)
    have e1 := nDrop_at (N := N) (d := d) (j := 1) hi (by omega)
    have e2 := nDrop_at (N := N) (d := d) (j := 2) hi (by omega)
    have e3 := nDrop_at (N := N) (d := d) (j := 3) hi (by omega)
    have e4 := nDrop_at (N := N) (d := d) (j := 4) hi (by omega)
    simp only [Nat.add_zero, Nat.reduceAdd] at e0 e1 e2 e3 e4
    rw [e0, e1, e2, e3, e4]
    by_cases w : d ≤ i
    · simp only [if_pos w]; exact hW.2.2.2.2.1 (i + 1) (by omega)
    · simp only [if_neg w]; exact hW.2.2.2.2.1 i (by omega)
  · rw [nDrop_lo (by omega) (by omega)] at hk
    rw [nDrop_lo (by omega) (by omega), nDrop_lo (by omega) (by omega)]
    exact hW.2.2.2.2.2 k hk
def nTwd (N : zLv) (d : Nat) : Nat := nTT (nDrop N d) (2 ^ N 2) (N 2)
theorem m_toursWithout {h : zm_H} {N : zLv} {d : Nat} (c : CI h N) (hd : d < N 1) : ∃ g, sX5_toursWithout [.ref 0, .int (nI d)] h = some (.inl (some (.long (lN (nTwd N d)))), g) ∧ CQ N h g := by
  have hF := c.2.2.1
  have hW := hF.1
  obtain ⟨g1, s1, fr1, kl1, lo1, cq1⟩ := m_copyD c
  have c1 := c.go cq1
  have v16 := c1.1.2.2.2.2.2.2.2.2.2.2.2.2.2.2.2.2.2.1
  obtain ⟨g2, s2, fr2, kl2, lo2⟩ := q_dropDoor v16 kl1 ⟨hW.1, hW.2.1, hW.2.2.1⟩ hd (fun i hi => (hW.2.2.2.2.1 i hi).2.2.2.2.2.2) lo1
  have cq2 := c1.draft fr2 lo2
  have c2 := c1.go cq2
  obtain ⟨g3, s3, cq3⟩ := m_countD c2 kl2 (WB_nDrop hW d) (by rw [nDrop_lo (by omega) (by omega)]; have := hF.2.2.2.1; have := hW.1; omega) (by rw [nDrop_lo (by omega) (by omega), nDrop_lo (by omega) (by omega)]; exact hF.2.2.1)
  rw [nDrop_lo (by omega) (by omega)] at s3
  have K1 := cq1.1.K
  have P1 := cq1.1.P
  have K2 := cq2.1.K
  have P2 := cq2.1.P
  have q0 := c.1.1
  have r2 := c.1.2.2.2.1
  have r3 := c.1.2.2.2.2.1
  have y16 := c.1.2.2.2.2.2.2.2.2.2.2.2.2.2.2.2.2.2.1.1
  refine ⟨g3, ?_, cq1.tr (cq2.tr cq3)⟩
  refine zsem_eq (Nat.le_of_ble_eq_true rfl) (zTo_of gX5_toursWithout_0 ?_)
  simp only [q0, m_needDoor c hd, r2, r3, y16, s1, s2, s3, K1, P1, K2, P2, zmp_s, zlt_s, zcV_s, zcI_s, zcJ_s, zcA_s, zcD_s, zcF_s, zth_n, zth_t, zrt_s, zQ_l, zQ_r, false_or, or_false, true_or, or_true, false_and, and_false, not_false_eq_true, not_true_eq_false, and_self, true_and, and_true, if_true, if_false, ite_true, ite_false, zgd_t]
  rfl
theorem m_toursWithoutX {h : zm_H} {N : zLv} {x : Int32} (c : CI h N) (hx : x < 0 ∨ nI (N 1) ≤ x) : sX5_toursWithout [.ref 0, .int x] h = some (.inr 2, h) := by
  have q0 := c.1.1
  refine zsem_eq (Nat.le_of_ble_eq_true rfl) (zTo_of gX5_toursWithout_0 ?_)
  simp only [q0, m_needDoorX c hx, zmp_s, zlt_s, zcV_s, zcI_s, zcJ_s, zcA_s, zcD_s, zcF_s, zth_n, zth_t, zrt_s, zQ_l, zQ_r, zgd_t]
/-- with a door open -/
def nOp (N : zLv) (d : Nat) : zLv := zput (zput (zput N (51 + 5 * d) 0) (52 + 5 * d) 0) (53 + 5 * d) 0
theorem nOp_lo {N : zLv} {d i : Nat} (h : i < 49) : nOp N d i = N i := by
  unfold nOp
  rw [zput_ne _ _ (by omega), zput_ne _ _ (by omega), zput_ne _ _ (by omega)]
theorem WB_nOp {N : zLv} (hW : WB N) (d : Nat) : WB (nOp N d) := by
  have h4 := hW.2.2.1
  have h0 := hW.1
  refine ⟨by rw [nOp_lo (by omega)]; exact hW.1, by rw [nOp_lo (by omega)]; exact hW.2.1, by rw [nOp_lo (by omega)]; exact hW.2.2.1, fun r hr => ?_, fun i hi => ?_, fun k hk => ?_⟩
  · rw [nOp_lo (by omega)] at hr
    rw [nOp_lo (by omega), nOp_lo (by omega)]
    exact hW.2.2.2.1 r hr
  · rw [nOp_lo (by omega)] at hi
    rw [nOp_lo (i := 0) (by omega)]
    obtain ⟨a1, a2, a3, a4, a5, a6, a7⟩ := hW.2.2.2.2.1 i hi
    have e0 : nOp N d (49 + 5 * i) = N (49 + 5 * i) := by unfold nOp; rw [zput_ne _ _ (by omega), zput_ne _ _ (by omega), zput_ne _ _ (by omega)]
    have e1 : nOp N d (50 + 5 * i) = N (50 + 5 * i) := by unfold nOp; rw [zput_ne _ _ (by omega), zput_ne _ _ (by omega), zput_ne _ _ (by omega)]
    rw [e0, e1]
    by_cases w : i = d
    · subst w
      have e2 : nOp N i (51 + 5 * i) = 0 := by unfold nOp; rw [zput_ne _ _ (by omega), zput_ne _ _ (by omega), zput_self]
      have e3 : nOp N i (52 + 5 * i) = 0 := by unfold nOp; rw [zput_ne _ _ (by omega), zput_self]
      have e4 : nOp N i (53 + 5 * i) = 0 := by unfold nOp; rw [zput_self]
      rw [e2, e3, e4]
      exact ⟨a1, a2, a3, by omega, by omega, by omega, by omega⟩
    · have e2 : nOp N d (51 + 5 * i) = N (51 + 5 * i) := by unfold nOp; rw [zput_ne _ _ (by omega), zput_ne _ _ (by omega), zput_ne _ _ (by omega)]
      have e3 : nOp N d (52 + 5 * i) = N (52 + 5 * i) := by unfold nOp; rw [zput_ne _ _ (by omega), zput_ne _ _ (by omega), zput_ne _ _ (by omega)]
      have e4 : nOp N d (53 + 5 * i) = N (53 + 5 * i) := by unfold nOp; rw [zput_ne _ _ (by omega), zput_ne _ _ (by omega), zput_ne _ _ (by omega)]
      rw [e2, e3, e4]
      exact ⟨a1, a2, a3, a4, a5, a6, a7⟩
  · rw [nOp_lo (by omega)] at hk
    rw [nOp_lo (by omega), nOp_lo (by omega)]
    exact hW.2.2.2.2.2 k hk
def nTio (N : zLv) (d : Nat) : Nat := nTT (nOp N d) (2 ^ N 2) (N 2)
theorem nTio_lt {N : zLv} (hF : WF N) (d : Nat) : nTio N d < 2 ^ 40 := nTT_lt (WB_nOp hF.1 d) (by rw [nOp_lo (by omega)]; exact hF.bit.1) _
theorem m_toursIfOpen {h : zm_H} {N : zLv} {d : Nat} (c : CI h N) (hd : d < N 1) : ∃ g, sX5_toursIfOpen [.ref 0, .int (nI d)] h = some (.inl (some (.long (lN (nTio N d)))), g) ∧ CQ N h g := by
  have hF := c.2.2.1
  have hW := hF.1
  have hd20 : d < 20 := by have := hW.2.1; omega
  obtain ⟨g1, s1, fr1, kl1, lo1, cq1⟩ := m_copyD c
  have c1 := c.go cq1
  have v16 := c1.1.2.2.2.2.2.2.2.2.2.2.2.2.2.2.2.2.2.1
  have s2 := q_lock (k := 0) (n := 0) v16 hd20
  have b1 : N 0 ≤ 11 ∧ N 4 ≤ 11 := ⟨hW.1, hW.2.2.1⟩
  have kl2 := KL_kind kl1 b1 d 0
  have b2 := zbz (N := N) (i := 51 + 5 * d) (x := 0) b1 (by omega)
  have kl3 := KL_num kl2 b2 d 0
  have b3 := zbz (i := 52 + 5 * d) (x := 0) b2 (by omega)
  have kl4 := KL_ow kl3 b3 d 0
  obtain ⟨g2, hg2⟩ : ∃ g2, g2 = zsI (zsI g1 (L16 + 6) d (nI 0)) (L16 + 7) d (nI 0) := ⟨_, rfl⟩
  rw [← hg2] at s2 kl4
  have fr2 : zFr (lvA L16) g1 g2 := by rw [hg2]; exact (zFr.sI (by unfold lvA; omega)).tr (zFr.sI (by unfold lvA; omega))
  have lo2 : lvO g2 L16 := lvO_fr (A := fun c => c = L16 + 6 ∨ c = L16 + 7) (by rw [hg2]; exact (zFr.sI (Or.inl rfl)).tr (zFr.sI (Or.inr rfl))) (by omega) lo1
  obtain ⟨g3, hg3⟩ : ∃ g3, g3 = zsI g2 (L16 + 8) d (0 : Int32) := ⟨_, rfl⟩
  have fr3 : zFr (lvA L16) g2 g3 := by rw [hg3]; exact zFr.sI (by unfold lvA; omega)
  have lo3 : lvO g3 L16 := by
    intro i hi
    rw [hg3, I_sI]
    by_cases e : i = d
    · left; rw [if_pos rfl, e, zput_self]
    · rw [if_pos rfl, zput_ne _ _ e]; exact lo2 i hi
  have kl5 : KL g3 L16 (nOp N d) := by rw [hg3]; exact kl4
  have cq2 := c1.draft fr2 lo2
  have cq3 := c1.draft (fr2.tr fr3) lo3
  have c3 := c1.go cq3
  obtain ⟨g4, s4, cq4⟩ := m_countD c3 kl5 (WB_nOp hW d) (by rw [nOp_lo (by omega)]; have := hF.2.2.2.1; have := hW.1; omega) (by rw [nOp_lo (by omega), nOp_lo (by omega)]; exact hF.2.2.1)
  rw [nOp_lo (by omega)] at s4
  have K1 := cq1.1.K
  have P1 := cq1.1.P
  have K2 := cq2.1.K
  have P2 := cq2.1.P
  have K3 := fr3.K
  have P3 := fr3.P
  have q0 := c.1.1
  have r2 := c.1.2.2.2.1
  have r3 := c.1.2.2.2.2.1
  have y16 := c.1.2.2.2.2.2.2.2.2.2.2.2.2.2.2.2.2.2.1.1
  have hS := c.1.2.2.2.2.2.2.2.2.2.2.2.2.2.2.2.2.2.1
  obtain ⟨k0, p1, p2, p3, p5, p6, p7, p8, p9, p12, p14, k1, k2, k3, k4, k5, k6, k7, k8, k9, k10⟩ := hS
  refine ⟨g4, ?_, cq1.tr (cq3.tr cq4)⟩
  refine zsem_eq (Nat.le_of_ble_eq_true rfl) (zTo_of gX5_toursIfOpen_0 ?_)
  simp only [q0, m_needDoor c hd, r2, r3, y16, p9, k8, s1, show (0 : Int32) = nI 0 from rfl, s2, K1, P1, K2, P2, nI_clamp (show d < 2 ^ 31 by omega), show (nI d < nI 0) = False from nI_lt0 (show d < 2 ^ 31 by omega), show ¬ 20 ≤ d by omega, zmp_s, zlt_s, zcV_s, zcI_s, zcJ_s, zcA_s, zcD_s, zcF_s, zth_n, zth_t, zrt_s, zQ_l, zQ_r, false_or, or_false, true_or, or_true, false_and, and_false, not_false_eq_true, not_true_eq_false, and_self, true_and, and_true, if_true, if_false, ite_true, ite_false, zgd_t]
  rw [show zsI g2 (L16 + 8) d (nI 0) = g3 from hg3.symm]
  simp only [K1, P1, K2, P2, K3, P3, q0, r3, y16, s4, zmp_s, zlt_s, zcV_s, zcI_s, zcJ_s, zcA_s, zcD_s, zcF_s, zth_n, zth_t, zrt_s, zQ_l, zQ_r, false_or, or_false, true_or, or_true, false_and, and_false, not_false_eq_true, not_true_eq_false, and_self, true_and, and_true, if_true, if_false, ite_true, ite_false, zgd_t]
  rfl
theorem m_toursIfOpenX {h : zm_H} {N : zLv} {x : Int32} (c : CI h N) (hx : x < 0 ∨ nI (N 1) ≤ x) : sX5_toursIfOpen [.ref 0, .int x] h = some (.inr 2, h) := by
  have q0 := c.1.1
  refine zsem_eq (Nat.le_of_ble_eq_true rfl) (zTo_of gX5_toursIfOpen_0 ?_)
  simp only [q0, m_needDoorX c hx, zmp_s, zlt_s, zcV_s, zcI_s, zcJ_s, zcA_s, zcD_s, zcF_s, zth_n, zth_t, zrt_s, zQ_l, zQ_r, zgd_t]
theorem nTwo_lt {N : zLv} (hF : WF N) (k : Nat) : nTwo N k < 2 ^ 40 := nTT_lt (WB_nWo hF.1 k (Nat.le_refl _)) (by rw [nWo_lo (by omega)]; exact hF.bit.1) _
theorem nTwd_lt {N : zLv} (hF : WF N) (d : Nat) : nTwd N d < 2 ^ 40 := nTT_lt (WB_nDrop hF.1 d) (by rw [nDrop_lo (by omega) (by omega)]; exact hF.bit.1) _
def nNk (N : zLv) : Nat := if nTo N = 0 then 0 else nmask (fun k => decide (nTwo N k = 0)) 8
theorem m_neededKeys {h : zm_H} {N : zLv} (c : CI h N) : ∃ g, sX5_neededKeys [.ref 0] h = some (.inl (some (.int (nI (nNk N)))), g) ∧ CQ N h g := by
  have hF := c.2.2.1
  have hn := hF.1.1
  have hdn := hF.1.2.1
  obtain ⟨g1, s1, cq1⟩ := m_tours c
  have q00 := c.1.1
  have tl := nTo_lt hF
  unfold nNk
  by_cases z : nTo N = 0
  · have hz : (lg_cmp (lN (nTo N)) (0 : Int64) = 0) = True := eq_true ((lgeq0 (show nTo N < 2 ^ 63 by omega)).mpr z)
    refine ⟨g1, ?_, cq1⟩
    rw [if_pos z]
    refine zsem_eq (Nat.le_of_ble_eq_true rfl) (zTo_of gX5_neededKeys_0 ?_)
    simp only [q00, s1, hz, zmp_s, zlt_s, zcV_s, zcI_s, zcJ_s, zcA_s, zcD_s, zcF_s, zth_n, zth_t, zrt_s, zQ_l, zQ_r, false_or, or_false, true_or, or_true, false_and, and_false, not_false_eq_true, not_true_eq_false, and_self, true_and, and_true, if_true, if_false, ite_true, ite_false, zgd_t]
    rfl
  have hz : (lg_cmp (lN (nTo N)) (0 : Int64) = 0) = False := eq_false (fun e => z ((lgeq0 (show nTo N < 2 ^ 63 by omega)).mp e))
  rw [if_neg z]
  obtain ⟨R, hR⟩ : ∃ R : zm_O → Prop, R = (fun o => ∃ g, o = (.inl (some (.int (nI (nmask (fun k => decide (nTwo N k = 0)) 8)))), g) ∧ CQ N h g) := ⟨_, rfl⟩
  have key : ∀ d r g, r + d = 8 → CQ N h g → zTo vX5_neededKeys rX5_neededKeys (11, [some (.ref 0), some (.int (nI (nmask (fun k => decide (nTwo N k = 0)) r))), some (.int (nI r))], [], g) R := by
    intro d
    induction d with
    | zero =>
      intro r g hr cq
      have hr : r = 8 := by omega
      have c1 := c.go cq
      have e8 : (8 : Int32) = nI 8 := rfl
      refine zTo_of gX5_neededKeys_11 ?_
      simp only [e8, hr, nI_le (Nat.le_refl _) (show 8 < 2 ^ 31 by omega), zmp_s, zlt_s, zcV_s, zcI_s, zcJ_s, zcA_s, zcD_s, zcF_s, zth_n, zth_t, zrt_s, zQ_l, zQ_r, false_or, or_false, true_or, or_true, false_and, and_false, not_false_eq_true, not_true_eq_false, and_self, true_and, and_true, if_true, if_false, ite_true, ite_false, zgd_t]
      rw [hR]
      exact ⟨g, rfl, cq⟩
    | succ d ih =>
      intro r g hr cq
      have c1 := c.go cq
      have q0 := c1.1.1
      have e8 : (8 : Int32) = nI 8 := rfl
      have hlt : r < 8 := by omega
      obtain ⟨f1, f2, f3, f4⟩ := nI_for hlt (by omega)
      obtain ⟨g2, s2, cq2⟩ := m_without c1 hlt
      have cl := nTwo_lt hF r
      refine zTo_of gX5_neededKeys_11 ?_
      simp only [e8, f1, q0, s2, lgeq0 (show nTwo N r < 2 ^ 63 by omega), f4, nx_shl1 (show r < 32 by omega), nx_or, zmp_s, zlt_s, zcV_s, zcI_s, zcJ_s, zcA_s, zcD_s, zcF_s, zth_n, zth_t, zrt_s, zQ_l, zQ_r, false_or, or_false, true_or, or_true, false_and, and_false, not_false_eq_true, not_true_eq_false, and_self, true_and, and_true, if_true, if_false, ite_true, ite_false, zgd_t]
      by_cases w : nTwo N r = 0
      · simp only [w, false_or, or_false, true_or, or_true, false_and, and_false, not_false_eq_true, not_true_eq_false, and_self, true_and, and_true, if_true, if_false, ite_true, ite_false, zmp_s, zlt_s, zcV_s, zcI_s, zcJ_s, zcA_s, zcD_s, zcF_s, zth_n, zth_t, zrt_s, zQ_l, zQ_r]
        have := ih (r + 1) g2 (by omega) (cq.tr cq2)
        unfold nmask at this ⊢
        rw [zfo_s, if_pos (by simp [w])] at this
        exact this
      · simp only [w, false_or, or_false, true_or, or_true, false_and, and_false, not_false_eq_true, not_true_eq_false, and_self, true_and, and_true, if_true, if_false, ite_true, ite_false, zmp_s, zlt_s, zcV_s, zcI_s, zcJ_s, zcA_s, zcD_s, zcF_s, zth_n, zth_t, zrt_s, zQ_l, zQ_r]
        have := ih (r + 1) g2 (by omega) (cq.tr cq2)
        unfold nmask at this ⊢
        rw [zfo_s, if_neg (by simp [w])] at this
        exact this
  have hsim : zW (sX5_neededKeys [.ref 0] h) R := by
    refine zsem_to (Nat.le_of_ble_eq_true rfl) (zTo_of gX5_neededKeys_0 ?_)
    simp only [q00, s1, hz, zmp_s, zlt_s, zcV_s, zcI_s, zcJ_s, zcA_s, zcD_s, zcF_s, zth_n, zth_t, zrt_s, zQ_l, zQ_r, false_or, or_false, true_or, or_true, false_and, and_false, not_false_eq_true, not_true_eq_false, and_self, true_and, and_true, if_true, if_false, ite_true, ite_false, zgd_t]
    exact key 8 0 g1 (by omega) cq1
  rw [hR] at hsim
  obtain ⟨o, h1, g, rfl, h2⟩ := hsim
  exact ⟨g, h1, h2⟩
def nNd (N : zLv) : Nat := if nTo N = 0 then 0 else nmask (fun k => decide (nTwd N k = 0)) (N 1)
theorem m_neededDoors {h : zm_H} {N : zLv} (c : CI h N) : ∃ g, sX5_neededDoors [.ref 0] h = some (.inl (some (.int (nI (nNd N)))), g) ∧ CQ N h g := by
  have hF := c.2.2.1
  have hn := hF.1.1
  have hdn := hF.1.2.1
  obtain ⟨g1, s1, cq1⟩ := m_tours c
  have q00 := c.1.1
  have tl := nTo_lt hF
  unfold nNd
  by_cases z : nTo N = 0
  · have hz : (lg_cmp (lN (nTo N)) (0 : Int64) = 0) = True := eq_true ((lgeq0 (show nTo N < 2 ^ 63 by omega)).mpr z)
    refine ⟨g1, ?_, cq1⟩
    rw [if_pos z]
    refine zsem_eq (Nat.le_of_ble_eq_true rfl) (zTo_of gX5_neededDoors_0 ?_)
    simp only [q00, s1, hz, zmp_s, zlt_s, zcV_s, zcI_s, zcJ_s, zcA_s, zcD_s, zcF_s, zth_n, zth_t, zrt_s, zQ_l, zQ_r, false_or, or_false, true_or, or_true, false_and, and_false, not_false_eq_true, not_true_eq_false, and_self, true_and, and_true, if_true, if_false, ite_true, ite_false, zgd_t]
    rfl
  have hz : (lg_cmp (lN (nTo N)) (0 : Int64) = 0) = False := eq_false (fun e => z ((lgeq0 (show nTo N < 2 ^ 63 by omega)).mp e))
  rw [if_neg z]
  obtain ⟨R, hR⟩ : ∃ R : zm_O → Prop, R = (fun o => ∃ g, o = (.inl (some (.int (nI (nmask (fun k => decide (nTwd N k = 0)) (N 1))))), g) ∧ CQ N h g) := ⟨_, rfl⟩
  have key : ∀ d r g, r + d = (N 1) → CQ N h g → zTo vX5_neededDoors rX5_neededDoors (11, [some (.ref 0), some (.int (nI (nmask (fun k => decide (nTwd N k = 0)) r))), some (.int (nI r))], [], g) R := by
    intro d
    induction d with
    | zero =>
      intro r g hr cq
      have hr : r = (N 1) := by omega
      have c1 := c.go cq
      have q0 := c1.1.1
      have r2 := c1.1.2.2.2.1
      have y5 := c1.1.2.2.2.2.2.2.2.2.2.2.2.2.2.2.2.2.1.1
      have l1 := c1.2.1.2.1
      refine zTo_of gX5_neededDoors_11 ?_
      simp only [q0, r2, y5, l1, hr, nI_le (Nat.le_refl _) (show N 1 < 2 ^ 31 by omega), zmp_s, zlt_s, zcV_s, zcI_s, zcJ_s, zcA_s, zcD_s, zcF_s, zth_n, zth_t, zrt_s, zQ_l, zQ_r, false_or, or_false, true_or, or_true, false_and, and_false, not_false_eq_true, not_true_eq_false, and_self, true_and, and_true, if_true, if_false, ite_true, ite_false, zgd_t]
      rw [hR]
      exact ⟨g, rfl, cq⟩
    | succ d ih =>
      intro r g hr cq
      have c1 := c.go cq
      have q0 := c1.1.1
      have q0 := c1.1.1
      have r2 := c1.1.2.2.2.1
      have y5 := c1.1.2.2.2.2.2.2.2.2.2.2.2.2.2.2.2.2.1.1
      have l1 := c1.2.1.2.1
      have hlt : r < (N 1) := by omega
      obtain ⟨f1, f2, f3, f4⟩ := nI_for hlt (by omega)
      obtain ⟨g2, s2, cq2⟩ := m_toursWithout c1 hlt
      have cl := nTwd_lt hF r
      refine zTo_of gX5_neededDoors_11 ?_
      simp only [q0, r2, y5, l1, f1, q0, s2, lgeq0 (show nTwd N r < 2 ^ 63 by omega), f4, nx_shl1 (show r < 32 by omega), nx_or, zmp_s, zlt_s, zcV_s, zcI_s, zcJ_s, zcA_s, zcD_s, zcF_s, zth_n, zth_t, zrt_s, zQ_l, zQ_r, false_or, or_false, true_or, or_true, false_and, and_false, not_false_eq_true, not_true_eq_false, and_self, true_and, and_true, if_true, if_false, ite_true, ite_false, zgd_t]
      by_cases w : nTwd N r = 0
      · simp only [w, false_or, or_false, true_or, or_true, false_and, and_false, not_false_eq_true, not_true_eq_false, and_self, true_and, and_true, if_true, if_false, ite_true, ite_false, zmp_s, zlt_s, zcV_s, zcI_s, zcJ_s, zcA_s, zcD_s, zcF_s, zth_n, zth_t, zrt_s, zQ_l, zQ_r]
        have := ih (r + 1) g2 (by omega) (cq.tr cq2)
        unfold nmask at this ⊢
        rw [zfo_s, if_pos (by simp [w])] at this
        exact this
      · simp only [w, false_or, or_false, true_or, or_true, false_and, and_false, not_false_eq_true, not_true_eq_false, and_self, true_and, and_true, if_true, if_false, ite_true, ite_false, zmp_s, zlt_s, zcV_s, zcI_s, zcJ_s, zcA_s, zcD_s, zcF_s, zth_n, zth_t, zrt_s, zQ_l, zQ_r]
        have := ih (r + 1) g2 (by omega) (cq.tr cq2)
        unfold nmask at this ⊢
        rw [zfo_s, if_neg (by simp [w])] at this
        exact this
  have hsim : zW (sX5_neededDoors [.ref 0] h) R := by
    refine zsem_to (Nat.le_of_ble_eq_true rfl) (zTo_of gX5_neededDoors_0 ?_)
    simp only [q00, s1, hz, zmp_s, zlt_s, zcV_s, zcI_s, zcJ_s, zcA_s, zcD_s, zcF_s, zth_n, zth_t, zrt_s, zQ_l, zQ_r, false_or, or_false, true_or, or_true, false_and, and_false, not_false_eq_true, not_true_eq_false, and_self, true_and, and_true, if_true, if_false, ite_true, ite_false, zgd_t]
    exact key (N 1) 0 g1 (by omega) cq1
  rw [hR] at hsim
  obtain ⟨o, h1, g, rfl, h2⟩ := hsim
  exact ⟨g, h1, h2⟩
/-- a count or none -/
def bL (n : Nat) : Int64 := if n = 0 then -1 else lN (n - 1)
theorem bLle {a m : Nat} (ha : a < 2 ^ 62) (hm : m < 2 ^ 62) : (lg_cmp (lN a) (bL m) ≤ 0) = (a + 1 ≤ m) := by
  apply propext
  rw [lg_cmp_le]
  unfold bL
  by_cases e : m = 0
  · rw [if_pos e, e]
    have h0 : (0 : Int64) ≤ lN a := by
      show lN 0 ≤ lN a
      rw [pk_lLE (by omega) (by omega)]; omega
    constructor
    · intro q
      exact absurd (Int64.le_trans h0 q) (by decide)
    · intro q; omega
  · rw [if_neg e, pk_lLE (by omega) (by omega)]; omega
def nBs (N : zLv) (n : Nat) : Nat × Nat := zfo (fun d p => if nTio N d + 1 ≤ p.2 then p else (d + 1, nTio N d + 1)) (0, 0) n
theorem nBs_lt {N : zLv} (hF : WF N) (n : Nat) : (nBs N n).2 < 2 ^ 41 := by
  refine zfo_ind (fun p : Nat × Nat => p.2 < 2 ^ 41) (by omega) n (fun i x hi hx => ?_)
  show (if nTio N i + 1 ≤ x.2 then x else (i + 1, nTio N i + 1)).2 < 2 ^ 41
  split
  · exact hx
  · show nTio N i + 1 < 2 ^ 41
    have := nTio_lt hF i; omega
theorem m_bestDoor {h : zm_H} {N : zLv} (c : CI h N) : ∃ g, sX5_bestDoor [.ref 0] h = some (.inl (some (.int (eI (nBs N (N 1)).1))), g) ∧ CQ N h g := by
  have hF := c.2.2.1
  have hdn := hF.1.2.1
  obtain ⟨R, hR⟩ : ∃ R : zm_O → Prop, R = (fun o => ∃ g, o = (.inl (some (.int (eI (nBs N (N 1)).1))), g) ∧ CQ N h g) := ⟨_, rfl⟩
  have key : ∀ d r g, r + d = N 1 → CQ N h g → zTo vX5_bestDoor rX5_bestDoor (6, [some (.ref 0), some (.int (eI (nBs N r).1)), some (.long (bL (nBs N r).2)), none, some (.int (nI r)), none, none], [], g) R := by
    intro d
    induction d with
    | zero =>
      intro r g hr cq
      have hr : r = N 1 := by omega
      have c1 := c.go cq
      have q0 := c1.1.1
      have r2 := c1.1.2.2.2.1
      have y5 := c1.1.2.2.2.2.2.2.2.2.2.2.2.2.2.2.2.2.1.1
      have l1 := c1.2.1.2.1
      refine zTo_of gX5_bestDoor_6 ?_
      simp only [q0, r2, y5, l1, hr, nI_le (Nat.le_refl _) (show N 1 < 2 ^ 31 by omega), zmp_s, zlt_s, zcV_s, zcI_s, zcJ_s, zcA_s, zcD_s, zcF_s, zth_n, zth_t, zrt_s, zQ_l, zQ_r, false_or, or_false, true_or, or_true, false_and, and_false, not_false_eq_true, not_true_eq_false, and_self, true_and, and_true, if_true, if_false, ite_true, ite_false, zgd_t]
      rw [hR]
      exact ⟨g, rfl, cq⟩
    | succ d ih =>
      intro r g hr cq
      have c1 := c.go cq
      have q0 := c1.1.1
      have r2 := c1.1.2.2.2.1
      have y5 := c1.1.2.2.2.2.2.2.2.2.2.2.2.2.2.2.2.2.1.1
      have l1 := c1.2.1.2.1
      obtain ⟨f1, f2, f3, f4⟩ := nI_for (show r < N 1 by omega) (by omega)
      obtain ⟨g2, s2, cq2⟩ := m_toursIfOpen c1 (show r < N 1 by omega)
      have cl := nTio_lt hF r
      have cb := nBs_lt hF r
      have st : nBs N (r + 1) = if nTio N r + 1 ≤ (nBs N r).2 then nBs N r else (r + 1, nTio N r + 1) := rfl
      refine zTo_of gX5_bestDoor_6 ?_
      simp only [q0, r2, y5, l1, f1, s2, f4, bLle (show nTio N r < 2 ^ 62 by omega) (show (nBs N r).2 < 2 ^ 62 by omega), zmp_s, zlt_s, zcV_s, zcI_s, zcJ_s, zcA_s, zcD_s, zcF_s, zth_n, zth_t, zrt_s, zQ_l, zQ_r, false_or, or_false, true_or, or_true, false_and, and_false, not_false_eq_true, not_true_eq_false, and_self, true_and, and_true, if_true, if_false, ite_true, ite_false, zgd_t]
      have := ih (r + 1) g2 (by omega) (cq.tr cq2)
      rw [st] at this
      by_cases w : nTio N r + 1 ≤ (nBs N r).2
      · simp only [w, false_or, or_false, true_or, or_true, false_and, and_false, not_false_eq_true, not_true_eq_false, and_self, true_and, and_true, if_true, if_false, ite_true, ite_false, zmp_s, zlt_s, zcV_s, zcI_s, zcJ_s, zcA_s, zcD_s, zcF_s, zth_n, zth_t, zrt_s, zQ_l, zQ_r]
        rw [if_pos w] at this
        exact this
      · simp only [w, false_or, or_false, true_or, or_true, false_and, and_false, not_false_eq_true, not_true_eq_false, and_self, true_and, and_true, if_true, if_false, ite_true, ite_false, zmp_s, zlt_s, zcV_s, zcI_s, zcJ_s, zcA_s, zcD_s, zcF_s, zth_n, zth_t, zrt_s, zQ_l, zQ_r]
        rw [if_neg w] at this
        have e2 : bL (nTio N r + 1) = lN (nTio N r) := if_neg (by omega)
        rw [eI_s, e2] at this
        exact this
  have hsim : zW (sX5_bestDoor [.ref 0] h) R := zsem_to (Nat.le_of_ble_eq_true rfl) (zTo_of gX5_bestDoor_0 (by have k0 := key (N 1) 0 h (by omega) c.rf; rw [show nBs N 0 = (0, 0) from rfl, show bL 0 = -1 from if_pos rfl, eI_0] at k0; exact k0))
  rw [hR] at hsim
  obtain ⟨o, h1, g, rfl, h2⟩ := hsim
  exact ⟨g, h1, h2⟩
end ZC5
