/-! THE CLASS: the walk and tours written. -/
section ZCJ
theorem nwr_le1 (N : zLv) (w : Nat → Nat) : ∀ n, (nwr N w (n + 1)).length ≤ 7 * n + 6 := by
  intro n
  induction n with
  | zero =>
    unfold nwr nwr
    have := nlt_le 6 (N (18 + 3 * w 0))
    simp
    omega
  | succ n ih =>
    rw [nwr, List.length_append, List.length_append, if_neg (by omega)]
    have := nlt_le 6 (N (18 + 3 * w (n + 1)))
    show _ + (1 + _) ≤ _
    omega
/-- the walk as it is written -/
def nww (N : zLv) : List Int32 := nwr N (nwk N) (N 4) ++ (if nCo N = 0 then [33] else [])
theorem m_writeWalk {h : zm_H} {N : zLv} (c : CI h N) :
    ∃ g, sX5_writeWalk [.ref 0] h = some (.inl (some (.int (nI (nww N).length))), g) ∧ zFr (fun c => scA c ∨ c = 3 ∨ c = 4) h g ∧ CI g N ∧ BL g 3 4 77 (nww N) ∧ zI g 0 10 = zI h 0 10 ∧ zI g 0 11 = zI h 0 11 := by
  have hF := c.2.2.1
  have hW := hF.1
  have h1 := hF.2.2.2.2.1
  have cl := nCo_lt hF
  obtain ⟨g1, s1, cq1⟩ := m_completions c
  have c1 := c.go cq1
  have hS1 := c1.1.2.2.2.2.2.2.2.2.2.2.2.2.2.2.2.2.1
  have k9' := hS1.2.2.2.2.2.2.2.2.2.2.2.2.2.2.2.2.2.2.2.1
  obtain ⟨g2, s2, fr2, B2⟩ := m_writeRooms (q := L5 + 9) (n := N 4) (w := nwk N) c1 (by rw [L5e]; omega) k9' hW.2.2.1 (fun i hi => ⟨c1.2.1.2.2.2.2.2.2.2.2.2.2.2.2.2 i hi, hF.wk hi⟩)
  have c2 := c1.fr fr2 (fun c hc => by omega)
  have b2 := c2.out B2
  have lw : (nwr N (nwk N) (N 4)).length ≤ 76 := by
    have := nwr_le1 N (nwk N) (N 4 - 1)
    rw [show N 4 - 1 + 1 = N 4 by omega] at this
    have := hW.2.2.1
    omega
  have z0 : zI g2 0 = zI g1 0 := fr2.I (by omega)
  have q00 := c.1.1
  have q01 := c1.1.1
  have r21 := c1.1.2.2.2.1
  have r12 := c2.1.2.2.1
  have q02 := c2.1.1
  have l4 := c1.2.1.2.2.2.2.1
  have o02 := b2.1
  have hS := hS1
  obtain ⟨k0, p1, p2, p3, p5, p6, p7, p8, p9, p12, p14, k1, k2, k3, k4, k5, k6, k7, k8, k9, k10⟩ := hS
  by_cases z : nCo N = 0
  · obtain ⟨g3, s3, t3⟩ := byG_one (33 : Int32) b2 (show (nwr N (nwk N) (N 4)).length < 77 by omega) (by omega) (by omega)
    have B3 := BL_add B2 t3 (by show _ + 1 ≤ 77; omega)
    have fr3 := t3.1
    have c3 := c2.fr fr3 (fun c hc => by omega)
    have e : nww N = nwr N (nwk N) (N 4) ++ [(33 : Int32) &&& 255] := by unfold nww; rw [if_pos z]; rfl
    have l3 := B3.1
    have K3 := fr3.K
    have P3 := fr3.P
    have z3 : zI g3 0 = zI g2 0 := fr3.I (by omega)
    have hz : (lg_cmp (lN (nCo N)) (0 : Int64) = 0) = True := eq_true ((lgeq0 (show nCo N < 2 ^ 63 by omega)).mpr z)
    refine ⟨g3, ?_, (cq1.1.mono (fun c hc => Or.inl hc)).tr ((fr2.mono (fun c hc => Or.inr hc)).tr (fr3.mono (fun c hc => Or.inr hc))), c3, by rw [e]; exact B3, by rw [z3, z0]; exact cq1.2.1, by rw [z3, z0]; exact cq1.2.2.1⟩
    rw [e]
    refine zsem_eq (Nat.le_of_ble_eq_true rfl) (zTo_of gX5_writeWalk_0 ?_)
    simp only [q00, s1, hz, q01, r21, k0, p12, l4, s2, show ((1 : Int32) = 0) = False by decide, q02, r12, o02, s3, K3, P3, l3, zmp_s, zlt_s, zcV_s, zcI_s, zcJ_s, zcA_s, zcD_s, zcF_s, zth_n, zth_t, zrt_s, zQ_l, zQ_r, false_or, or_false, true_or, or_true, false_and, and_false, not_false_eq_true, not_true_eq_false, and_self, true_and, and_true, if_true, if_false, ite_true, ite_false, zgd_t]
  · have hz : (lg_cmp (lN (nCo N)) (0 : Int64) = 0) = False := eq_false (fun e => z ((lgeq0 (show nCo N < 2 ^ 63 by omega)).mp e))
    have e : nww N = nwr N (nwk N) (N 4) := by unfold nww; rw [if_neg z, List.append_nil]
    have l2 := B2.1
    have zt : ((0 : Int32) = 0) = True := eq_true rfl
    refine ⟨g2, ?_, (cq1.1.mono (fun c hc => Or.inl hc)).tr (fr2.mono (fun c hc => Or.inr hc)), c2, by rw [e]; exact B2, by rw [z0]; exact cq1.2.1, by rw [z0]; exact cq1.2.2.1⟩
    rw [e]
    refine zsem_eq (Nat.le_of_ble_eq_true rfl) (zTo_of gX5_writeWalk_0 ?_)
    simp only [q00, s1, hz, q01, r21, k0, p12, l4, s2, zt, q02, r12, o02, l2, zmp_s, zlt_s, zcV_s, zcI_s, zcJ_s, zcA_s, zcD_s, zcF_s, zth_n, zth_t, zrt_s, zQ_l, zQ_r, false_or, or_false, true_or, or_true, false_and, and_false, not_false_eq_true, not_true_eq_false, and_self, true_and, and_true, if_true, if_false, ite_true, ite_false, zgd_t]
theorem nTp_lt {N : zLv} (hF : WF N) {k : Nat} (hk : k < nTo N) {p : Nat} (hp : p < N 0) : nTp N k p < N 0 := by
  have wf := nWa_ok hF hk
  have := wf.wk (k := p) (by rw [show nWa N k 4 = N 0 from nWl_4]; exact hp)
  rw [show nWa N k 0 = N 0 from nWl_lo hF.1.1 (by omega)] at this
  have e : nwk (nWa N k) p = nTp N k p := nWl_at hp
  rw [e] at this
  exact this
theorem m_writeTour {h : zm_H} {N : zLv} {k : Nat} (c : CI h N) (hk : k < nTo N) :
    ∃ g, sX5_writeTour [.ref 0, .long (lN k)] h = some (.inl (some (.int (nI (nwr N (nTp N k) (N 0)).length))), g) ∧ zFr (fun c => scA c ∨ c = 3 ∨ c = 4) h g ∧ CI g N ∧ BL g 3 4 77 (nwr N (nTp N k) (N 0)) ∧ zI g 0 10 = zI h 0 10 ∧ zI g 0 11 = zI h 0 11 := by
  have hF := c.2.2.1
  have hW := hF.1
  obtain ⟨g0, s0, cq0, -⟩ := m_needTour c hk
  have c0 := c.go cq0
  obtain ⟨g1, s1, cq1, row⟩ := m_fillRow c0 hk
  have c1 := c0.go cq1
  have kq := c1.1.2.2.2.2.2.2.2.2.2.2.2.2.2.2.2.2.2.2.2.2.2.2.2.2.2.2
  obtain ⟨g2, s2, fr2, B2⟩ := m_writeRooms (q := 124) (n := N 0) (w := nTp N k) c1 (by omega) kq hW.1 (fun i hi => ⟨row i hi, nTp_lt hF hk hi⟩)
  have c2 := c1.fr fr2 (fun c hc => by omega)
  have b2 := c2.out B2
  have z0 : zI g2 0 = zI g1 0 := fr2.I (by omega)
  have q00 := c.1.1
  have q0' := c0.1.1
  have q01 := c1.1.1
  have r21 := c1.1.2.2.2.1
  have r91 := c1.1.2.2.2.2.2.2.2.2.2.1
  have r12 := c2.1.2.2.1
  have q02 := c2.1.1
  have l0 := c1.2.1.1
  have y5 := c1.1.2.2.2.2.2.2.2.2.2.2.2.2.2.2.2.2.1.1
  have o02 := b2.1
  have l2 := B2.1
  refine ⟨g2, ?_, (cq0.1.mono (fun c hc => Or.inl hc)).tr ((cq1.1.mono (fun c hc => Or.inl hc)).tr (fr2.mono (fun c hc => Or.inr hc))), c2, B2, by rw [z0]; exact cq1.2.1.trans cq0.2.1, by rw [z0]; exact cq1.2.2.1.trans cq0.2.2.1⟩
  refine zsem_eq (Nat.le_of_ble_eq_true rfl) (zTo_of gX5_writeTour_0 ?_)
  simp only [q00, s0, q0', s1, q01, r91, r21, y5, l0, s2, q02, r12, o02, l2, zmp_s, zlt_s, zcV_s, zcI_s, zcJ_s, zcA_s, zcD_s, zcF_s, zth_n, zth_t, zrt_s, zQ_l, zQ_r, false_or, or_false, true_or, or_true, false_and, and_false, not_false_eq_true, not_true_eq_false, and_self, true_and, and_true, if_true, if_false, ite_true, ite_false, zgd_t]
theorem m_writeTourX {h : zm_H} {N : zLv} {x : Int64} (c : CI h N) (hx : x < 0 ∨ lN (nTo N) ≤ x) : ∃ g, sX5_writeTour [.ref 0, .long x] h = some (.inr 1, g) ∧ CQ N h g := by
  have q00 := c.1.1
  obtain ⟨g1, s1, cq1⟩ := m_needTourX c hx
  refine ⟨g1, ?_, cq1⟩
  refine zsem_eq (Nat.le_of_ble_eq_true rfl) (zTo_of gX5_writeTour_0 ?_)
  simp only [q00, s1, zmp_s, zlt_s, zcV_s, zcI_s, zcJ_s, zcA_s, zcD_s, zcF_s, zth_n, zth_t, zrt_s, zQ_l, zQ_r, false_or, or_false, true_or, or_true, false_and, and_false, not_false_eq_true, not_true_eq_false, and_self, true_and, and_true, if_true, if_false, ite_true, ite_false, zgd_t]
end ZCJ
