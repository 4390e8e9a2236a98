/-! THE CLASS: a room found by its name. -/
section ZCM
theorem nmw_lt (xs : List Int32) : nmw xs < 2 ^ 56 := by
  unfold nmw
  split
  · omega
  · split
    · omega
    · exact pkn_lt _
def nFd (N : zLv) (xs : List Int32) : Int32 := if nmw xs = 0 then -1 else oI (nfind (fun r => decide (pkn (N (18 + 3 * r)) = nmw xs)) (N 0))
theorem m_find {h : zm_H} {N : zLv} {xs : List Int32} (c : CI h N) (B : BL h 1 2 500 xs) :
    ∃ g, sX5_find [.ref 0] h = some (.inl (some (.int (nFd N xs))), g) ∧ zFr (fun c => c = 1) h g ∧ BL g 1 2 500 [] := by
  have S := c.inp B
  have s1 := m_wholeName S B (by omega)
  have lt := nmw_lt xs
  obtain ⟨g, hg⟩ : ∃ g, g = zsI h 1 1 (0 : Int32) := ⟨_, rfl⟩
  have fr : zFr (fun c => c = 1) h g := by rw [hg]; exact zFr.sI rfl
  have cg := c.fr fr (fun c hc => by omega)
  have hk := c.1
  obtain ⟨q0, r0, r1, r2, r3, r4, r5, r6, r7, r9, i0, i1, i2, o0, o1, o2, v5, v16, hh, v96, v107, sl0, sl1, sl2, fl0, tb, rw0⟩ := hk
  have s2 := q_roomNamed (w := nmw xs) (lvS_fr fr v5) cg.2.1 c.2.2.1.1.1 (by omega)
  have K1 := fr.K
  have P1 := fr.P
  have y5 := v5.1
  refine ⟨g, ?_, fr, ⟨by rw [hg, I_sIs, zput_self]; rfl, Nat.zero_le _, fun i hi => absurd hi (Nat.not_lt_zero i)⟩⟩
  unfold nFd
  by_cases z : nmw xs = 0
  · rw [if_pos z]
    have hz : (lg_cmp (lN (nmw xs)) (0 : Int64) = 0) = True := eq_true ((lgeq0 (show nmw xs < 2 ^ 63 by omega)).mpr z)
    refine zsem_eq (Nat.le_of_ble_eq_true rfl) (zTo_of gX5_find_0 ?_)
    simp only [q0, r0, i0, s1, hz, ← hg, zmp_s, zlt_s, zcV_s, zcI_s, zcJ_s, zcA_s, zcD_s, zcF_s, zth_n, zth_t, zrt_s, zQ_l, zQ_r, false_or, or_false, true_or, or_true, false_and, and_false, not_false_eq_true, not_true_eq_false, and_self, true_and, and_true, if_true, if_false, ite_true, ite_false, zgd_t]
  · rw [if_neg z]
    have hz : (lg_cmp (lN (nmw xs)) (0 : Int64) = 0) = False := eq_false (fun e => z ((lgeq0 (show nmw xs < 2 ^ 63 by omega)).mp e))
    refine zsem_eq (Nat.le_of_ble_eq_true rfl) (zTo_of gX5_find_0 ?_)
    simp only [q0, r0, i0, s1, hz, ← hg, K1, P1, r2, y5, s2, zmp_s, zlt_s, zcV_s, zcI_s, zcJ_s, zcA_s, zcD_s, zcF_s, zth_n, zth_t, zrt_s, zQ_l, zQ_r, false_or, or_false, true_or, or_true, false_and, and_false, not_false_eq_true, not_true_eq_false, and_self, true_and, and_true, if_true, if_false, ite_true, ite_false, zgd_t]
end ZCM
