/-! THE CLASS: questions about tours. -/
section ZC3
theorem CI.lead {h : zm_H} {N : zLv} (c : CI h N) (f : Nat → Int32) : CQ N h (zrI h (L5 + 10) f) := by
  obtain ⟨hk, hL, hF, hst, ho5, ho16⟩ := c
  have hf : zFr (fun c => c = 15) h (zrI h (L5 + 10) f) := zFr.rI rfl
  refine ⟨hf.mono (fun c hc => by unfold scA; omega), by rw [hf.I (by omega)], by rw [hf.I (by omega)], ?_, lvO_fr hf (by rw [L16e]; omega) ho16⟩
  rcases hst with st | ⟨st, tg⟩
  · left; rw [hf.I (by omega)]; exact st
  · right; exact ⟨by rw [hf.I (by omega)]; exact st, TBg_off hf (fun i hi => by omega) tg⟩
/-- rooms to which the walk can go on -/
def nEx (N : zLv) : Nat := nmask (fun r => nnx N (nset N) (N (4 + N 4)) r) (N 0)
theorem nEx_eq {N : zLv} (hW : WB N) (S a : Nat) : nld N S a &&& (S ^^^ 4294967295) = nmask (fun r => nnx N S a r) (N 0) := by
  have hn := hW.1
  apply nat_ext; intro i
  rw [nmask_bit]
  by_cases hi : i < 32
  · rw [on_bit hi]
    cases q : nnx N S a i with
    | false => simp
    | true => simp [(nnx_ok hW S a i q).1]
  · rw [tb_big (on_lt hW S a) (by omega)]
    have : ¬ i < N 0 := by omega
    simp [this]
theorem m_exits {h : zm_H} {N : zLv} (c : CI h N) : ∃ g, sX5_exits [.ref 0] h = some (.inl (some (.int (nI (nEx N)))), g) ∧ CQ N h g := by
  have c0 := c
  obtain ⟨hk, hL, hF, hst, ho5, ho16⟩ := c
  obtain ⟨q0, r0, r1, r2, r3, r4, r5, r6, r7, r9, i0, i1, i2, o0, o1, o2, v5, v16, hh, v96, v107, sl0, sl1, sl2, fl0, tb, rw0⟩ := hk
  have hW := hF.1
  have hn := hW.1
  have y5 := v5.1
  have k10 := v5.2.2.2.2.2.2.2.2.2.2.2.2.2.2.2.2.2.2.2.2
  have hl := hF.last
  have w1 := q_walkSet v5 hL hW.2.2.1 hF.walk32
  have w2 := q_leads v5 hL hW hF.set31 hF.k31 hF.c31
  obtain ⟨g, hg⟩ : ∃ g, g = zrI h (L5 + 10) (nldF N (nset N) (zI h (L5 + 10)) (N 1)) := ⟨_, rfl⟩
  rw [← hg] at w2
  have cq : CQ N h g := by rw [hg]; exact c0.lead _
  have c2 := c0.go cq
  have w3 := q_lastRoom c2.1.2.2.2.2.2.2.2.2.2.2.2.2.2.2.2.2.1 c2.2.1 hW.2.2.1 hF.2.2.2.2.1
  have K := cq.1.K
  have P := cq.1.P
  have lr : zI g (L5 + 10) (N (4 + N 4)) = nI (nld N (nset N) (N (4 + N 4))) := by rw [hg, I_rIs]; exact if_pos (by omega)
  refine ⟨g, ?_, cq⟩
  refine zsem_eq (Nat.le_of_ble_eq_true rfl) (zTo_of gX5_exits_0 ?_)
  simp only [q0, r2, y5, w1, w2, K, P, w3, k10, nI_clamp (show N (4 + N 4) < 2 ^ 31 by omega), nI_lt0 (show N (4 + N 4) < 2 ^ 31 by omega), show ¬ 11 ≤ N (4 + N 4) by omega, lr, nI_not, nEx_eq hW, zmp_s, zlt_s, zcV_s, zcI_s, zcJ_s, zcA_s, zcD_s, zcF_s, zth_n, zth_t, zrt_s, zQ_l, zQ_r, false_or, or_false, true_or, or_true, false_and, and_false, not_false_eq_true, not_true_eq_false, and_self, true_and, and_true, if_true, if_false, ite_true, ite_false, zgd_t]
  rfl
/-- tours that begin with the walk and one room more -/
def nCb (N : zLv) (r : Nat) : Nat := ncn N (nset N) (N (4 + N 4)) r
theorem WF.here {N : zLv} (hF : WF N) : 0 < nWW N (2 ^ N 2) (N 2) (nset N) (N (4 + N 4)) := by
  have h1 := hF.reach (N 4 - 1) (by have := hF.2.2.2.2.1; omega)
  rw [show N 4 - 1 + 1 = N 4 by have := hF.2.2.2.2.1; omega] at h1
  have e2 : nwk N (N 4 - 1) = N (4 + N 4) := by
    unfold nwk
    rw [show 5 + (N 4 - 1) = 4 + N 4 by have := hF.2.2.2.2.1; omega]
  rwa [e2] at h1
theorem WF.nset_lt {N : zLv} (hF : WF N) : nset N < 2 ^ N 0 := hF.set_lt (Nat.le_refl (N 4))
theorem nCb_lt {N : zLv} (hF : WF N) (r : Nat) : nCb N r < 2 ^ 40 := by
  unfold nCb ncn
  split
  · rename_i q
    exact nTT_lt hF.1 (or_lt2 hF.nset_lt (nnx_ok hF.1 _ _ _ q).1) _
  · exact Nat.two_pow_pos 40
theorem m_completionsBy {h : zm_H} {N : zLv} {r : Nat} (c : CI h N) (hr : r < N 0) : ∃ g, sX5_completionsBy [.ref 0, .int (nI r)] h = some (.inl (some (.long (lN (nCb N r)))), g) ∧ CQ N h g := by
  have q0 := c.1.1
  have nr := m_needRoom c hr
  have hF := c.2.2.1
  have hW := hF.1
  have hn := hW.1
  have hp := pow_le hn
  obtain ⟨g1, s1, cq1⟩ := m_exits c
  have c1 := c.go cq1
  obtain ⟨g2, s2, cq2, tg⟩ := m_solved c1
  have c2 := c1.go cq2
  have exl : nEx N < 2 ^ N 0 := nmask_lt _ _
  have hb := q_has (s := nEx N) (k := r) (by omega) (by omega) g1
  have hq : (nEx N).testBit r = nnx N (nset N) (N (4 + N 4)) r := by
    unfold nEx; rw [nmask_bit]; simp [hr]
  have q01 := c1.1.1
  by_cases w : nnx N (nset N) (N (4 + N 4)) r = true
  · obtain ⟨hk, hL, hF2, hst, ho5, ho16⟩ := c2
    have q02 := hk.1
    have r2 := hk.2.2.2.1
    have v5 := hk.2.2.2.2.2.2.2.2.2.2.2.2.2.2.2.2.1
    have tb := hk.2.2.2.2.2.2.2.2.2.2.2.2.2.2.2.2.2.2.2.2.2.2.2.2.2.1
    have y5 := v5.1
    have y119 := tb.1
    obtain ⟨x1, x2⟩ := nnx_ok hW _ _ _ w
    have w1 := q_walkSet v5 hL hW.2.2.1 hF.walk32
    have sl := or_lt2 hF.nset_lt hr
    have bg := q_begun tb hW tg sl hr
    have e : nTB N (2 ^ N 2) (N 2) (nset N ||| 2 ^ r) r = nCb N r := by
      unfold nTB nCb ncn
      rw [if_pos (nWW_on hW hF.last hF.here w), if_pos w]
    refine ⟨g2, ?_, cq1.tr cq2⟩
    refine zsem_eq (Nat.le_of_ble_eq_true rfl) (zTo_of gX5_completionsBy_0 ?_)
    simp only [q0, nr, s1, hb, hq, w, zb_0, Bool.true_eq_false, q01, s2, q02, r2, y5, w1, y119, nx_shl1 (show r < 32 by omega), nx_or, bg, e, zmp_s, zlt_s, zcV_s, zcI_s, zcJ_s, zcA_s, zcD_s, zcF_s, zth_n, zth_t, zrt_s, zQ_l, zQ_r, false_or, or_false, true_or, or_true, false_and, and_false, not_false_eq_true, not_true_eq_false, and_self, true_and, and_true, if_true, if_false, ite_true, ite_false, zgd_t]
  · have w : nnx N (nset N) (N (4 + N 4)) r = false := by simpa using w
    have e : nCb N r = 0 := by unfold nCb ncn; rw [w]; rfl
    refine ⟨g1, ?_, cq1⟩
    refine zsem_eq (Nat.le_of_ble_eq_true rfl) (zTo_of gX5_completionsBy_0 ?_)
    simp only [q0, nr, s1, hb, hq, w, zb_0, e, zmp_s, zlt_s, zcV_s, zcI_s, zcJ_s, zcA_s, zcD_s, zcF_s, zth_n, zth_t, zrt_s, zQ_l, zQ_r, false_or, or_false, true_or, or_true, false_and, and_false, not_false_eq_true, not_true_eq_false, and_self, true_and, and_true, if_true, if_false, ite_true, ite_false, zgd_t]
    rfl
theorem m_completionsByX {h : zm_H} {N : zLv} {x : Int32} (c : CI h N) (hx : x < 0 ∨ nI (N 0) ≤ x) : sX5_completionsBy [.ref 0, .int x] h = some (.inr 2, h) := by
  have q0 := c.1.1
  refine zsem_eq (Nat.le_of_ble_eq_true rfl) (zTo_of gX5_completionsBy_0 ?_)
  simp only [q0, m_needRoomX c hx, zmp_s, zlt_s, zcV_s, zcI_s, zcJ_s, zcA_s, zcD_s, zcF_s, zth_n, zth_t, zrt_s, zQ_l, zQ_r, zgd_t]
theorem lgle0 {n : Nat} (h : n < 2 ^ 63) : (lg_cmp (lN n) (0 : Int64) ≤ 0) = (n = 0) := by
  apply propext
  rw [lg_cmp_le]
  show lN n ≤ lN 0 ↔ _
  rw [pk_lLE h (by omega)]; omega
theorem lgeq0 {n : Nat} (h : n < 2 ^ 63) : (lg_cmp (lN n) (0 : Int64) = 0) = (n = 0) := by
  rw [lg0]
  apply propext
  show lN n = lN 0 ↔ _
  rw [pk_lEQ h (by omega)]
def nGo (N : zLv) : Nat := nmask (fun r => decide (0 < nCb N r)) (N 0)
theorem m_good {h : zm_H} {N : zLv} (c : CI h N) : ∃ g, sX5_good [.ref 0] h = some (.inl (some (.int (nI (nGo N)))), g) ∧ CQ N h g := by
  have hF := c.2.2.1
  have hn := hF.1.1
  obtain ⟨R, hR⟩ : ∃ R : zm_O → Prop, R = (fun o => ∃ g, o = (.inl (some (.int (nI (nGo N)))), g) ∧ CQ N h g) := ⟨_, rfl⟩
  have key : ∀ d r g, r + d = N 0 → CQ N h g → zTo vX5_good rX5_good (4, [some (.ref 0), some (.int (nI (nmask (fun r => decide (0 < nCb N r)) r))), some (.int (nI r))], [], g) R := by
    intro d
    induction d with
    | zero =>
      intro r g hr cq
      have hr : r = N 0 := by omega
      have c1 := c.go cq
      have q0 := c1.1.1
      have r2 := c1.1.2.2.2.1
      have y5 := c1.1.2.2.2.2.2.2.2.2.2.2.2.2.2.2.2.2.1.1
      have l0 := c1.2.1.1
      refine zTo_of gX5_good_4 ?_
      simp only [q0, r2, y5, l0, hr, nI_le (Nat.le_refl _) (show N 0 < 2 ^ 31 by omega), zmp_s, zlt_s, zcV_s, zcI_s, zcJ_s, zcA_s, zcD_s, zcF_s, zth_n, zth_t, zrt_s, zQ_l, zQ_r, false_or, or_false, true_or, or_true, false_and, and_false, not_false_eq_true, not_true_eq_false, and_self, true_and, and_true, if_true, if_false, ite_true, ite_false, zgd_t]
      rw [hR]
      exact ⟨g, rfl, cq⟩
    | succ d ih =>
      intro r g hr cq
      have c1 := c.go cq
      have q0 := c1.1.1
      have r2 := c1.1.2.2.2.1
      have y5 := c1.1.2.2.2.2.2.2.2.2.2.2.2.2.2.2.2.2.1.1
      have l0 := c1.2.1.1
      obtain ⟨f1, f2, f3, f4⟩ := nI_for (show r < N 0 by omega) (by omega)
      obtain ⟨g2, s2, cq2⟩ := m_completionsBy c1 (show r < N 0 by omega)
      have cl := nCb_lt hF r
      refine zTo_of gX5_good_4 ?_
      simp only [q0, r2, y5, l0, f1, s2, lgle0 (show nCb N r < 2 ^ 63 by omega), f4, nx_shl1 (show r < 32 by omega), nx_or, zmp_s, zlt_s, zcV_s, zcI_s, zcJ_s, zcA_s, zcD_s, zcF_s, zth_n, zth_t, zrt_s, zQ_l, zQ_r, false_or, or_false, true_or, or_true, false_and, and_false, not_false_eq_true, not_true_eq_false, and_self, true_and, and_true, if_true, if_false, ite_true, ite_false, zgd_t]
      by_cases w : nCb N r = 0
      · simp only [w, false_or, or_false, true_or, or_true, false_and, and_false, not_false_eq_true, not_true_eq_false, and_self, true_and, and_true, if_true, if_false, ite_true, ite_false, zmp_s, zlt_s, zcV_s, zcI_s, zcJ_s, zcA_s, zcD_s, zcF_s, zth_n, zth_t, zrt_s, zQ_l, zQ_r]
        have := ih (r + 1) g2 (by omega) (cq.tr cq2)
        unfold nmask at this ⊢
        rw [zfo_s, if_neg (by simp [w])] at this
        exact this
      · simp only [w, false_or, or_false, true_or, or_true, false_and, and_false, not_false_eq_true, not_true_eq_false, and_self, true_and, and_true, if_true, if_false, ite_true, ite_false, zmp_s, zlt_s, zcV_s, zcI_s, zcJ_s, zcA_s, zcD_s, zcF_s, zth_n, zth_t, zrt_s, zQ_l, zQ_r]
        have := ih (r + 1) g2 (by omega) (cq.tr cq2)
        unfold nmask at this ⊢
        rw [zfo_s, if_pos (by simp; omega)] at this
        exact this
  have hsim : zW (sX5_good [.ref 0] h) R := zsem_to (Nat.le_of_ble_eq_true rfl) (zTo_of gX5_good_0 (key (N 0) 0 h (by omega) c.rf))
  rw [hR] at hsim
  obtain ⟨o, h1, g, rfl, h2⟩ := hsim
  exact ⟨g, h1, h2⟩
/-- the last of 0 .. n-1 with p -/
def nlst (p : Nat → Bool) : Nat → Option Nat
  | 0 => none
  | n + 1 => if p n then some n else nlst p n
def nWp (N : zLv) (k : Nat) : Bool := decide (0 < nTT N (nsk (nwk N) (k + 1)) (nwk N k))
def nWr (N : zLv) : Int32 := match nlst (nWp N) (N 4) with
  | some k => nI (N 4 - 1 - k)
  | none => -1
theorem m_wrong {h : zm_H} {N : zLv} (c : CI h N) : ∃ g, sX5_wrong [.ref 0] h = some (.inl (some (.int (nWr N))), g) ∧ CQ N h g := by
  obtain ⟨g, s1, cq, tg⟩ := m_solved c
  have c2 := c.go cq
  have q00 := c.1.1
  obtain ⟨hk, hL, hF, hst, ho5, ho16⟩ := c2
  obtain ⟨q0, r0, r1, r2, r3, r4, r5, r6, r7, r9, i0, i1, i2, o0, o1, o2, v5, v16, hh, v96, v107, sl0, sl1, sl2, fl0, tb, rw0⟩ := hk
  have hW := hF.1
  have hn := hW.1
  have hp := pow_le hn
  have y5 := v5.1
  have y119 := tb.1
  have l4 := hL.2.2.2.2.1
  have p12 := v5.2.2.2.2.2.2.2.2.2.1
  have k9 := v5.2.2.2.2.2.2.2.2.2.2.2.2.2.2.2.2.2.2.2.1
  have w1 := q_walkSet v5 hL hW.2.2.1 hF.walk32
  have h41 := hF.2.2.2.2.1
  have h411 := hW.2.2.1
  refine ⟨g, ?_, cq⟩
  have e1 : nI (N 4) - (1 : Int32) = nI (N 4 - 1) := pk_sub (b := 1) h41
  have key : ∀ k, k ≤ N 4 → nlst (nWp N) (N 4) = nlst (nWp N) k → zTo vX5_wrong rX5_wrong (13, [some (.ref 0), some (.ref 119), some (.int (nI (nsk (nwk N) k))), some (.int (nI k + (-1 : Int32))), none], [], g) (fun y => y = (.inl (some (.int (nWr N))), g)) := by
    intro k
    induction k with
    | zero =>
      intro _ e
      refine zTo_of gX5_wrong_13 ?_
      simp only [show (nI 0 + (-1 : Int32) < 0) = True by decide +kernel, zmp_s, zlt_s, zcV_s, zcI_s, zcJ_s, zcA_s, zcD_s, zcF_s, zth_n, zth_t, zrt_s, zQ_l, zQ_r, false_or, or_false, true_or, or_true, false_and, and_false, not_false_eq_true, not_true_eq_false, and_self, true_and, and_true, if_true, if_false, ite_true, ite_false]
      unfold nWr
      rw [e]; rfl
    | succ k ih =>
      intro hk e
      have e2 : nI (k + 1) + (-1 : Int32) = nI k := pk_m1 k
      have f2 := nI_clamp (show k < 2 ^ 31 by omega)
      have f3 := nI_lt0 (show k < 2 ^ 31 by omega)
      have f5 : ¬ 11 ≤ k := by omega
      have lw : zI g (L5 + 9) k = nI (nwk N k) := hL.2.2.2.2.2.2.2.2.2.2.2.2.2 k (by omega)
      have wl := hF.wk (show k < N 4 by omega)
      have sl := hF.set_lt (show k + 1 ≤ N 4 from hk)
      have bg := q_begun tb hW tg sl wl
      have tl := nTT_lt hW sl (nwk N k)
      have eB : nTB N (2 ^ N 2) (N 2) (nsk (nwk N) (k + 1)) (nwk N k) = nTT N (nsk (nwk N) (k + 1)) (nwk N k) := by
        unfold nTB; rw [if_pos (hF.reach k (by omega))]
      refine zTo_of gX5_wrong_13 ?_
      simp only [e2, f2, f3, f5, q0, r2, y5, l4, p12, k9, lw, y119, bg, eB, lgle0 (show nTT N (nsk (nwk N) (k + 1)) (nwk N k) < 2 ^ 63 by omega), e1, zmp_s, zlt_s, zcV_s, zcI_s, zcJ_s, zcA_s, zcD_s, zcF_s, zth_n, zth_t, zrt_s, zQ_l, zQ_r, false_or, or_false, true_or, or_true, false_and, and_false, not_false_eq_true, not_true_eq_false, and_self, true_and, and_true, if_true, if_false, ite_true, ite_false, zgd_t]
      by_cases w : nTT N (nsk (nwk N) (k + 1)) (nwk N k) = 0
      · simp only [w, false_or, or_false, true_or, or_true, false_and, and_false, not_false_eq_true, not_true_eq_false, and_self, true_and, and_true, if_true, if_false, ite_true, ite_false, zmp_s, zlt_s, zcV_s, zcI_s, zcJ_s, zcA_s, zcD_s, zcF_s, zth_n, zth_t, zrt_s, zQ_l, zQ_r, nx_shl1 (show nwk N k < 32 by omega), nI_not]
        have eS : nsk (nwk N) (k + 1) &&& (2 ^ nwk N k ^^^ 4294967295) = nsk (nwk N) k := by
          apply nat_ext; intro i
          by_cases hi : i < 32
          · rw [bit_not hi, Nat.testBit_two_pow]
            have e3 : nsk (nwk N) (k + 1) = nsk (nwk N) k ||| 2 ^ nwk N k := rfl
            rw [e3, tb_or]
            by_cases q : nwk N k = i
            · subst q
              have : (nsk (nwk N) k).testBit (nwk N k) = false := by
                rcases Nat.eq_zero_or_pos k with z | z
                · rw [z]; exact Nat.zero_testBit _
                · have x := hF.2.2.2.2.2.2.2.1 (k - 1) (by omega)
                  rw [show k - 1 + 1 = k by omega] at x
                  exact (nnx_ok hW _ _ _ x).2
              simp [this]
            · simp [q]
          · rw [tb_big (and_lt sl) (by omega), tb_big (hF.set_lt (show k ≤ N 4 by omega)) (by omega)]
        rw [eS]
        exact ih (by omega) (by rw [e, nlst, if_neg (by unfold nWp; simp [w])])
      · simp only [w, false_or, or_false, true_or, or_true, false_and, and_false, not_false_eq_true, not_true_eq_false, and_self, true_and, and_true, if_true, if_false, ite_true, ite_false, zmp_s, zlt_s, zcV_s, zcI_s, zcJ_s, zcA_s, zcD_s, zcF_s, zth_n, zth_t, zrt_s, zQ_l, zQ_r]
        have e3 : nlst (nWp N) (N 4) = some k := by rw [e, nlst, if_pos (by unfold nWp; simp; omega)]
        unfold nWr
        rw [e3]
        have e4 : nI (N 4 - 1) - nI k = nI (N 4 - 1 - k) := pk_sub (by omega)
        simp only [e4]
  refine zsem_eq (Nat.le_of_ble_eq_true rfl) (zTo_of gX5_wrong_0 ?_)
  have e5 : nI (N 4 - 1) = nI (N 4) + (-1 : Int32) := by
    have := pk_m1 (N 4 - 1)
    rw [show N 4 - 1 + 1 = N 4 by omega] at this
    exact this.symm
  simp only [q00, s1, q0, r2, y5, w1, l4, e1, e5, zmp_s, zlt_s, zcV_s, zcI_s, zcJ_s, zcA_s, zcD_s, zcF_s, zth_n, zth_t, zrt_s, zQ_l, zQ_r, zgd_t]
  rw [nset_nsk]
  exact key (N 4) (Nat.le_refl _) rfl
/-- the place of a tour with a rank -/
def nTp (N : zLv) (k p : Nat) : Nat := (nitr N (2 ^ N 2, N 2, k) p).2.1
theorem TBg.st {g : zm_H} {N : zLv} {t a b : Nat} (h : TBg g t N a b) : TBs g t N a b := h.1
/-- the row behind fillRow -/
theorem zq_row {h g : zm_H} {N : zLv} {f : Nat → Int32} (c : CI h N) (e : g = zrI h 124 f) : CQ N h g := by
  have fr1 : zFr (fun c => c = 124) h g := by rw [e]; exact zFr.rI rfl
  refine ⟨fr1.mono (fun c hc => by unfold scA; omega), by rw [fr1.I (by omega)], by rw [fr1.I (by omega)], ?_, lvO_fr fr1 (by rw [L16e]; omega) c.2.2.2.2.2⟩
  rcases c.2.2.2.1 with st | ⟨st, tg⟩
  · left; rw [fr1.I (by omega)]; exact st
  · right; exact ⟨by rw [fr1.I (by omega)]; exact st, TBg_off fr1 (fun i hi => by omega) tg⟩
theorem m_fillRow {h : zm_H} {N : zLv} {k : Nat} (c : CI h N) (hk8 : k < nTo N) : ∃ g, sX5_fillRow [.ref 0, .long (lN k)] h = some (.inl none, g) ∧ CQ N h g ∧ ∀ p, p < N 0 → zI g 124 p = nI (nTp N k p) := by
  have q00 := c.1.1
  have r900 := c.1.2.2.2.2.2.2.2.2.2.1
  have r20 := c.1.2.2.2.1
  have y50 := c.1.2.2.2.2.2.2.2.2.2.2.2.2.2.2.2.2.1.1
  have rw00 := c.1.2.2.2.2.2.2.2.2.2.2.2.2.2.2.2.2.2.2.2.2.2.2.2.2.2.2
  have l20 := c.2.1.2.2.1
  obtain ⟨h1, hh1⟩ : ∃ h1, h1 = zsI h 124 0 (nI (N 2)) := ⟨_, rfl⟩
  have cq1 : CQ N h h1 := zq_row c (by rw [hh1, sI_rI])
  have c1 := c.go cq1
  obtain ⟨g2, s2, cq2, tg, fr2, -, -⟩ := m_solvedX c1
  have c2 := c1.go cq2
  have K1 := cq1.1.K
  have P1 := cq1.1.P
  have c2' := c2
  obtain ⟨hk, hL, hF, hst, ho5, ho16⟩ := c2
  obtain ⟨q0, r0, r1, r2, r3, r4, r5, r6, r7, r9, i0, i1, i2, o0, o1, o2, v5, v16, hh, v96, v107, sl0, sl1, sl2, fl0, tb, rw0⟩ := hk
  have hW := hF.1
  have hn := hW.1
  have hn1 := hF.2.1
  have hs := hF.2.2.1
  have y119 := tb.1
  have row : zI g2 124 0 = nI (N 2) := by rw [fr2.I (by unfold svA; omega), hh1, I_sIs, zput_self]
  obtain ⟨f, hf⟩ : ∃ f : Nat → Nat, f = fun _ => N 2 := ⟨_, rfl⟩
  have e1 : nsk f 1 = 2 ^ N 2 := by
    show 0 ||| 2 ^ f 0 = _
    rw [Nat.zero_or, hf]
  have e0 : f 0 = N 2 := by rw [hf]
  have fl := q_follow (h := g2) (t := 119) (q := 124) (len := 1) (S0 := 2 ^ N 2) (a0 := N 2) (rank := k) (N := N) (f := f) tb hW tg (by omega) rw0 ⟨Nat.le_refl _, hn1⟩ (fun i hi => by
      have : i = 0 := by omega
      subst this; rw [e0]; exact ⟨row, hs⟩) (by
      show nvs N (nsk f 1, f 0, k)
      rw [e1, e0]
      exact ⟨hF.bit.1, hs, hF.bit.2, hk8⟩) (by
      show 0 < nWW N (2 ^ N 2) (N 2) (nsk f 1) (f 0)
      rw [e1, e0]; unfold nWW; rw [nW_start, if_pos rfl]; omega) (by
      rw [e1]
      have := npc_or (S := 0) (N 0) hs (Nat.zero_testBit _)
      rw [Nat.zero_or] at this
      rw [this]
      have : npc 0 (N 0) = 0 := zsu_0 _ (fun i _ => by rw [Nat.zero_testBit]; rfl)
      rw [this])
  rw [show (1 : Nat) - 1 = 0 from rfl, e1, e0] at fl
  have fl' : sX4_follow [.ref 119, .ref 124, .int (1 : Int32), .long (lN k)] g2 = some (.inl none, zrI g2 124 (nfw N (2 ^ N 2, N 2, k) 1 (zI g2 124) (N 0))) := fl
  refine ⟨zrI g2 124 (nfw N (2 ^ N 2, N 2, k) 1 (zI g2 124) (N 0)), ?_, (cq1.tr cq2).tr (zq_row c2' rfl), fun p hp => ?_⟩
  · refine zsem_eq (Nat.le_of_ble_eq_true rfl) (zTo_of gX5_fillRow_0 ?_)
    simp only [q00, r900, r20, y50, rw00, l20, c_0, p_0, show ¬ 11 ≤ 0 by omega, ← hh1, K1, s2, q0, r9, y119, fl', zmp_s, zlt_s, zcV_s, zcI_s, zcJ_s, zcA_s, zcD_s, zcF_s, zth_n, zth_t, zrt_s, zQ_l, zQ_r, false_or, or_false, true_or, or_true, false_and, and_false, not_false_eq_true, not_true_eq_false, and_self, true_and, and_true, if_true, if_false, ite_true, ite_false, zgd_t]
  · rw [I_rIs]
    unfold nfw nTp
    by_cases q : 1 ≤ p
    · rw [if_pos ⟨q, hp⟩, show p - 1 + 1 = p by omega]
    · have : p = 0 := by omega
      subst this
      rw [if_neg (by omega)]
      exact row
theorem nCo_lt {N : zLv} (hF : WF N) : nCo N < 2 ^ 40 := nTT_lt hF.1 hF.nset_lt _
def nRk (N : zLv) : Int64 := if N 4 < N 0 ∨ nCo N = 0 then -1 else lN (nah N (nwk N) (N 4))
theorem m_rank {h : zm_H} {N : zLv} (c : CI h N) : ∃ g, sX5_rank [.ref 0] h = some (.inl (some (.long (nRk N))), g) ∧ CQ N h g := by
  have c0 := c
  have hF := c.2.2.1
  have hW := hF.1
  have hn := hW.1
  have q00 := c.1.1
  have r20 := c.1.2.2.2.1
  have y50 := c.1.2.2.2.2.2.2.2.2.2.2.2.2.2.2.2.2.1.1
  have l40 := c.2.1.2.2.2.2.1
  have l00 := c.2.1.1
  have h44 := hF.2.2.2.2.2.1
  unfold nRk
  have lt0 := nI_ltI (a := N 4) (b := N 0) (by omega) (by omega)
  by_cases w : N 4 < N 0
  · refine ⟨h, ?_, c0.rf⟩
    rw [if_pos (Or.inl w)]
    refine zsem_eq (Nat.le_of_ble_eq_true rfl) (zTo_of gX5_rank_0 ?_)
    simp only [q00, r20, y50, l40, l00, lt0, w, zmp_s, zlt_s, zcV_s, zcI_s, zcJ_s, zcA_s, zcD_s, zcF_s, zth_n, zth_t, zrt_s, zQ_l, zQ_r, false_or, or_false, true_or, or_true, false_and, and_false, not_false_eq_true, not_true_eq_false, and_self, true_and, and_true, if_true, if_false, ite_true, ite_false, zgd_t]
  · obtain ⟨g1, s1, cq1⟩ := m_completions c
    have c1 := c.go cq1
    have q01 := c1.1.1
    have cl := nCo_lt hF
    by_cases z : nCo N = 0
    · refine ⟨g1, ?_, cq1⟩
      rw [if_pos (Or.inr z)]
      have hz : (lg_cmp (lN (nCo N)) (0 : Int64) = 0) = True := eq_true ((lgeq0 (show nCo N < 2 ^ 63 by omega)).mpr z)
      refine zsem_eq (Nat.le_of_ble_eq_true rfl) (zTo_of gX5_rank_0 ?_)
      simp only [q00, r20, y50, l40, l00, lt0, w, s1, hz, zmp_s, zlt_s, zcV_s, zcI_s, zcJ_s, zcA_s, zcD_s, zcF_s, zth_n, zth_t, zrt_s, zQ_l, zQ_r, false_or, or_false, true_or, or_true, false_and, and_false, not_false_eq_true, not_true_eq_false, and_self, true_and, and_true, if_true, if_false, ite_true, ite_false, zgd_t]
    · obtain ⟨g2, s2, cq2, tg⟩ := m_solved c1
      have c2 := c1.go cq2
      obtain ⟨hk, hL, -, hst, ho5, ho16⟩ := c2
      obtain ⟨q0, r0, r1, r2, r3, r4, r5, r6, r7, r9, i0, i1, i2, o0, o1, o2, v5, v16, hh, v96, v107, sl0, sl1, sl2, fl0, tb, rw0⟩ := hk
      have y5 := v5.1
      have y119 := tb.1
      have p12 := v5.2.2.2.2.2.2.2.2.2.1
      have k9 := v5.2.2.2.2.2.2.2.2.2.2.2.2.2.2.2.2.2.2.2.1
      have l4 := hL.2.2.2.2.1
      have ta := q_toursAhead (h := g2) (t := 119) (q := L5 + 9) (len := N 4) (f := nwk N) tb hW tg k9 ⟨hF.2.2.2.2.1, h44⟩ (fun i hi => ⟨hL.2.2.2.2.2.2.2.2.2.2.2.2.2 i hi, hF.wk hi⟩) (fun k hk => hF.reach k (by omega))
      refine ⟨g2, ?_, cq1.tr cq2⟩
      rw [if_neg (fun e => e.elim w z)]
      refine zsem_eq (Nat.le_of_ble_eq_true rfl) (zTo_of gX5_rank_0 ?_)
      simp only [q00, r20, y50, l40, l00, lt0, w, s1, lgeq0 (show nCo N < 2 ^ 63 by omega), z, q01, s2, q0, r2, y5, p12, l4, y119, ta, zmp_s, zlt_s, zcV_s, zcI_s, zcJ_s, zcA_s, zcD_s, zcF_s, zth_n, zth_t, zrt_s, zQ_l, zQ_r, false_or, or_false, true_or, or_true, false_and, and_false, not_false_eq_true, not_true_eq_false, and_self, true_and, and_true, if_true, if_false, ite_true, ite_false, zgd_t]
def nEn (N : zLv) : Nat := nmask (fun r => decide (0 < nWW N (2 ^ N 2) (N 2) (2 ^ N 0 - 1) r) && nme N r) (N 0)
theorem m_endings {h : zm_H} {N : zLv} (c : CI h N) : ∃ g, sX5_endings [.ref 0] h = some (.inl (some (.int (nI (nEn N)))), g) ∧ CQ N h g ∧ TBg g 119 N (2 ^ N 2) (N 2) ∧ zI g 0 8 = 0 := by
  have q00 := c.1.1
  obtain ⟨g, s1, cq, tg, fr, z8, -⟩ := m_solvedX c
  have c2 := c.go cq
  have tb := c2.1.2.2.2.2.2.2.2.2.2.2.2.2.2.2.2.2.2.2.2.2.2.2.2.2.2.1
  refine ⟨g, ?_, cq, tg, z8⟩
  refine zsem_eq (Nat.le_of_ble_eq_true rfl) (zTo_of gX5_endings_0 ?_)
  simp only [q00, s1, tb.1, tg.1.2.2.2.2, zmp_s, zlt_s, zcV_s, zcI_s, zcJ_s, zcA_s, zcD_s, zcF_s, zth_n, zth_t, zrt_s, zQ_l, zQ_r, false_or, or_false, true_or, or_true, false_and, and_false, not_false_eq_true, not_true_eq_false, and_self, true_and, and_true, if_true, if_false, ite_true, ite_false, zgd_t]
  rfl
/-- what would be: a level's tours from a room -/
theorem flow_full {N : zLv} (hW : WB N) {S0 a0 : Nat} (hS : S0 < 2 ^ N 0) (ha : a0 < N 0) : zsu (fun r => if nme N r then nWW N S0 a0 (2 ^ N 0 - 1) r else 0) (N 0) = nTT N S0 a0 := by
  have one := Nat.one_le_two_pow (n := N 0)
  have f := flow (ba := nba N) (S0 := S0) (a0 := a0) (nnx_ok hW) hS ha
  rw [zsu_one (2 ^ N 0) (2 ^ N 0 - 1) (by omega) (fun S hS2 hne => zsu_0 _ (fun a _ => by unfold nba; rw [if_neg (fun e => hne e.1), Nat.mul_zero]))] at f
  unfold nTT
  rw [← f]
  refine zsu_congr _ (fun r hr => ?_)
  unfold nba nWW
  by_cases q : nme N r = true
  · rw [if_pos q, if_pos ⟨rfl, q⟩, Nat.mul_one]
  · rw [if_neg q, if_neg (fun e => q e.2), Nat.mul_zero]
theorem m_countTours {h : zm_H} {a s : Nat} {M : zLv} (hk : ktS h) (hS : lvS h a) (ha : a + 10 < 119) (ha0 : 0 < a) (hL : KL h a M) (hW : WB M) (h3 : M 3 ≤ 11) (hs : s < M 0) : ∃ g, sX5_countTours [.ref 0, .ref a, .int (nI s)] h = some (.inl (some (.long (lN (nTT M (2 ^ s) s)))), g) ∧ zFr (fun c => c = 0 ∨ c = a + 10 ∨ (119 ≤ c ∧ c ≤ 123)) h g ∧ zI g 0 8 = 1 ∧ (∀ j, j ≠ 8 → zI g 0 j = zI h 0 j) := by
  have hn := hW.1
  have hb : 2 ^ s < 2 ^ M 0 := Nat.pow_lt_pow_right (by omega) hs
  obtain ⟨h1, hh1⟩ : ∃ h1, h1 = zsI h 0 8 1 := ⟨_, rfl⟩
  have fr1 : zFr (fun c => c = 0) h h1 := by rw [hh1]; exact zFr.sI rfl
  have K1 := fr1.K
  have P1 := fr1.P
  obtain ⟨q0, r0, r1, r2, r3, r4, r5, r6, r7, r9, i0, i1, i2, o0, o1, o2, v5, v16, hh, v96, v107, sl0, sl1, sl2, fl0, tb, rw0⟩ := hk
  have y119 := tb.1
  obtain ⟨g, s1, fr, b1⟩ := q_spread (tbS_kp K1 P1 tb) (lvS_fr fr1 hS) (KL_fr fr1 (fun i hi => by omega) hL) hW h3 (by omega) hb hs (one_bit s)
  have K := fr.K.trans K1
  have P := fr.P.trans P1
  have g0 : zI g 0 = zI h1 0 := fr.I (fun e => by unfold tAl at e; omega)
  have e1 : (1 : Int32) <<< (nI s &&& 31) = nI (2 ^ s) := nx_shl1 (by omega)
  have fw := q_fullWalks (tbS_kp K P tb) hW b1
  rw [flow_full hW hb hs] at fw
  refine ⟨g, ?_, ?_, ?_, ?_⟩
  · refine zsem_eq (Nat.le_of_ble_eq_true rfl) (zTo_of gX5_countTours_0 ?_)
    simp only [q0, ← hh1, K1, P1, r7, y119, e1, s1, K, P, fw, zmp_s, zlt_s, zcV_s, zcI_s, zcJ_s, zcA_s, zcD_s, zcF_s, zth_n, zth_t, zrt_s, zQ_l, zQ_r, false_or, or_false, true_or, or_true, false_and, and_false, not_false_eq_true, not_true_eq_false, and_self, true_and, and_true, if_true, if_false, ite_true, ite_false, zgd_t]
  · exact (fr1.mono (fun c hc => Or.inl hc)).tr (fr.mono (fun c hc => by unfold tAl at hc; omega))
  · rw [g0, hh1, I_sIs, zput_self]
  · intro j hj
    rw [g0, hh1, I_sIs, zput_ne _ _ hj]
theorem CI.count {h g : zm_H} {N : zLv} (c : CI h N) {a : Nat} (ha : a = L5 ∨ a = L16) (fr : zFr (fun c => c = 0 ∨ c = a + 10 ∨ (119 ≤ c ∧ c ≤ 123)) h g) (h8 : zI g 0 8 = 1) (hj : ∀ j, j ≠ 8 → zI g 0 j = zI h 0 j) : CQ N h g :=
  ⟨fr.mono (fun c hc => by unfold scA; rcases ha with e | e <;> rw [e] at hc <;> (first | rw [L5e] at hc | rw [L16e] at hc) <;> omega), hj 10 (by omega), hj 11 (by omega), Or.inl h8, lvO_fr fr (by rcases ha with e | e <;> rw [e] <;> (first | rw [L5e] | skip) <;> rw [L16e] <;> omega) c.2.2.2.2.2⟩
theorem m_toursFrom {h : zm_H} {N : zLv} {r : Nat} (c : CI h N) (hr : r < N 0) : ∃ g, sX5_toursFrom [.ref 0, .int (nI r)] h = some (.inl (some (.long (lN (nTT N (2 ^ r) r)))), g) ∧ CQ N h g := by
  have q00 := c.1.1
  have r20 := c.1.2.2.2.1
  have v5 := c.1.2.2.2.2.2.2.2.2.2.2.2.2.2.2.2.2.1
  have hF := c.2.2.1
  obtain ⟨g, s1, fr, h8, hj⟩ := m_countTours c.1 v5 (by rw [L5e]; omega) (by rw [L5e]; omega) c.2.1 hF.1 (by have := hF.1.1; have := hF.2.2.2.1; omega) hr
  refine ⟨g, ?_, c.count (Or.inl rfl) fr h8 hj⟩
  refine zsem_eq (Nat.le_of_ble_eq_true rfl) (zTo_of gX5_toursFrom_0 ?_)
  simp only [q00, m_needRoom c hr, r20, s1, zmp_s, zlt_s, zcV_s, zcI_s, zcJ_s, zcA_s, zcD_s, zcF_s, zth_n, zth_t, zrt_s, zQ_l, zQ_r, false_or, or_false, true_or, or_true, false_and, and_false, not_false_eq_true, not_true_eq_false, and_self, true_and, and_true, if_true, if_false, ite_true, ite_false, zgd_t]
theorem m_toursFromX {h : zm_H} {N : zLv} {x : Int32} (c : CI h N) (hx : x < 0 ∨ nI (N 0) ≤ x) : sX5_toursFrom [.ref 0, .int x] h = some (.inr 2, h) := by
  have q0 := c.1.1
  refine zsem_eq (Nat.le_of_ble_eq_true rfl) (zTo_of gX5_toursFrom_0 ?_)
  simp only [q0, m_needRoomX c hx, zmp_s, zlt_s, zcV_s, zcI_s, zcJ_s, zcA_s, zcD_s, zcF_s, zth_n, zth_t, zrt_s, zQ_l, zQ_r, zgd_t]
def nSt (N : zLv) : Nat := nmask (fun r => decide (0 < nTT N (2 ^ r) r)) (N 0)
theorem m_starts {h : zm_H} {N : zLv} (c : CI h N) : ∃ g, sX5_starts [.ref 0] h = some (.inl (some (.int (nI (nSt N)))), g) ∧ CQ N h g := by
  have hF := c.2.2.1
  have hn := hF.1.1
  obtain ⟨R, hR⟩ : ∃ R : zm_O → Prop, R = (fun o => ∃ g, o = (.inl (some (.int (nI (nSt N)))), g) ∧ CQ N h g) := ⟨_, rfl⟩
  have key : ∀ d r g, r + d = N 0 → CQ N h g → zTo vX5_starts rX5_starts (4, [some (.ref 0), some (.int (nI (nmask (fun r => decide (0 < nTT N (2 ^ r) r)) r))), some (.int (nI r))], [], g) R := by
    intro d
    induction d with
    | zero =>
      intro r g hr cq
      have hr : r = N 0 := by omega
      have c1 := c.go cq
      have q0 := c1.1.1
      have r2 := c1.1.2.2.2.1
      have y5 := c1.1.2.2.2.2.2.2.2.2.2.2.2.2.2.2.2.2.1.1
      have l0 := c1.2.1.1
      refine zTo_of gX5_starts_4 ?_
      simp only [q0, r2, y5, l0, hr, nI_le (Nat.le_refl _) (show N 0 < 2 ^ 31 by omega), zmp_s, zlt_s, zcV_s, zcI_s, zcJ_s, zcA_s, zcD_s, zcF_s, zth_n, zth_t, zrt_s, zQ_l, zQ_r, false_or, or_false, true_or, or_true, false_and, and_false, not_false_eq_true, not_true_eq_false, and_self, true_and, and_true, if_true, if_false, ite_true, ite_false, zgd_t]
      rw [hR]
      exact ⟨g, rfl, cq⟩
    | succ d ih =>
      intro r g hr cq
      have c1 := c.go cq
      have q0 := c1.1.1
      have r2 := c1.1.2.2.2.1
      have y5 := c1.1.2.2.2.2.2.2.2.2.2.2.2.2.2.2.2.2.1.1
      have l0 := c1.2.1.1
      obtain ⟨f1, f2, f3, f4⟩ := nI_for (show r < N 0 by omega) (by omega)
      obtain ⟨g2, s2, cq2⟩ := m_toursFrom c1 (show r < N 0 by omega)
      have cl := nTT_lt hF.1 (S := 2 ^ r) (Nat.pow_lt_pow_right (by omega) (show r < N 0 by omega)) r
      refine zTo_of gX5_starts_4 ?_
      simp only [q0, r2, y5, l0, f1, s2, lgle0 (show nTT N (2 ^ r) r < 2 ^ 63 by omega), f4, nx_shl1 (show r < 32 by omega), nx_or, zmp_s, zlt_s, zcV_s, zcI_s, zcJ_s, zcA_s, zcD_s, zcF_s, zth_n, zth_t, zrt_s, zQ_l, zQ_r, false_or, or_false, true_or, or_true, false_and, and_false, not_false_eq_true, not_true_eq_false, and_self, true_and, and_true, if_true, if_false, ite_true, ite_false, zgd_t]
      by_cases w : nTT N (2 ^ r) r = 0
      · simp only [w, false_or, or_false, true_or, or_true, false_and, and_false, not_false_eq_true, not_true_eq_false, and_self, true_and, and_true, if_true, if_false, ite_true, ite_false, zmp_s, zlt_s, zcV_s, zcI_s, zcJ_s, zcA_s, zcD_s, zcF_s, zth_n, zth_t, zrt_s, zQ_l, zQ_r]
        have := ih (r + 1) g2 (by omega) (cq.tr cq2)
        unfold nmask at this ⊢
        rw [zfo_s, if_neg (by simp [w])] at this
        exact this
      · simp only [w, false_or, or_false, true_or, or_true, false_and, and_false, not_false_eq_true, not_true_eq_false, and_self, true_and, and_true, if_true, if_false, ite_true, ite_false, zmp_s, zlt_s, zcV_s, zcI_s, zcJ_s, zcA_s, zcD_s, zcF_s, zth_n, zth_t, zrt_s, zQ_l, zQ_r]
        have := ih (r + 1) g2 (by omega) (cq.tr cq2)
        unfold nmask at this ⊢
        rw [zfo_s, if_pos (by simp; omega)] at this
        exact this
  have hsim : zW (sX5_starts [.ref 0] h) R := zsem_to (Nat.le_of_ble_eq_true rfl) (zTo_of gX5_starts_0 (key (N 0) 0 h (by omega) c.rf))
  rw [hR] at hsim
  obtain ⟨o, h1, g, rfl, h2⟩ := hsim
  exact ⟨g, h1, h2⟩
def nTt (N : zLv) (r : Nat) : Nat := nWW N (2 ^ N 2) (N 2) (2 ^ N 0 - 1) r
theorem m_toursTo {h : zm_H} {N : zLv} {r : Nat} (c : CI h N) (hr : r < N 0) : ∃ g, sX5_toursTo [.ref 0, .int (nI r)] h = some (.inl (some (.long (lN (nTt N r)))), g) ∧ CQ N h g := by
  have q00 := c.1.1
  have nr := m_needRoom c hr
  obtain ⟨g, s1, cq, tg⟩ := m_solved c
  have c2 := c.go cq
  obtain ⟨hk, hL, hF, hst, ho5, ho16⟩ := c2
  obtain ⟨q0, r0, r1, r2, r3, r4, r5, r6, r7, r9, i0, i1, i2, o0, o1, o2, v5, v16, hh, v96, v107, sl0, sl1, sl2, fl0, tb, rw0⟩ := hk
  have hW := hF.1
  have y5 := v5.1
  have y119 := tb.1
  have one := Nat.one_le_two_pow (n := N 0)
  refine ⟨g, ?_, cq⟩
  refine zsem_eq (Nat.le_of_ble_eq_true rfl) (zTo_of gX5_toursTo_0 ?_)
  simp only [q00, nr, s1, q0, r2, y5, q_everyRoom v5 hL hW.1, y119, q_walksTo tb hW tg.1 (show 2 ^ N 0 - 1 < 2 ^ N 0 by omega) hr, zmp_s, zlt_s, zcV_s, zcI_s, zcJ_s, zcA_s, zcD_s, zcF_s, zth_n, zth_t, zrt_s, zQ_l, zQ_r, false_or, or_false, true_or, or_true, false_and, and_false, not_false_eq_true, not_true_eq_false, and_self, true_and, and_true, if_true, if_false, ite_true, ite_false, zgd_t]
  rfl
theorem m_toursToX {h : zm_H} {N : zLv} {x : Int32} (c : CI h N) (hx : x < 0 ∨ nI (N 0) ≤ x) : sX5_toursTo [.ref 0, .int x] h = some (.inr 2, h) := by
  have q0 := c.1.1
  refine zsem_eq (Nat.le_of_ble_eq_true rfl) (zTo_of gX5_toursTo_0 ?_)
  simp only [q0, m_needRoomX c hx, zmp_s, zlt_s, zcV_s, zcI_s, zcJ_s, zcA_s, zcD_s, zcF_s, zth_n, zth_t, zrt_s, zQ_l, zQ_r, zgd_t]
end ZC3

