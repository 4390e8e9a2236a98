/-! THE CLASS: coins, rounds, shares. -/
section ZC7
theorem zfo_coin {N : zLv} {S r : Nat} (hb : S.testBit r = true) : ∀ n, r < n → N (17 + 3 * r) ≤ zfo (fun r acc => if S.testBit r then acc + N (17 + 3 * r) else acc) 0 n := by
  intro n
  induction n with
  | zero => intro h; omega
  | succ n ih =>
    intro h
    rw [zfo_s]
    by_cases e : r = n
    · subst e
      rw [if_pos hb]; omega
    · have := ih (by omega)
      split <;> omega
theorem coin_le {N : zLv} {S r : Nat} (hr : r < N 0) (hb : S.testBit r = true) : N (17 + 3 * r) ≤ ncoins N S := zfo_coin hb (N 0) hr
theorem all_bit {n r : Nat} (hr : r < n) : (2 ^ n - 1).testBit r = true := by
  rw [Nat.testBit_two_pow_sub_one]; simp [hr]
/-- least coins, and one; none is 0 -/
def nLc (N : zLv) (n : Nat) : Nat := zfo (fun r acc => if (nEn N).testBit r = true ∧ (acc = 0 ∨ ncoins N (2 ^ N 0 - 1) - N (17 + 3 * r) + 1 < acc) then ncoins N (2 ^ N 0 - 1) - N (17 + 3 * r) + 1 else acc) 0 n
theorem nLc_lt {N : zLv} (hW : WB N) (n : Nat) : nLc N n ≤ 1090 := by
  refine zfo_ind (fun x => x ≤ 1090) (by omega) n (fun i x hi hx => ?_)
  have := ncoins_le hW (2 ^ N 0 - 1)
  show (if (nEn N).testBit i = true ∧ (x = 0 ∨ ncoins N (2 ^ N 0 - 1) - N (17 + 3 * i) + 1 < x) then ncoins N (2 ^ N 0 - 1) - N (17 + 3 * i) + 1 else x) ≤ 1090
  by_cases w : (nEn N).testBit i = true ∧ (x = 0 ∨ ncoins N (2 ^ N 0 - 1) - N (17 + 3 * i) + 1 < x)
  · rw [if_pos w]; exact Nat.succ_le_succ (Nat.le_trans (Nat.sub_le _ _) this)
  · rw [if_neg w]; exact hx
theorem nLc_0 (N : zLv) : nLc N 0 = 0 := rfl
theorem nLc_s (N : zLv) (k : Nat) : nLc N (k + 1) = if (nEn N).testBit k = true ∧ (nLc N k = 0 ∨ ncoins N (2 ^ N 0 - 1) - N (17 + 3 * k) + 1 < nLc N k) then ncoins N (2 ^ N 0 - 1) - N (17 + 3 * k) + 1 else nLc N k := by
  unfold nLc
  rw [zfo_s]
theorem eI_m1 {a : Nat} (h : a < 2 ^ 31) : (eI a = -1) = (a = 0) := by
  cases a with
  | zero => rw [eI_0]; simp
  | succ a =>
    rw [eI_s]
    refine propext ⟨fun e => ?_, fun e => by omega⟩
    have := nI_pos (n := a) (by omega)
    rw [e] at this
    exact absurd (by decide) this
theorem m_leastCoins {h : zm_H} {N : zLv} (c : CI h N) : ∃ g, sX5_leastCoins [.ref 0] h = some (.inl (some (.int (eI (nLc N (N 0))))), g) ∧ CQ N h g := by
  have q00 := c.1.1
  obtain ⟨g, s1, cq, -, -⟩ := m_endings c
  have c2 := c.go cq
  obtain ⟨hk, hL, hF, hst, ho5, ho16⟩ := c2
  obtain ⟨q0, r0, r1, r2, r3, r4, r5, r6, r7, r9, i0, i1, i2, o0, o1, o2, v5, v16, hh, v96, v107, sl0, sl1, sl2, fl0, tb, rw0⟩ := hk
  have hW := hF.1
  have hn := hW.1
  have hp := pow_le hn
  have one := Nat.one_le_two_pow (n := N 0)
  have hc := ncoins_le hW (2 ^ N 0 - 1)
  have hE : nEn N < 2 ^ N 0 := nmask_lt _ _
  have hS := v5
  obtain ⟨k0, p1, p2, p3, p5, p6, p7, p8, p9, p12, p14, k1, k2, k3, k4, k5, k6, k7, k8, k9, k10⟩ := hS
  have l0 := hL.1
  have lc := hL.2.2.2.2.2.2.2.1
  refine ⟨g, ?_, cq⟩
  refine zsem_eq (Nat.le_of_ble_eq_true rfl) (zTo_of gX5_leastCoins_0 ?_)
  simp only [q00, s1, q0, r2, k0, q_everyRoom v5 hL hW.1, q_coinsIn v5 hL hW.1 (show 2 ^ N 0 - 1 < 2 ^ 31 by omega), zmp_s, zlt_s, zcV_s, zcI_s, zcJ_s, zcA_s, zcD_s, zcF_s, zth_n, zth_t, zrt_s, zQ_l, zQ_r, false_or, or_false, true_or, or_true, false_and, and_false, not_false_eq_true, not_true_eq_false, and_self, true_and, and_true, if_true, if_false, ite_true, ite_false, zgd_t]
  rw [show (-1 : Int32) = eI (nLc N 0) by rw [nLc_0, eI_0]]
  refine zTo_for (f := fun k => (14, [some (.ref 0), some (.int (nI (nEn N))), some (.int (nI (ncoins N (2 ^ N 0 - 1)))), some (.int (eI (nLc N k))), some (.int (nI k)), none], [], g)) (N 0) 0 (Nat.zero_le _) (fun k _ hk => ?_) (zTo_of gX5_leastCoins_14 ?_)
  · obtain ⟨f1, f2, f3, f4⟩ := nI_for hk (show N 0 < 2 ^ 31 by omega)
    have cl := coin_le (N := N) hk (all_bit hk)
    have nl := nLc_lt hW k
    have st := nLc_s N k
    have tf : (true = false) = False := eq_false Bool.noConfusion
    refine Eq.trans (gX5_leastCoins_14) ?_
    simp only [q0, r2, k0, p3, k3, l0, f1, f2, f3, f4, show ¬ 11 ≤ k by omega, lc k hk, q_has (show nEn N < 2 ^ 31 by omega) (show k < 32 by omega), zb_0, pk_sub cl, eI_m1 (show nLc N k < 2 ^ 31 by omega), zmp_s, zlt_s, zcV_s, zcI_s, zcJ_s, zcA_s, zcD_s, zcF_s, zth_n, zth_t, zrt_s, zQ_l, zQ_r, false_or, or_false, true_or, or_true, false_and, and_false, not_false_eq_true, not_true_eq_false, and_self, true_and, and_true, if_true, if_false, ite_true, ite_false, zgd_t]
    cases w : (nEn N).testBit k with
    | false =>
      have e : nLc N (k + 1) = nLc N k := by rw [st, if_neg (fun q => by rw [w] at q; exact absurd q.1 (by decide))]
      rw [e]
      simp only [false_or, or_false, true_or, or_true, false_and, and_false, not_false_eq_true, not_true_eq_false, and_self, true_and, and_true, if_true, if_false, ite_true, ite_false, zmp_s, zlt_s, zcV_s, zcI_s, zcJ_s, zcA_s, zcD_s, zcF_s, zth_n, zth_t, zrt_s, zQ_l, zQ_r]
    | true =>
      by_cases z : nLc N k = 0
      · have e : nLc N (k + 1) = ncoins N (2 ^ N 0 - 1) - N (17 + 3 * k) + 1 := by rw [st, if_pos ⟨w, Or.inl z⟩]
        rw [e, eI_s]
        simp only [z, tf, false_or, or_false, true_or, or_true, false_and, and_false, not_false_eq_true, not_true_eq_false, and_self, true_and, and_true, if_true, if_false, ite_true, ite_false, zmp_s, zlt_s, zcV_s, zcI_s, zcJ_s, zcA_s, zcD_s, zcF_s, zth_n, zth_t, zrt_s, zQ_l, zQ_r]
      · have e1 : eI (nLc N k) = nI (nLc N k - 1) := by
          have := eI_s (nLc N k - 1)
          rw [show nLc N k - 1 + 1 = nLc N k by omega] at this
          exact this
        by_cases z2 : ncoins N (2 ^ N 0 - 1) - N (17 + 3 * k) + 1 < nLc N k
        · have e2 : (eI (nLc N k) ≤ nI (ncoins N (2 ^ N 0 - 1) - N (17 + 3 * k))) = False := by
            rw [e1, nI_leI (by omega) (by omega)]; exact eq_false (by omega)
          have e : nLc N (k + 1) = ncoins N (2 ^ N 0 - 1) - N (17 + 3 * k) + 1 := by rw [st, if_pos ⟨w, Or.inr z2⟩]
          rw [e, eI_s]
          simp only [z, e2, tf, false_or, or_false, true_or, or_true, false_and, and_false, not_false_eq_true, not_true_eq_false, and_self, true_and, and_true, if_true, if_false, ite_true, ite_false, zmp_s, zlt_s, zcV_s, zcI_s, zcJ_s, zcA_s, zcD_s, zcF_s, zth_n, zth_t, zrt_s, zQ_l, zQ_r]
        · have e2 : (eI (nLc N k) ≤ nI (ncoins N (2 ^ N 0 - 1) - N (17 + 3 * k))) = True := by
            rw [e1, nI_leI (by omega) (by omega)]; exact eq_true (by omega)
          have e : nLc N (k + 1) = nLc N k := by rw [st, if_neg (fun q => q.2.elim z z2)]
          rw [e]
          simp only [z, e2, tf, false_or, or_false, true_or, or_true, false_and, and_false, not_false_eq_true, not_true_eq_false, and_self, true_and, and_true, if_true, if_false, ite_true, ite_false, zmp_s, zlt_s, zcV_s, zcI_s, zcJ_s, zcA_s, zcD_s, zcF_s, zth_n, zth_t, zrt_s, zQ_l, zQ_r]
  · simp only [q0, r2, k0, l0, nI_le (Nat.le_refl _) (show N 0 < 2 ^ 31 by omega), zmp_s, zlt_s, zcV_s, zcI_s, zcJ_s, zcA_s, zcD_s, zcF_s, zth_n, zth_t, zrt_s, zQ_l, zQ_r, false_or, or_false, true_or, or_true, false_and, and_false, not_false_eq_true, not_true_eq_false, and_self, true_and, and_true, if_true, if_false, ite_true, ite_false, zgd_t]
def nRd (N : zLv) : Nat := zsu (fun r => if (nEn N).testBit r = true ∧ (nld N (2 ^ N 0 - 1) r).testBit (N 2) = true then nTt N r else 0) (N 0)
theorem m_rounds {h : zm_H} {N : zLv} (c : CI h N) : ∃ g, sX5_rounds [.ref 0] h = some (.inl (some (.long (lN (nRd N)))), g) ∧ CQ N h g := by
  have q00 := c.1.1
  obtain ⟨g1, s1, cq1, -, z8⟩ := m_endings c
  have c1 := c.go cq1
  have hF := c.2.2.1
  have hW := hF.1
  have hn := hW.1
  have hp := pow_le hn
  have one := Nat.one_le_two_pow (n := N 0)
  have v51 := c1.1.2.2.2.2.2.2.2.2.2.2.2.2.2.2.2.2.1
  have y51 := v51.1
  have r21 := c1.1.2.2.2.1
  have q01 := c1.1.1
  have er1 := q_everyRoom v51 c1.2.1 hW.1
  have w2 := q_leads (S := 2 ^ N 0 - 1) v51 c1.2.1 hW (by omega) (by have := nkeys_lt hW (2 ^ N 0 - 1); omega) (by have := ncoins_le hW (2 ^ N 0 - 1); omega)
  obtain ⟨g, hg⟩ : ∃ g, g = zrI g1 (L5 + 10) (nldF N (2 ^ N 0 - 1) (zI g1 (L5 + 10)) (N 1)) := ⟨_, rfl⟩
  rw [← hg] at w2
  have cq2 : CQ N g1 g := by rw [hg]; exact c1.lead _
  have c2 := c1.go cq2
  have g8 : zI g 0 8 = 0 := by rw [hg, I_rIn (by rw [L5e]; omega)]; exact z8
  obtain ⟨g3, s3, -, tg, -, -, e3⟩ := m_solvedX c2
  have e3 := e3 g8
  subst e3
  have hE : nEn N < 2 ^ N 0 := nmask_lt _ _
  have hl : ∀ i, i < N 0 → zI g3 15 i = nI (nld N (2 ^ N 0 - 1) i) := by
    intro i hi
    rw [hg, show (15 : Nat) = L5 + 10 from rfl, I_rIs]
    exact if_pos (by omega)
  obtain ⟨hk, hL, -, hst, ho5, ho16⟩ := c2
  obtain ⟨q0, r0, r1, r2, r3, r4, r5, r6, r7, r9, i0, i1, i2, o0, o1, o2, v5, v16, hh, v96, v107, sl0, sl1, sl2, fl0, tb, rw0⟩ := hk
  have hS := v5
  obtain ⟨k0, p1, p2, p3, p5, p6, p7, p8, p9, p12, p14, k1, k2, k3, k4, k5, k6, k7, k8, k9, k10⟩ := hS
  have k15 : zK g3 15 = (0, 11) := k10
  have l0 := hL.1
  have l2 := hL.2.2.1
  have y119 := tb.1
  have h2 := hF.2.2.1
  refine ⟨g3, ?_, cq1.tr cq2⟩
  refine zsem_eq (Nat.le_of_ble_eq_true rfl) (zTo_of gX5_rounds_0 ?_)
  simp only [q00, s1, q01, r21, y51, er1, w2, zmp_s, zlt_s, zcV_s, zcI_s, zcJ_s, zcA_s, zcD_s, zcF_s, zth_n, zth_t, zrt_s, zQ_l, zQ_r, false_or, or_false, true_or, or_true, false_and, and_false, not_false_eq_true, not_true_eq_false, and_self, true_and, and_true, if_true, if_false, ite_true, ite_false, zgd_t]
  refine zTo_for (f := fun k => (16, [some (.ref 0), some (.int (nI (nEn N))), some (.int (nI (2 ^ N 0 - 1))), some (.ref 15), some (.long (lN (zsu (fun r => if (nEn N).testBit r = true ∧ (nld N (2 ^ N 0 - 1) r).testBit (N 2) = true then nTt N r else 0) k))), none, some (.int (nI k))], [], g3)) (N 0) 0 (Nat.zero_le _) (fun k _ hk => ?_) (zTo_of gX5_rounds_16 ?_)
  · obtain ⟨f1, f2, f3, f4⟩ := nI_for hk (show N 0 < 2 ^ 31 by omega)
    have ll := nld_lt hW (2 ^ N 0 - 1) k
    simp only [gX5_rounds_16, q0, r2, k0, l0, l2, f1, f2, f3, f4, k15, show ¬ 11 ≤ k by omega, hl k hk, q_has (show nEn N < 2 ^ 31 by omega) (show k < 32 by omega), q_has (show nld N (2 ^ N 0 - 1) k < 2 ^ 31 by omega) (show N 2 < 32 by omega), zb_0, s3, y119, q_walksTo tb hW tg.1 (show 2 ^ N 0 - 1 < 2 ^ N 0 by omega) hk, zsu_s, zmp_s, zlt_s, zcV_s, zcI_s, zcJ_s, zcA_s, zcD_s, zcF_s, zth_n, zth_t, zrt_s, zQ_l, zQ_r, false_or, or_false, true_or, or_true, false_and, and_false, not_false_eq_true, not_true_eq_false, and_self, true_and, and_true, if_true, if_false, ite_true, ite_false, zgd_t]
    cases w : (nEn N).testBit k with
    | false => simp
    | true =>
      cases w2 : (nld N (2 ^ N 0 - 1) k).testBit (N 2) with
      | false => simp
      | true => simp [lN_add, nTt]
  · simp only [q0, r2, k0, l0, nI_le (Nat.le_refl _) (show N 0 < 2 ^ 31 by omega), zmp_s, zlt_s, zcV_s, zcI_s, zcJ_s, zcA_s, zcD_s, zcF_s, zth_n, zth_t, zrt_s, zQ_l, zQ_r, false_or, or_false, true_or, or_true, false_and, and_false, not_false_eq_true, not_true_eq_false, and_self, true_and, and_true, if_true, if_false, ite_true, ite_false, zgd_t]
    rfl
-- shares
theorem d_num {x : UInt64} (h : Jvm.FP.Core.val64 x ≠ .nan) : x &&& 0x7fffffffffffffff ≤ 0x7ff0000000000000 := by
  rw [UInt64.le_iff_toNat_le, UInt64.toNat_and]
  show x.toNat &&& (2 ^ 63 - 1) ≤ 9218868437227405312
  rw [Nat.and_two_pow_sub_one_eq_mod]
  refine Nat.le_of_not_lt (fun q => h ?_)
  show Jvm.FP.Core.decode Jvm.FP.Core.b64 x.toNat = .nan
  unfold Jvm.FP.Core.decode
  have e1 : Jvm.FP.Core.fieldE Jvm.FP.Core.b64 x.toNat = Jvm.FP.Core.b64.exps - 1 := by
    show x.toNat / 2 ^ 52 % 2 ^ 11 = 2 ^ 11 - 1
    omega
  have e2 : ¬ Jvm.FP.Core.fieldT Jvm.FP.Core.b64 x.toNat = 0 := by
    show ¬ x.toNat % 2 ^ 52 = 0
    omega
  rw [if_pos e1, if_neg e2]
theorem l2d_fin (x : Int64) : Jvm.FP.Core.val64 (Jvm.FP.l2d x) ≠ .nan := by
  show Jvm.FP.Core.val64 (Jvm.FP.Core.l2d x) ≠ .nan
  rw [Jvm.FP.Core.val64_l2d]
  unfold Jvm.FP.Core.ofInt Jvm.FP.Core.round Jvm.FP.Core.roundRatio Jvm.FP.Core.roundAt Jvm.FP.Core.settle Jvm.FP.Core.bound
  intro q
  simp only at q
  split at q
  · exact absurd q (by simp)
  · split at q <;> split at q <;> exact absurd q (by simp)
theorem ddiv_num {x y : Int64} (hy : y ≠ 0) (hy2 : y.toInt.natAbs ≤ 2 ^ 53) : Jvm.FP.ddiv (Jvm.FP.l2d x) (Jvm.FP.l2d y) &&& 0x7fffffffffffffff ≤ 0x7ff0000000000000 := by
  refine d_num ?_
  show Jvm.FP.Core.val64 (Jvm.FP.Core.ddiv (Jvm.FP.Core.l2d x) (Jvm.FP.Core.l2d y)) ≠ .nan
  rw [Jvm.FP.Core.val64_ddiv]
  have hx := l2d_fin x
  have hx : Jvm.FP.Core.val64 (Jvm.FP.Core.l2d x) ≠ .nan := hx
  have wy : Jvm.FP.Core.Whole y.toInt (Jvm.FP.Core.val64 (Jvm.FP.Core.l2d y)) := Jvm.FP.Core.l2d_int hy2
  generalize Jvm.FP.Core.val64 (Jvm.FP.Core.l2d y) = v at wy
  generalize Jvm.FP.Core.val64 (Jvm.FP.Core.l2d x) = u at hx
  cases v with
  | nan => exact wy.elim
  | inf s => exact wy.elim
  | fin t d r =>
    have d0 : d ≠ 0 := by
      intro e
      have := (Jvm.FP.Core.whole_zero wy).mp e
      exact hy (Int64.toInt_inj.mp (by rw [this]; rfl))
    cases u with
    | nan => exact absurd rfl hx
    | inf s => simp [Jvm.FP.Core.quotient]
    | fin s c q =>
      simp only [Jvm.FP.Core.quotient, if_neg d0]
      unfold Jvm.FP.Core.roundRatio Jvm.FP.Core.roundAt Jvm.FP.Core.settle Jvm.FP.Core.bound
      intro q
      split at q
      · exact absurd q (by simp)
      · split at q <;> split at q <;> exact absurd q (by simp)
theorem lN_toInt63 {n : Nat} (h : n < 2 ^ 62) : (lN n).toInt = (n : Int) := lg_ofNat_toInt (by omega)
def nSh (N : zLv) (r p : Nat) : UInt64 := if nTo N = 0 then Jvm.FP.dconst0 else Jvm.FP.ddiv (Jvm.FP.l2d (lN (nAt N r p))) (Jvm.FP.l2d (lN (nTo N)))
theorem m_share {h : zm_H} {N : zLv} {r p : Nat} (c : CI h N) (hr : r < N 0) (ho : p < N 0) : ∃ g, sX5_share [.ref 0, .int (nI r), .int (nI p)] h = some (.inl (some (.double (nSh N r p))), g) ∧ CQ N h g := by
  have q00 := c.1.1
  obtain ⟨g1, s1, cq1⟩ := m_atPlace c hr ho
  have c1 := c.go cq1
  obtain ⟨g2, s2, cq2⟩ := m_tours c1
  have q01 := c1.1.1
  have tl := nTo_lt c.2.2.1
  have hz := lgeq0 (show nTo N < 2 ^ 63 by omega)
  refine ⟨g2, ?_, cq1.tr cq2⟩
  refine zsem_eq (Nat.le_of_ble_eq_true rfl) (zTo_of gX5_share_0 ?_)
  unfold nSh
  by_cases z : nTo N = 0
  · rw [if_pos z]
    have hz : (lg_cmp (lN (nTo N)) (0 : Int64) = 0) = True := eq_true (hz.mpr z)
    simp only [q00, s1, q01, s2, hz, zmp_s, zlt_s, zcV_s, zcI_s, zcJ_s, zcA_s, zcD_s, zcF_s, zth_n, zth_t, zrt_s, zQ_l, zQ_r, false_or, or_false, true_or, or_true, false_and, and_false, not_false_eq_true, not_true_eq_false, and_self, true_and, and_true, if_true, if_false, ite_true, ite_false, zgd_t]
  · rw [if_neg z]
    have hz : (lg_cmp (lN (nTo N)) (0 : Int64) = 0) = False := eq_false (fun e => z (hz.mp e))
    have ti := lN_toInt63 (n := nTo N) (by omega)
    have dn := ddiv_num (x := lN (nAt N r p)) (y := lN (nTo N)) (fun e => by rw [e] at ti; have : (0 : Int64).toInt = 0 := rfl; omega) (by rw [ti]; omega)
    simp only [q00, s1, q01, s2, hz, dn, zmp_s, zlt_s, zcV_s, zcI_s, zcJ_s, zcA_s, zcD_s, zcF_s, zth_n, zth_t, zrt_s, zQ_l, zQ_r, false_or, or_false, true_or, or_true, false_and, and_false, not_false_eq_true, not_true_eq_false, and_self, true_and, and_true, if_true, if_false, ite_true, ite_false, zgd_t]
theorem m_shareX {h : zm_H} {N : zLv} {x y : Int32} (c : CI h N) (hx : x < 0 ∨ nI (N 0) ≤ x) : sX5_share [.ref 0, .int x, .int y] h = some (.inr 2, h) := by
  have q0 := c.1.1
  refine zsem_eq (Nat.le_of_ble_eq_true rfl) (zTo_of gX5_share_0 ?_)
  simp only [q0, m_atPlaceX c hx, zmp_s, zlt_s, zcV_s, zcI_s, zcJ_s, zcA_s, zcD_s, zcF_s, zth_n, zth_t, zrt_s, zQ_l, zQ_r, zgd_t]
theorem m_shareY {h : zm_H} {N : zLv} {r : Nat} {y : Int32} (c : CI h N) (hr : r < N 0) (hy : y < 0 ∨ nI (N 0) ≤ y) : sX5_share [.ref 0, .int (nI r), .int y] h = some (.inr 1, h) := by
  have q0 := c.1.1
  refine zsem_eq (Nat.le_of_ble_eq_true rfl) (zTo_of gX5_share_0 ?_)
  simp only [q0, m_atPlaceY c hr hy, zmp_s, zlt_s, zcV_s, zcI_s, zcJ_s, zcA_s, zcD_s, zcF_s, zth_n, zth_t, zrt_s, zQ_l, zQ_r, zgd_t]
theorem shown_all : ∀ a, a < 12 → ∀ b, b < 12 → b = 0 ∨ Jvm.FP.fdiv (Jvm.FP.i2f (nI a)) (Jvm.FP.i2f (nI b)) &&& 0x7fffffff ≤ 0x7f800000 := by decide +kernel
theorem m_shown {h : zm_H} {N : zLv} (c : CI h N) : sX5_shown [.ref 0] h = some (.inl (some (.float (Jvm.FP.fdiv (Jvm.FP.i2f (nI (N 4))) (Jvm.FP.i2f (nI (N 0)))))), h) := by
  have hF := c.2.2.1
  have hW := hF.1
  have q0 := c.1.1
  have r2 := c.1.2.2.2.1
  have y5 := c.1.2.2.2.2.2.2.2.2.2.2.2.2.2.2.2.2.1.1
  have l0 := c.2.1.1
  have l4 := c.2.1.2.2.2.2.1
  have n1 := hF.2.1
  have z : (nI (N 0) = 0) = False := by
    rw [nI_eq0 (by have := hW.1; omega)]; exact eq_false (by omega)
  have dn := (shown_all (N 4) (by have := hW.2.2.1; omega) (N 0) (by have := hW.1; omega)).resolve_left (by omega)
  refine zsem_eq (Nat.le_of_ble_eq_true rfl) (zTo_of gX5_shown_0 ?_)
  simp only [q0, r2, y5, l0, l4, z, dn, zmp_s, zlt_s, zcV_s, zcI_s, zcJ_s, zcA_s, zcD_s, zcF_s, zth_n, zth_t, zrt_s, zQ_l, zQ_r, false_or, or_false, true_or, or_true, false_and, and_false, not_false_eq_true, not_true_eq_false, and_self, true_and, and_true, if_true, if_false, ite_true, ite_false, zgd_t]
end ZC7
