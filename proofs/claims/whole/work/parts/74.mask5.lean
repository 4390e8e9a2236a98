/-! THE MODEL: coins, rounds; what would be. -/
section ZMM
theorem nc_eq (N : zLv) (S : Nat) : ncoins N S = zfo (fun r acc => if S.testBit r then acc + N (17 + 3 * r) else acc) 0 (N 0) := rfl
/-- all coins but those of one room -/
theorem coin_drop {N : zLv} {S T r : Nat} (hb : S.testBit r = true) (ht : ∀ i, i < N 0 → T.testBit i = (S.testBit i && !decide (i = r))) : ∀ n, n ≤ N 0 → zfo (fun r acc => if T.testBit r then acc + N (17 + 3 * r) else acc) 0 n + (if r < n then N (17 + 3 * r) else 0) = zfo (fun r acc => if S.testBit r then acc + N (17 + 3 * r) else acc) 0 n := by
  intro n
  induction n with
  | zero => intro _; simp [zfo_0]
  | succ n ih =>
    intro hn
    have ih := ih (by omega)
    rw [zfo_s, zfo_s, ht n (by omega), ← ih]
    by_cases e : n = r
    · subst e
      simp [hb]
    · have e2 : (r < n + 1) = (r < n) := by apply propext; omega
      simp only [e, e2, decide_false, Bool.not_false, Bool.and_true]
      cases S.testBit n
      · simp
      · simp; omega
section
variable {h : zm_H} {N : zLv}
theorem coins_but {r : Nat} (h0 : N 0 ≤ 11) (hr : r < N 0) : ncoins N ((2 ^ N 0 - 1) &&& (2 ^ r ^^^ 4294967295)) = ncoins N (2 ^ N 0 - 1) - N (17 + 3 * r) := by
  have := coin_drop (N := N) (S := 2 ^ N 0 - 1) (T := (2 ^ N 0 - 1) &&& (2 ^ r ^^^ 4294967295)) (r := r) (all_bit hr) (fun i hi => by
    rw [bit_not (by omega), Nat.testBit_two_pow]
    congr 2
    by_cases e : r = i
    · subst e; simp
    · have : ¬ i = r := fun x => e x.symm
      simp [e, this]) (N 0) (Nat.le_refl _)
  rw [if_pos hr] at this
  unfold ncoins
  omega
theorem r_leastCoins (c : MI h N) : MR (sX6_leastCoins [.ref 125] h) (some (.int (eI (nLc N (N 0))))) 0 (MZ N h) := by
  have c1 := c.go (MZ.th c 0)
  obtain ⟨g, e1, w⟩ := t_endingSet c1
  have c2 := c1.go w.1
  have hF := c.2.2
  have hW := hF.1
  have h0 := hW.1
  have hp := pow_le h0
  have one := Nat.one_le_two_pow (n := N 0)
  have en := nmask_lt (fun r => decide (0 < nWW N (2 ^ N 2) (N 2) (2 ^ N 0 - 1) r) && nme N r) (N 0)
  have enl : nEn N < 2 ^ 31 := by unfold nEn; omega
  refine ⟨g, ?_, (MZ.th c 0).tr w.1, by rw [w.2.1, th_0]⟩
  refine zsem_eq (Nat.le_of_ble_eq_true rfl) (zTo_of gX6_leastCoins_0 ?_)
  simp only [c.1.1, c1.1.1, e1, zmp_s, zlt_s, zcV_s, zcI_s, zcJ_s, zcA_s, zcD_s, zcF_s, zth_n, zth_t, zrt_s, zQ_l, zQ_r, false_or, or_false, true_or, or_true, false_and, and_false, not_false_eq_true, not_true_eq_false, and_self, true_and, and_true, if_true, if_false, ite_true, ite_false, zgd_t]
  have key : ∀ d k E, k + d = N 0 → E = eI (nLc N k) → zTo vX6_leastCoins rX6_leastCoins (10, [some (.ref 125), some (.int (nI (nEn N))), some (.int E), some (.int (nI k)), none], [], g) (fun y => y = (.inl (some (.int (eI (nLc N (N 0))))), g)) := by
    intro d
    induction d with
    | zero =>
      intro k E hk hE
      have hk : k = N 0 := by omega
      subst hk
      refine zTo_of gX6_leastCoins_10 ?_
      simp only [c2.1.1, r_rooms c2.1 c2.2.1, nI_le (Nat.le_refl _) (show N 0 < 2 ^ 31 by omega), hE, zmp_s, zlt_s, zcV_s, zcI_s, zcJ_s, zcA_s, zcD_s, zcF_s, zth_n, zth_t, zrt_s, zQ_l, zQ_r, false_or, or_false, true_or, or_true, false_and, and_false, not_false_eq_true, not_true_eq_false, and_self, true_and, and_true, if_true, if_false, ite_true, ite_false, zgd_t]
    | succ d ih =>
      intro k E hk hE
      have hkn : k < N 0 := by omega
      obtain ⟨f1, f2, f3, f4⟩ := nI_for hkn (by omega)
      have cl := ncoins_le hW (2 ^ N 0 - 1)
      have ll := nLc_lt hW k
      obtain ⟨v, hv⟩ : ∃ v, v = ncoins N (2 ^ N 0 - 1) - N (17 + 3 * k) := ⟨_, rfl⟩
      have cb := coins_but (N := N) h0 hkn
      rw [← hv] at cb
      have ml : (2 ^ N 0 - 1) &&& (2 ^ k ^^^ 4294967295) < 2 ^ 31 := by
        have := and_lt (y := 2 ^ k ^^^ 4294967295) (show 2 ^ N 0 - 1 < 2 ^ N 0 by omega)
        omega
      have ci := r_coinsIn c2.1 c2.2.1 h0 ml
      rw [cb] at ci
      have em : (E = -1) = (nLc N k = 0) := by rw [hE]; exact eI_m1 (by omega)
      have ls := nLc_s N k
      rw [← hv] at ls
      refine zTo_of gX6_leastCoins_10 ?_
      simp only [c2.1.1, r_rooms c2.1 c2.2.1, f1, r_whole c2.1 c2.2.1 h0, nx_shl1 (show k < 32 by omega), nI_not, ci, r_has enl (show k < 32 by omega), zb_0, em, f4, zmp_s, zlt_s, zcV_s, zcI_s, zcJ_s, zcA_s, zcD_s, zcF_s, zth_n, zth_t, zrt_s, zQ_l, zQ_r, false_or, or_false, true_or, or_true, false_and, and_false, not_false_eq_true, not_true_eq_false, and_self, true_and, and_true, if_true, if_false, ite_true, ite_false, zgd_t]
      cases b : (nEn N).testBit k
      · simp only [false_or, or_false, true_or, or_true, false_and, and_false, not_false_eq_true, not_true_eq_false, and_self, true_and, and_true, if_true, if_false, ite_true, ite_false, zmp_s, zlt_s, zcV_s, zcI_s, zcJ_s, zcA_s, zcD_s, zcF_s, zth_n, zth_t, zrt_s, zQ_l, zQ_r]
        rw [if_neg (fun x => by rw [b] at x; cases x.1)] at ls
        exact ih (k + 1) E (by omega) (by rw [ls]; exact hE)
      · simp only [Bool.true_eq_false, false_or, or_false, true_or, or_true, false_and, and_false, not_false_eq_true, not_true_eq_false, and_self, true_and, and_true, if_true, if_false, ite_true, ite_false, zmp_s, zlt_s, zcV_s, zcI_s, zcJ_s, zcA_s, zcD_s, zcF_s, zth_n, zth_t, zrt_s, zQ_l, zQ_r]
        by_cases z : nLc N k = 0
        · rw [if_pos z]
          rw [if_pos ⟨b, Or.inl z⟩] at ls
          simp only [zmp_s, zlt_s, zcV_s, zcI_s, zcJ_s, zcA_s, zcD_s, zcF_s, zth_n, zth_t, zrt_s, zQ_l, zQ_r]
          exact ih (k + 1) (nI v) (by omega) (by rw [ls, eI_s])
        · rw [if_neg z]
          obtain ⟨q, hq⟩ : ∃ q, nLc N k = q + 1 := ⟨nLc N k - 1, by omega⟩
          have eq1 : E = nI q := by rw [hE, hq, eI_s]
          have le1 : (E ≤ nI v) = (q ≤ v) := by rw [eq1, propext (nI_leI (show q < 2 ^ 31 by omega) (show v < 2 ^ 31 by omega))]
          by_cases q2 : q ≤ v
          · rw [if_pos (le1.mpr q2)]
            rw [if_neg (fun x => by have := x.2; omega)] at ls
            simp only [zmp_s, zlt_s, zcV_s, zcI_s, zcJ_s, zcA_s, zcD_s, zcF_s, zth_n, zth_t, zrt_s, zQ_l, zQ_r]
            exact ih (k + 1) E (by omega) (by rw [ls]; exact hE)
          · rw [if_neg (fun w => q2 (le1.mp w))]
            rw [if_pos ⟨b, Or.inr (by omega)⟩] at ls
            simp only [zmp_s, zlt_s, zcV_s, zcI_s, zcJ_s, zcA_s, zcD_s, zcF_s, zth_n, zth_t, zrt_s, zQ_l, zQ_r]
            exact ih (k + 1) (nI v) (by omega) (by rw [ls, eI_s])
  exact key (N 0) 0 (-1) (by omega) (by rw [nLc_0, eI_0])
theorem nEn_bit {r : Nat} (hr : r < N 0) : (nEn N).testBit r = (decide (0 < nWW N (2 ^ N 2) (N 2) (2 ^ N 0 - 1) r) && nme N r) := by
  unfold nEn
  rw [nmask_bit]; simp [hr]
theorem r_rounds (c : MI h N) : MR (sX6_rounds [.ref 125] h) (some (.long (lN (nRd N)))) 0 (MZ N h) := by
  have c1 := c.go (MZ.th c 0)
  obtain ⟨g, e1, w⟩ := t_comes c1
  have c2 := c1.go w.1
  have hF := c.2.2
  have hW := hF.1
  have h0 := hW.1
  have hp := pow_le h0
  have h3 := hF.2.2.2.1
  have hs := hF.2.2.1
  have one := Nat.one_le_two_pow (n := N 0)
  refine ⟨g, ?_, (MZ.th c 0).tr w.1, by rw [w.2.1, th_0]⟩
  have l3 := c2.2.1.e3
  have l2 := c2.2.1.at (i := 2) (by omega) (by omega)
  have m1 := c2.1
  obtain ⟨E3, hE3⟩ : ∃ x, x = eI (N 3) := ⟨_, rfl⟩
  have hmE : ∀ r, r < 2 ^ 31 → ∀ h, sX6_mayEnd [.ref 125, .int (nI r), .int E3] h = some (.inl (some (.int (zb (nme N r)))), h) := fun r hr h => by rw [hE3]; exact r_mayEnd hr (by omega) h
  rw [← hE3] at l3
  have e0 : ∀ x, lN x + (0 : Int64) = lN x := fun x => lN_add x 0
  refine zsem_eq (Nat.le_of_ble_eq_true rfl) (zTo_of gX6_rounds_0 ?_)
  simp only [c.1.1, c1.1.1, e1, zmp_s, zlt_s, zcV_s, zcI_s, zcJ_s, zcA_s, zcD_s, zcF_s, zth_n, zth_t, zrt_s, zQ_l, zQ_r, false_or, or_false, true_or, or_true, false_and, and_false, not_false_eq_true, not_true_eq_false, and_self, true_and, and_true, if_true, if_false, ite_true, ite_false, zgd_t]
  unfold nRd
  obtain ⟨F, hFF⟩ : ∃ F : Nat → Nat, F = fun r => if (nEn N).testBit r = true ∧ (nld N (2 ^ N 0 - 1) r).testBit (N 2) = true then nTt N r else 0 := ⟨_, rfl⟩
  rw [← hFF]
  have key : ∀ d k, k + d = N 0 → zTo vX6_rounds rX6_rounds (9, [some (.ref 125), some (.long (lN (zsu F k))), none, some (.int (nI k)), none], [], g) (fun y => y = (.inl (some (.long (lN (zsu F (N 0))))), g)) := by
    intro d
    induction d with
    | zero =>
      intro k hk
      have hk : k = N 0 := by omega
      subst hk
      refine zTo_of gX6_rounds_9 ?_
      simp only [m1.1, r_rooms c2.1 c2.2.1, nI_le (Nat.le_refl _) (show N 0 < 2 ^ 31 by omega), zmp_s, zlt_s, zcV_s, zcI_s, zcJ_s, zcA_s, zcD_s, zcF_s, zth_n, zth_t, zrt_s, zQ_l, zQ_r, false_or, or_false, true_or, or_true, false_and, and_false, not_false_eq_true, not_true_eq_false, and_self, true_and, and_true, if_true, if_false, ite_true, ite_false, zgd_t]
    | succ d ih =>
      intro k hk
      have hkn : k < N 0 := by omega
      obtain ⟨f1, f2, f3, f4⟩ := nI_for hkn (by omega)
      have cv := w.2.2.2.1 (2 ^ N 0 - 1) k (by omega) hkn
      have ll := nld_lt hW (2 ^ N 0 - 1) k
      have nx := ih (k + 1) (by omega)
      have fk : F k = if (nEn N).testBit k = true ∧ (nld N (2 ^ N 0 - 1) k).testBit (N 2) = true then nTt N k else 0 := by rw [hFF]
      have tt : nTt N k = nWW N (2 ^ N 2) (N 2) (2 ^ N 0 - 1) k := rfl
      rw [zsu_s, fk, nEn_bit hkn, tt] at nx
      refine zTo_of gX6_rounds_9 ?_
      simp only [m1.1, r_rooms c2.1 c2.2.1, f1, r_whole c2.1 c2.2.1 h0, r_leads c2.1 c2.2.1 hW (show 2 ^ N 0 - 1 < 2 ^ 31 by omega) (show k < 2 ^ 31 by omega), m1.2.2.2.1, m1.2.2.2.2.2.2.2.2.2.2.2.2.2.2.2.2.1, c_2, p_2, l2, show ¬ 149 ≤ 2 by omega, r_has (show nld N (2 ^ N 0 - 1) k < 2 ^ 31 by omega) (show N 2 < 32 by omega), c_3, p_3, l3, show ¬ 149 ≤ 3 by omega, hmE k (by omega), zb_0, f4, e0, r_comesTo c2.1 (show 2 ^ N 0 - 1 < 2048 by omega) (show k < 11 by omega), cv, lN_add, zmp_s, zlt_s, zcV_s, zcI_s, zcJ_s, zcA_s, zcD_s, zcF_s, zth_n, zth_t, zrt_s, zQ_l, zQ_r, false_or, or_false, true_or, or_true, false_and, and_false, not_false_eq_true, not_true_eq_false, and_self, true_and, and_true, if_true, if_false, ite_true, ite_false, zgd_t]
      cases q : nme N k
      · simp only [false_or, or_false, true_or, or_true, false_and, and_false, not_false_eq_true, not_true_eq_false, and_self, true_and, and_true, if_true, if_false, ite_true, ite_false, zmp_s, zlt_s, zcV_s, zcI_s, zcJ_s, zcA_s, zcD_s, zcF_s, zth_n, zth_t, zrt_s, zQ_l, zQ_r]
        rw [if_neg (fun x => by rw [q] at x; simp at x)] at nx
        exact nx
      · simp only [Bool.true_eq_false, false_or, or_false, true_or, or_true, false_and, and_false, not_false_eq_true, not_true_eq_false, and_self, true_and, and_true, if_true, if_false, ite_true, ite_false, zmp_s, zlt_s, zcV_s, zcI_s, zcJ_s, zcA_s, zcD_s, zcF_s, zth_n, zth_t, zrt_s, zQ_l, zQ_r]
        cases b : (nld N (2 ^ N 0 - 1) k).testBit (N 2)
        · simp only [false_or, or_false, true_or, or_true, false_and, and_false, not_false_eq_true, not_true_eq_false, and_self, true_and, and_true, if_true, if_false, ite_true, ite_false, zmp_s, zlt_s, zcV_s, zcI_s, zcJ_s, zcA_s, zcD_s, zcF_s, zth_n, zth_t, zrt_s, zQ_l, zQ_r]
          rw [if_neg (fun x => by rw [b] at x; simp at x)] at nx
          exact nx
        · simp only [Bool.true_eq_false, false_or, or_false, true_or, or_true, false_and, and_false, not_false_eq_true, not_true_eq_false, and_self, true_and, and_true, if_true, if_false, ite_true, ite_false, zmp_s, zlt_s, zcV_s, zcI_s, zcJ_s, zcA_s, zcD_s, zcF_s, zth_n, zth_t, zrt_s, zQ_l, zQ_r]
          by_cases z : 0 < nWW N (2 ^ N 2) (N 2) (2 ^ N 0 - 1) k
          · rw [if_pos ⟨by rw [q]; simp [z], b⟩] at nx
            exact nx
          · rw [if_neg (fun x => by simp [z] at x)] at nx
            have z2 : nWW N (2 ^ N 2) (N 2) (2 ^ N 0 - 1) k = 0 := by omega
            rw [z2]
            exact nx
  exact key (N 0) 0 (by omega)
-- a copy aside
def asA : Nat → Prop := fun c => c = 126 ∨ (128 ≤ c ∧ c ≤ 133)
/-- h's level lies aside, that in 126 is another one -/
def AS (N M : zLv) (h g : zm_H) : Prop := zFr asA h g ∧ ML g 133 N ∧ ML g 126 M
theorem r_keepAside (c : MI h N) : ∃ g, sX6_keepAside [.ref 125] h = some (.inl none, g) ∧ AS N N h g := by
  have key : ∀ d k g, k + d = 149 → zFr (fun c => c = 133) h g → (∀ i, i < k → zI g 133 i = zI h 126 i) → zTo vX6_keepAside rX6_keepAside (2, [some (.ref 125), some (.int (nI k))], [], g) (fun o => ∃ g, o = (.inl none, g) ∧ AS N N h g) := by
    intro d
    induction d with
    | zero =>
      intro k g hk fr Y
      have hk : k = 149 := by omega
      refine zTo_of gX6_keepAside_2 ?_
      simp only [hk, show ((149 : Int32) ≤ nI 149) = True from eq_true (nI_le (a := 149) (b := 149) (by omega) (by omega)), zmp_s, zlt_s, zcV_s, zcI_s, zcJ_s, zcA_s, zcD_s, zcF_s, zth_n, zth_t, zrt_s, zQ_l, zQ_r, false_or, or_false, true_or, or_true, false_and, and_false, not_false_eq_true, not_true_eq_false, and_self, true_and, and_true, if_true, if_false, ite_true, ite_false]
      exact ⟨g, rfl, fr.mono (fun q hq => Or.inr (by omega)), fun i hi => by rw [Y i (by omega)]; exact c.2.1 i hi, ML_fr fr (by omega) c.2.1⟩
    | succ d ih =>
      intro k g hk fr Y
      obtain ⟨f1, f2, f3, f4⟩ := nI_for (show k < 149 by omega) (by omega)
      have f1 : ((149 : Int32) ≤ nI k) = False := f1
      have m1 := moS_fr fr c.1
      obtain ⟨t0, t3, tq, t1, t2, t4, t5, t6, t7, t8, t9, t10, t21, t22, t23, t25, n6, n7, n8, n9, n10, n11, n12, n13, n14, n15, n16, n17, n18⟩ := m1
      refine zTo_of gX6_keepAside_2 ?_
      simp only [f1, t0, t1, t9, n6, n13, f2, f3, f4, show ¬ 149 ≤ k by omega, zmp_s, zlt_s, zcV_s, zcI_s, zcJ_s, zcA_s, zcD_s, zcF_s, zth_n, zth_t, zrt_s, zQ_l, zQ_r, false_or, or_false, true_or, or_true, false_and, and_false, not_false_eq_true, not_true_eq_false, and_self, true_and, and_true, if_true, if_false, ite_true, ite_false, zgd_t]
      refine ih (k + 1) _ (by omega) (fr.tr (zFr.sI rfl)) (fun i hi => ?_)
      rw [I_sIs]
      by_cases e : i = k
      · rw [e, zput_self, fr.I (by omega)]
      · rw [zput_ne _ _ e]; exact Y i (by omega)
  have hsim : zW (sX6_keepAside [.ref 125] h) (fun o => ∃ g, o = (.inl none, g) ∧ AS N N h g) := zsem_to (Nat.le_of_ble_eq_true rfl) (zTo_of gX6_keepAside_0 (key 149 0 h (by omega) zFr.rf (fun i hi => by omega)))
  obtain ⟨o, e1, g, rfl, e2⟩ := hsim
  exact ⟨g, e1, e2⟩
theorem r_layBack {k : zm_H} {M : zLv} (c : MI h N) (a : AS N M h k) (x : Int64) : ∃ g, sX6_layBack [.ref 125, .long x] k = some (.inl (some (.long x)), g) ∧ MZ N h g ∧ zI g 125 0 = zI h 125 0 := by
  have key : ∀ d j g, j + d = 149 → zFr (fun c => c = 126) k g → (∀ i, i < j → zI g 126 i = mI N i) → zTo vX6_layBack rX6_layBack (2, [some (.ref 125), some (.long x), none, some (.int (nI j))], [], g) (fun o => ∃ g, o = (.inl (some (.long x)), g) ∧ MZ N h g ∧ zI g 125 0 = zI h 125 0) := by
    intro d
    induction d with
    | zero =>
      intro j g hj fr Y
      have hj : j = 149 := by omega
      refine zTo_of gX6_layBack_2 ?_
      simp only [hj, show ((149 : Int32) ≤ nI 149) = True from eq_true (nI_le (a := 149) (b := 149) (by omega) (by omega)), zmp_s, zlt_s, zcV_s, zcI_s, zcJ_s, zcA_s, zcD_s, zcF_s, zth_n, zth_t, zrt_s, zQ_l, zQ_r, false_or, or_false, true_or, or_true, false_and, and_false, not_false_eq_true, not_true_eq_false, and_self, true_and, and_true, if_true, if_false, ite_true, ite_false]
      have fr2 : zFr asA h g := a.1.tr (fr.mono (fun q hq => Or.inl hq))
      refine ⟨g, rfl, ⟨fr2.mono (fun q hq => ?_), fun i _ => ?_, fun i hi => Y i (by omega)⟩, ?_⟩
      · unfold asA at hq; unfold mqA; omega
      · rw [fr2.I (by unfold asA; omega)]
      · rw [fr2.I (by unfold asA; omega)]
    | succ d ih =>
      intro j g hj fr Y
      obtain ⟨f1, f2, f3, f4⟩ := nI_for (show j < 149 by omega) (by omega)
      have f1 : ((149 : Int32) ≤ nI j) = False := f1
      have m1 := moS_fr fr (moS_fr a.1 c.1)
      obtain ⟨t0, t3, tq, t1, t2, t4, t5, t6, t7, t8, t9, t10, t21, t22, t23, t25, n6, n7, n8, n9, n10, n11, n12, n13, n14, n15, n16, n17, n18⟩ := m1
      refine zTo_of gX6_layBack_2 ?_
      simp only [f1, t0, t1, t9, n6, n13, f2, f3, f4, show ¬ 149 ≤ j by omega, zmp_s, zlt_s, zcV_s, zcI_s, zcJ_s, zcA_s, zcD_s, zcF_s, zth_n, zth_t, zrt_s, zQ_l, zQ_r, false_or, or_false, true_or, or_true, false_and, and_false, not_false_eq_true, not_true_eq_false, and_self, true_and, and_true, if_true, if_false, ite_true, ite_false, zgd_t]
      refine ih (j + 1) _ (by omega) (fr.tr (zFr.sI rfl)) (fun i hi => ?_)
      rw [I_sIs]
      by_cases e : i = j
      · rw [e, zput_self, fr.I (by omega)]; exact a.2.1 j (by omega)
      · rw [zput_ne _ _ e]; exact Y i (by omega)
  have hsim : zW (sX6_layBack [.ref 125, .long x] k) (fun o => ∃ g, o = (.inl (some (.long x)), g) ∧ MZ N h g ∧ zI g 125 0 = zI h 125 0) := zsem_to (Nat.le_of_ble_eq_true rfl) (zTo_of gX6_layBack_0 (key 149 0 k (by omega) zFr.rf (fun i hi => by omega)))
  obtain ⟨o, e1, g, rfl, e2⟩ := hsim
  exact ⟨g, e1, e2⟩
/-- tours of the other level -/
theorem t_as {k : zm_H} {M : zLv} (c : MI h N) (a : AS N M h k) (hM : LC M) : ∃ g, sX6_toursNow [.ref 125] k = some (.inl (some (.long (lN (nTT M (2 ^ M 2) (M 2))))), g) ∧ AS N M h g := by
  obtain ⟨g, e1, fr, _⟩ := r_toursNow (moS_fr a.1 c.1) a.2.2 hM
  refine ⟨g, e1, a.1.tr (fr.mono (fun q hq => ?_)), ML_fr fr (by unfold wyA; omega) a.2.1, ML_fr fr (by unfold wyA; omega) a.2.2⟩
  have := wyA_q q hq
  unfold asA; omega
theorem ML_put {g : zm_H} {q : Nat} {M : zLv} {i x : Nat} (mL : ML g q M) (h3 : i ≠ 3) : ML (zsI g q i (nI x)) q (zput M i x) := fun j hj => by
  rw [I_sIs]
  by_cases e : j = i
  · rw [e, zput_self, mI_n h3, zput_self]
  · rw [zput_ne _ _ e, mL j hj]
    unfold mI
    by_cases e3 : j = 3
    · rw [if_pos e3, if_pos e3, zput_ne _ _ (by omega)]
    · rw [if_neg e3, if_neg e3, zput_ne _ _ e]
theorem AS.put {k : zm_H} {M : zLv} (a : AS N M h k) {i x : Nat} (h3 : i ≠ 3) : AS N (zput M i x) h (zsI k 126 i (nI x)) := ⟨a.1.tr (zFr.sI (Or.inl rfl)), fun j hj => by rw [I_sIn (by omega)]; exact a.2.1 j hj, ML_put a.2.2 h3⟩
theorem LC_nWo (hF : WF N) (key : Nat) : LC (nWo N key (N 0)) := by
  have l : ∀ i, i < 16 → nWo N key (N 0) i = N i := fun i hi => nWo_lo (by omega)
  have := hF.lc
  refine ⟨WB_nWo hF.1 key (Nat.le_refl _), by rw [l 3 (by omega)]; exact this.2.1, by rw [l 2 (by omega), l 0 (by omega)]; exact this.2.2⟩
theorem t_withoutKey (c : MI h N) {key : Nat} (hk : key < 8) : ∃ g, sX6_withoutKey [.ref 125, .int (nI key)] h = some (.inl (some (.long (lN (nTwo N key)))), g) ∧ MZ N h g ∧ zI g 125 0 = zI h 125 0 := by
  have hF := c.2.2
  have h0 := hF.1.1
  have hn1 := hF.2.1
  obtain ⟨g0, e1, a0⟩ := r_keepAside c
  obtain ⟨R, hR⟩ : ∃ R : zm_O → Prop, R = (fun o => ∃ g, o = (.inl (some (.long (lN (nTwo N key)))), g) ∧ MZ N h g ∧ zI g 125 0 = zI h 125 0) := ⟨_, rfl⟩
  have loop : ∀ d k g, k + d = N 0 → AS N (nWo N key k) h g → zTo vX6_withoutKey rX6_withoutKey (4, [some (.ref 125), some (.int (nI key)), some (.int (nI k))], [], g) R := by
    intro d
    induction d with
    | zero =>
      intro k g hk a
      have hk : k = N 0 := by omega
      subst hk
      have m1 := moS_fr a.1 c.1
      have l0 : nWo N key (N 0) 0 = N 0 := nWo_lo (by omega)
      have l2 : nWo N key (N 0) 2 = N 2 := nWo_lo (by omega)
      have rr := r_rooms m1 a.2.2
      rw [l0] at rr
      obtain ⟨g2, e2, a2⟩ := t_as c a (LC_nWo hF key)
      rw [l2] at e2
      obtain ⟨g3, e3, w⟩ := r_layBack c a2 (lN (nTT (nWo N key (N 0)) (2 ^ N 2) (N 2)))
      have m2 := moS_fr a2.1 c.1
      refine zTo_of gX6_withoutKey_4 ?_
      simp only [m1.1, rr, nI_le (Nat.le_refl _) (show N 0 < 2 ^ 31 by omega), e2, m2.1, e3, zmp_s, zlt_s, zcV_s, zcI_s, zcJ_s, zcA_s, zcD_s, zcF_s, zth_n, zth_t, zrt_s, zQ_l, zQ_r, false_or, or_false, true_or, or_true, false_and, and_false, not_false_eq_true, not_true_eq_false, and_self, true_and, and_true, if_true, if_false, ite_true, ite_false, zgd_t]
      rw [hR]
      exact ⟨g3, rfl, w⟩
    | succ d ih =>
      intro k g hk a
      have hkn : k < N 0 := by omega
      obtain ⟨f1, f2, f3, f4⟩ := nI_for hkn (by omega)
      have m1 := moS_fr a.1 c.1
      have l0 : nWo N key k 0 = N 0 := nWo_lo (by omega)
      have rr := r_rooms m1 a.2.2
      rw [l0] at rr
      have lv := a.2.2.at (i := 16 + 3 * k) (by omega) (by omega)
      have ap := a.put (i := 16 + 3 * k) (x := nWo N key k (16 + 3 * k) &&& (2 ^ key ^^^ 4294967295)) (by omega)
      rw [nWo_step] at ap
      refine zTo_of gX6_withoutKey_4 ?_
      simp only [m1.1, rr, f1, f4, m1.2.2.2.1, m1.2.2.2.2.2.2.2.2.2.2.2.2.2.2.2.2.1, ix16_0, nI_clamp (show 16 + 3 * k < 2 ^ 31 by omega), nI_lt0 (show 16 + 3 * k < 2 ^ 31 by omega), show ¬ 149 ≤ 16 + 3 * k by omega, lv, nx_shl1 (show key < 32 by omega), nI_not, zmp_s, zlt_s, zcV_s, zcI_s, zcJ_s, zcA_s, zcD_s, zcF_s, zth_n, zth_t, zrt_s, zQ_l, zQ_r, false_or, or_false, true_or, or_true, false_and, and_false, not_false_eq_true, not_true_eq_false, and_self, true_and, and_true, if_true, if_false, ite_true, ite_false, zgd_t]
      exact ih (k + 1) _ (by omega) ap
  have hsim : zW (sX6_withoutKey [.ref 125, .int (nI key)] h) R := by
    refine zsem_to (Nat.le_of_ble_eq_true rfl) (zTo_of gX6_withoutKey_0 ?_)
    simp only [c.1.1, e1, zmp_s, zlt_s, zcV_s, zcI_s, zcJ_s, zcA_s, zcD_s, zcF_s, zth_n, zth_t, zrt_s, zQ_l, zQ_r, false_or, or_false, true_or, or_true, false_and, and_false, not_false_eq_true, not_true_eq_false, and_self, true_and, and_true, if_true, if_false, ite_true, ite_false, zgd_t]
    exact loop (N 0) 0 g0 (by omega) (by rw [nWo_0]; exact a0)
  rw [hR] at hsim
  obtain ⟨o, k1, g, rfl, k2⟩ := hsim
  exact ⟨g, k1, k2⟩
end
end ZMM
