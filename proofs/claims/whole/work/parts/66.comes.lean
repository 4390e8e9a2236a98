/-! THE MODEL: walks to all sets laid; the longest walk. -/
section ZMD
def cmA : Nat → Prop := fun c => c = 129 ∨ c = 130
def CMS (h : zm_H) (n : Nat) (F : Nat → Nat → Nat) : Prop := ∀ S b, S < 2 ^ n → b < n → zJ h 129 (11 * S + b) = lN (F S b)
theorem CMS_cg {h : zm_H} {n : Nat} {F G : Nat → Nat → Nat} (H : CMS h n F) (e : ∀ S b, S < 2 ^ n → b < n → G S b = F S b) : CMS h n G := fun S b q1 q2 => by rw [e S b q1 q2]; exact H S b q1 q2
theorem CMS_fr {A : Nat → Prop} {h g : zm_H} {n : Nat} {F : Nat → Nat → Nat} (fr : zFr A h g) (hA : ¬ A 129) (H : CMS h n F) : CMS g n F := fun S b q1 q2 => by rw [fr.J hA]; exact H S b q1 q2
theorem nP_1 {N : zLv} {S0 a0 : Nat} (h0 : 0 < S0) : nP (nnx N) (N 0) S0 a0 1 = fI S0 a0 := by
  have e : nP (nnx N) (N 0) S0 a0 (0 + 1) = nP (nnx N) (N 0) S0 a0 0 := nP_skip (fun a _ => nW_low 0 a h0)
  rw [show (1 : Nat) = 0 + 1 from rfl, e]
  funext S b
  unfold nP
  rw [if_neg (fun x => by omega)]; rfl
theorem r_layComes {h : zm_H} {N : zLv} (m0 : moS h 126) (mL : ML h 126 N) (hW : WB N) (h2 : N 2 < N 0) : ∃ g, sX6_layComes [.ref 125] h = some (.inl none, g) ∧ zFr cmA h g ∧ NXT g N (2 ^ N 0) ∧ CMS g (N 0) (nWW N (2 ^ N 2) (N 2)) := by
  have h0 := hW.1
  have h1 := hW.2.1
  have hp := pow_le h0
  have one := Nat.one_le_two_pow (n := N 0)
  have hst := pw_lt h2
  have hst0 := Nat.two_pow_pos (N 2)
  obtain ⟨R, hR⟩ : ∃ R : zm_O → Prop, R = (fun o => ∃ g, o = (.inl none, g) ∧ zFr cmA h g ∧ NXT g N (2 ^ N 0) ∧ CMS g (N 0) (nWW N (2 ^ N 2) (N 2))) := ⟨_, rfl⟩
  have M := fun {g : zm_H} (fr : zFr cmA h g) => moS_fr fr m0
  have ML' := fun {g : zm_H} (fr : zFr cmA h g) => ML_fr fr (show ¬ cmA 126 from fun x => by unfold cmA at x; omega) mL
  obtain ⟨F, hF⟩ : ∃ F : Nat → Nat → Nat → Nat, F = nP (nnx N) (N 0) (2 ^ N 2) (N 2) := ⟨_, rfl⟩
  have hFs : ∀ s k, F s s k = nWW N (2 ^ N 2) (N 2) s k := fun s k => by rw [hF]; exact nP_at (Nat.le_refl _)
  have outer : ∀ d s g, s + d = 2 ^ N 0 → 0 < s → zFr cmA h g → NXT g N (2 ^ N 0) → CMS g (N 0) (F s) → zTo vX6_layComes rX6_layComes (38, [some (.ref 125), some (.int (nI s)), none, none, none, none], [], g) R := by
    intro d
    induction d with
    | zero =>
      intro s g hs _ fr X Y
      have hs : s = 2 ^ N 0 := by omega
      refine zTo_of gX6_layComes_38 ?_
      simp only [(M fr).1, r_whole (M fr) (ML' fr) h0, nI_lt (show 2 ^ N 0 - 1 < s by omega) (show s < 2 ^ 31 by omega), zmp_s, zlt_s, zcV_s, zcI_s, zcJ_s, zcA_s, zcD_s, zcF_s, zth_n, zth_t, zrt_s, zQ_l, zQ_r, false_or, or_false, true_or, or_true, false_and, and_false, not_false_eq_true, not_true_eq_false, and_self, true_and, and_true, if_true, if_false, ite_true, ite_false, zgd_t]
      rw [hR]
      refine ⟨g, rfl, fr, X, CMS_cg Y (fun S b q1 q2 => ?_)⟩
      rw [hF]
      exact (nP_at (by omega)).symm
    | succ d ih =>
      intro s g hs hs0 fr X Y
      have hs2 : s < 2 ^ N 0 := by omega
      refine zTo_of gX6_layComes_38 ?_
      simp only [(M fr).1, r_whole (M fr) (ML' fr) h0, nI_ltI (show 2 ^ N 0 - 1 < 2 ^ 31 by omega) (show s < 2 ^ 31 by omega), show ¬ 2 ^ N 0 - 1 < s by omega, zmp_s, zlt_s, zcV_s, zcI_s, zcJ_s, zcA_s, zcD_s, zcF_s, zth_n, zth_t, zrt_s, zQ_l, zQ_r, false_or, or_false, true_or, or_true, false_and, and_false, not_false_eq_true, not_true_eq_false, and_self, true_and, and_true, if_true, if_false, ite_true, ite_false, zgd_t]
      obtain ⟨nx, hnx⟩ : ∃ nx : Nat → Nat → Bool, nx = fun a b => nnx N s a b := ⟨_, rfl⟩
      have rows : ∀ d k g, k + d = N 0 → zFr cmA h g → NXT g N (2 ^ N 0) → CMS g (N 0) (tst (F s) nx s k 0) → zTo vX6_layComes rX6_layComes (44, [some (.ref 125), some (.int (nI s)), some (.int (nI k)), none, none, none], [], g) R := by
        intro d
        induction d with
        | zero =>
          intro k g hk fr X Y
          have hk : k = N 0 := by omega
          refine zTo_of gX6_layComes_44 ?_
          simp only [(M fr).1, r_rooms (M fr) (ML' fr), hk, nI_le (Nat.le_refl _) (show N 0 < 2 ^ 31 by omega), nI_1, zmp_s, zlt_s, zcV_s, zcI_s, zcJ_s, zcA_s, zcD_s, zcF_s, zth_n, zth_t, zrt_s, zQ_l, zQ_r, false_or, or_false, true_or, or_true, false_and, and_false, not_false_eq_true, not_true_eq_false, and_self, true_and, and_true, if_true, if_false, ite_true, ite_false, zgd_t]
          refine ih (s + 1) g (by omega) (by omega) fr X ?_
          rw [hk, hF, hnx, nP_step] at Y
          rw [hF]; exact Y
        | succ d ih2 =>
          intro k g hk fr X Y
          have hkn : k < N 0 := by omega
          have m1 := M fr
          have mr := r_rooms (M fr) (ML' fr)
          obtain ⟨g1, g2, g3, g4⟩ := nI_for hkn (by omega)
          have cv := Y s k hs2 hkn
          rw [tst_self] at cv
          have clt : F s s k < 2 ^ 40 := by rw [hFs]; exact nWW_lt hW hkn
          obtain ⟨t0, t3, tq, t1, t2, t4, t5, t6, t7, t8, t9, t10, t21, t22, t23, t25, n6, n7, n8, n9, n10, n11, n12, n13, n14, n15, n16, n17, n18⟩ := m1
          refine zTo_of gX6_layComes_44 ?_
          simp only [t0, mr, g1, t5, n9, ix11, nI_clamp (show 11 * s + k < 2 ^ 31 by omega), nI_lt0 (show 11 * s + k < 2 ^ 31 by omega), show ¬ 22528 ≤ 11 * s + k by omega, cv, zmp_s, zlt_s, zcV_s, zcI_s, zcJ_s, zcA_s, zcD_s, zcF_s, zth_n, zth_t, zrt_s, zQ_l, zQ_r, false_or, or_false, true_or, or_true, false_and, and_false, not_false_eq_true, not_true_eq_false, and_self, true_and, and_true, if_true, if_false, ite_true, ite_false, zgd_t]
          have loop : ∀ d j g, j + d = N 0 → zFr cmA h g → NXT g N (2 ^ N 0) → CMS g (N 0) (tst (F s) nx s k j) → zTo vX6_layComes rX6_layComes (59, [some (.ref 125), some (.int (nI s)), some (.int (nI k)), some (.long (lN (F s s k))), none, some (.int (nI j))], [], g) R := by
            intro d
            induction d with
            | zero =>
              intro j g hj fr X Y
              have hj : j = N 0 := by omega
              refine zTo_of gX6_layComes_59 ?_
              simp only [(M fr).1, r_rooms (M fr) (ML' fr), hj, nI_le (Nat.le_refl _) (show N 0 < 2 ^ 31 by omega), g4, zmp_s, zlt_s, zcV_s, zcI_s, zcJ_s, zcA_s, zcD_s, zcF_s, zth_n, zth_t, zrt_s, zQ_l, zQ_r, false_or, or_false, true_or, or_true, false_and, and_false, not_false_eq_true, not_true_eq_false, and_self, true_and, and_true, if_true, if_false, ite_true, ite_false, zgd_t]
              exact ih2 (k + 1) g (by omega) fr X (CMS_cg Y (fun S b q1 q2 => tst_next (n := N 0) (fun b hb hjb => by omega) S b q2))
            | succ d ih3 =>
              intro j g hj fr X Y
              have hjn : j < N 0 := by omega
              have m1 := M fr
              have mr := r_rooms (M fr) (ML' fr)
              obtain ⟨f1, f2, f3, f4⟩ := nI_for hjn (by omega)
              have xv := X s k hs0 hs2 hkn
              have xl := nxv_lt hW s k
              obtain ⟨t0, t3, tq, t1, t2, t4, t5, t6, t7, t8, t9, t10, t21, t22, t23, t25, n6, n7, n8, n9, n10, n11, n12, n13, n14, n15, n16, n17, n18⟩ := m1
              refine zTo_of gX6_layComes_59 ?_
              simp only [t0, mr, f1, lgle0 (show F s s k < 2 ^ 63 by omega), g4, t6, n10, ix11, nI_clamp (show 11 * s + k < 2 ^ 31 by omega), nI_lt0 (show 11 * s + k < 2 ^ 31 by omega), show ¬ 22528 ≤ 11 * s + k by omega, xv, r_has (show nxv N s k < 2 ^ 31 by omega) (show j < 32 by omega), nxv_bit (N := N) (S := s) (a := k) (show j < 32 by omega), zb_0, f4, zmp_s, zlt_s, zcV_s, zcI_s, zcJ_s, zcA_s, zcD_s, zcF_s, zth_n, zth_t, zrt_s, zQ_l, zQ_r, false_or, or_false, true_or, or_true, false_and, and_false, not_false_eq_true, not_true_eq_false, and_self, true_and, and_true, if_true, if_false, ite_true, ite_false, zgd_t]
              by_cases z : F s s k = 0
              · rw [if_pos z]
                simp only [zmp_s, zlt_s, zcV_s, zcI_s, zcJ_s, zcA_s, zcD_s, zcF_s, zth_n, zth_t, zrt_s, zQ_l, zQ_r]
                refine ih2 (k + 1) g (by omega) fr X (CMS_cg Y (fun S b q1 q2 => ?_))
                rw [tst_skip (n := N 0) z S b q2]
                unfold tst
                rw [z]; simp
              · rw [if_neg z]
                cases w : nnx N s k j
                · simp only [false_or, or_false, true_or, or_true, false_and, and_false, not_false_eq_true, not_true_eq_false, and_self, true_and, and_true, if_true, if_false, ite_true, ite_false, zmp_s, zlt_s, zcV_s, zcI_s, zcJ_s, zcA_s, zcD_s, zcF_s, zth_n, zth_t, zrt_s, zQ_l, zQ_r]
                  refine ih3 (j + 1) g (by omega) fr X ?_
                  rw [tst_no (by rw [hnx]; exact w)]; exact Y
                · obtain ⟨w1, w2⟩ := nnx_ok hW s k j w
                  have w3 := or_lt2 hs2 hjn
                  have yv := Y (s ||| 2 ^ j) j w3 hjn
                  simp only [Bool.true_eq_false, false_or, or_false, true_or, or_true, false_and, and_false, not_false_eq_true, not_true_eq_false, and_self, true_and, and_true, if_true, if_false, ite_true, ite_false, zmp_s, zlt_s, zcV_s, zcI_s, zcJ_s, zcA_s, zcD_s, zcF_s, zth_n, zth_t, zrt_s, zQ_l, zQ_r, t0, t5, n9, nx_shl1 (show j < 32 by omega), nx_or, ix11, nI_clamp (show 11 * (s ||| 2 ^ j) + j < 2 ^ 31 by omega), nI_lt0 (show 11 * (s ||| 2 ^ j) + j < 2 ^ 31 by omega), show ¬ 22528 ≤ 11 * (s ||| 2 ^ j) + j by omega, yv, lN_add, zgd_t]
                  refine ih3 (j + 1) _ (by omega) (fr.tr (zFr.sJ (Or.inl rfl))) (fun S a q1 q2 q3 => by rw [I_sJ]; exact X S a q1 q2 q3) ?_
                  rw [tst_add (by rw [hnx]; exact w) w2]
                  intro S b q1 q2
                  rw [J_sJs]
                  unfold tadd
                  by_cases q : S = s ||| 2 ^ j ∧ b = j
                  · rw [if_pos q, q.1, q.2, zput_self]
                  · rw [if_neg q, zput_ne _ _ (by omega)]; exact Y S b q1 q2
          exact loop (N 0) 0 g (by omega) fr X Y
      exact rows (N 0) 0 g (by omega) fr X (by rw [tst_0]; exact Y)
  obtain ⟨g0, e1, fr0, X0⟩ := r_layNexts m0 mL hW
  have fr0' : zFr cmA h g0 := fr0.mono (fun c hc => Or.inr hc)
  have zeros : ∀ d k g, k + d = 11 * 2 ^ N 0 → zFr cmA h g → NXT g N (2 ^ N 0) → (∀ i, i < k → zJ g 129 i = lN 0) → zTo vX6_layComes rX6_layComes (4, [some (.ref 125), some (.int (nI k)), none, none, none, none], [], g) R := by
    intro d
    induction d with
    | zero =>
      intro k g hk fr X Y
      have hk : k = 11 * 2 ^ N 0 := by omega
      have m1 := M fr
      have mw := r_whole (M fr) (ML' fr) h0
      have l2 := (ML' fr).at (i := 2) (by omega) (by omega)
      have e11 : (11 : Int32) * nI (2 ^ N 0) = nI (11 * 2 ^ N 0) := pk_mul 11 _
      have e12 : nI (2 ^ N 0 - 1 + 1) = nI (2 ^ N 0) := by congr 1; omega
      obtain ⟨t0, t3, tq, t1, t2, t4, t5, t6, t7, t8, t9, t10, t21, t22, t23, t25, n6, n7, n8, n9, n10, n11, n12, n13, n14, n15, n16, n17, n18⟩ := m1
      refine zTo_of gX6_layComes_4 ?_
      simp only [t0, mw, nI_1, e12, e11, hk, nI_le (Nat.le_refl _) (show 11 * 2 ^ N 0 < 2 ^ 31 by omega), t5, t3, tq, c_2, p_2, l2, show ¬ 149 ≤ 2 by omega, nx_shl1 (show N 2 < 32 by omega), n9, ix11, nI_clamp (show 11 * 2 ^ N 2 + N 2 < 2 ^ 31 by omega), nI_lt0 (show 11 * 2 ^ N 2 + N 2 < 2 ^ 31 by omega), show ¬ 22528 ≤ 11 * 2 ^ N 2 + N 2 by omega, zmp_s, zlt_s, zcV_s, zcI_s, zcJ_s, zcA_s, zcD_s, zcF_s, zth_n, zth_t, zrt_s, zQ_l, zQ_r, false_or, or_false, true_or, or_true, false_and, and_false, not_false_eq_true, not_true_eq_false, and_self, true_and, and_true, if_true, if_false, ite_true, ite_false, zgd_t]
      refine outer (2 ^ N 0 - 1) 1 _ (by omega) (by omega) (fr.tr (zFr.sJ (Or.inl rfl))) (fun S a q1 q2 q3 => by rw [I_sJ]; exact X S a q1 q2 q3) ?_
      rw [hF, nP_1 hst0]
      intro S b q1 q2
      rw [J_sJs]
      unfold fI
      by_cases q : S = 2 ^ N 2 ∧ b = N 2
      · rw [if_pos q, q.1, q.2, zput_self]; rfl
      · rw [if_neg q, zput_ne _ _ (by omega)]
        exact Y _ (by omega)
    | succ d ih =>
      intro k g hk fr X Y
      have m1 := M fr
      have mw := r_whole (M fr) (ML' fr) h0
      have e11 : (11 : Int32) * nI (2 ^ N 0) = nI (11 * 2 ^ N 0) := pk_mul 11 _
      have e12 : nI (2 ^ N 0 - 1 + 1) = nI (2 ^ N 0) := by congr 1; omega
      obtain ⟨f1, f2, f3, f4⟩ := nI_for (show k < 11 * 2 ^ N 0 by omega) (by omega)
      obtain ⟨t0, t3, tq, t1, t2, t4, t5, t6, t7, t8, t9, t10, t21, t22, t23, t25, n6, n7, n8, n9, n10, n11, n12, n13, n14, n15, n16, n17, n18⟩ := m1
      refine zTo_of gX6_layComes_4 ?_
      simp only [t0, mw, nI_1, e12, e11, f1, f2, f3, t5, n9, show ¬ 22528 ≤ k by omega, zmp_s, zlt_s, zcV_s, zcI_s, zcJ_s, zcA_s, zcD_s, zcF_s, zth_n, zth_t, zrt_s, zQ_l, zQ_r, false_or, or_false, true_or, or_true, false_and, and_false, not_false_eq_true, not_true_eq_false, and_self, true_and, and_true, if_true, if_false, ite_true, ite_false, zgd_t]
      refine ih (k + 1) _ (by omega) (fr.tr (zFr.sJ (Or.inl rfl))) (fun S a q1 q2 q3 => by rw [I_sJ]; exact X S a q1 q2 q3) (fun i hi => ?_)
      rw [J_sJs]
      by_cases q : i = k
      · rw [q, zput_self]; rfl
      · rw [zput_ne _ _ q]; exact Y i (by omega)
  have hsim : zW (sX6_layComes [.ref 125] h) R := by
    refine zsem_to (Nat.le_of_ble_eq_true rfl) (zTo_of gX6_layComes_0 ?_)
    simp only [m0.1, e1, zmp_s, zlt_s, zcV_s, zcI_s, zcJ_s, zcA_s, zcD_s, zcF_s, zth_n, zth_t, zrt_s, zQ_l, zQ_r, false_or, or_false, true_or, or_true, false_and, and_false, not_false_eq_true, not_true_eq_false, and_self, true_and, and_true, if_true, if_false, ite_true, ite_false, zgd_t]
    exact zeros (11 * 2 ^ N 0) 0 g0 (by omega) fr0' X0 (fun i hi => by omega)
  rw [hR] at hsim
  obtain ⟨o, k1, g, rfl, k2⟩ := hsim
  exact ⟨g, k1, k2⟩
theorem r_comesTo {h : zm_H} (m0 : moS h 126) {S a : Nat} (hS : S < 2048) (ha : a < 11) : sX6_comesTo [.ref 125, .int (nI S), .int (nI a)] h = some (.inl (some (.long (zJ h 129 (11 * S + a)))), h) := by
  obtain ⟨t0, t3, tq, t1, t2, t4, t5, t6, t7, t8, t9, t10, t21, t22, t23, t25, n6, n7, n8, n9, n10, n11, n12, n13, n14, n15, n16, n17, n18⟩ := m0
  refine zsem_eq (Nat.le_of_ble_eq_true rfl) (zTo_of gX6_comesTo_0 ?_)
  simp only [t0, t5, n9, ix11, nI_clamp (show 11 * S + a < 2 ^ 31 by omega), nI_lt0 (show 11 * S + a < 2 ^ 31 by omega), show ¬ 22528 ≤ 11 * S + a by omega, zmp_s, zlt_s, zcV_s, zcI_s, zcJ_s, zcA_s, zcD_s, zcF_s, zth_n, zth_t, zrt_s, zQ_l, zQ_r, false_or, or_false, true_or, or_true, false_and, and_false, not_false_eq_true, not_true_eq_false, and_self, true_and, and_true, if_true, if_false, ite_true, ite_false, zgd_t]
-- bits counted
set_option maxRecDepth 100000 in
theorem on_all : ∀ S, S < 2048 → S = 0 ∨ (S &&& (S - 1) < S ∧ npc (S &&& (S - 1)) 11 + 1 = npc S 11) := by decide +kernel
theorem r_ones {S : Nat} (hs : S < 2048) (h : zm_H) : sX6_ones [.int (nI S)] h = some (.inl (some (.int (nI (npc S 11)))), h) := by
  refine zsem_eq (Nat.le_of_ble_eq_true rfl) (zTo_of gX6_ones_0 ?_)
  have key : ∀ m L n, L ≤ m → L < 2048 → n + npc L 11 = npc S 11 → zTo vX6_ones rX6_ones (4, [none, some (.int (nI n)), some (.int (nI L))], [], h) (fun y => y = (.inl (some (.int (nI (npc S 11)))), h)) := by
    intro m
    induction m with
    | zero =>
      intro L n hL _ hn
      have hL : L = 0 := by omega
      subst hL
      refine zTo_of gX6_ones_4 ?_
      have z : npc 0 11 = 0 := by decide +kernel
      rw [z, Nat.add_zero] at hn
      rw [hn]
      simp only [nI_0, zmp_s, zlt_s, zcV_s, zcI_s, zcJ_s, zcA_s, zcD_s, zcF_s, zth_n, zth_t, zrt_s, zQ_l, zQ_r, false_or, or_false, true_or, or_true, false_and, and_false, not_false_eq_true, not_true_eq_false, and_self, true_and, and_true, if_true, if_false, ite_true, ite_false]
    | succ m ih =>
      intro L n hL hL2 hn
      refine zTo_of gX6_ones_4 ?_
      rcases on_all L hL2 with e | ⟨e1, e2⟩
      · subst e
        have z : npc 0 11 = 0 := by decide +kernel
        rw [z, Nat.add_zero] at hn
        rw [hn]
        simp only [nI_0, zmp_s, zlt_s, zcV_s, zcI_s, zcJ_s, zcA_s, zcD_s, zcF_s, zth_n, zth_t, zrt_s, zQ_l, zQ_r, false_or, or_false, true_or, or_true, false_and, and_false, not_false_eq_true, not_true_eq_false, and_self, true_and, and_true, if_true, if_false, ite_true, ite_false]
      · have e3 : ¬ L = 0 := fun x => by subst x; omega
        have e4 : nI L - (1 : Int32) = nI (L - 1) := pk_sub (b := 1) (by omega)
        simp only [nI_eq0 (show L < 2 ^ 31 by omega), e3, e4, nx_and, nI_1, zmp_s, zlt_s, zcV_s, zcI_s, zcJ_s, zcA_s, zcD_s, zcF_s, zth_n, zth_t, zrt_s, zQ_l, zQ_r, false_or, or_false, true_or, or_true, false_and, and_false, not_false_eq_true, not_true_eq_false, and_self, true_and, and_true, if_true, if_false, ite_true, ite_false]
        exact ih _ (n + 1) (by omega) (by omega) (by omega)
  exact key S S 0 (Nat.le_refl _) hs (by omega)
end ZMD
