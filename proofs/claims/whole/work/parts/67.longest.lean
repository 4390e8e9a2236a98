/-! THE MODEL: the longest walk. -/
section ZME
def loA : Nat → Prop := fun c => c = 130 ∨ c = 131
def IS (h : zm_H) (n : Nat) (F : Nat → Nat → Nat) : Prop := ∀ S b, S < 2 ^ n → b < n → zI h 131 (11 * S + b) = zb (decide (0 < F S b))
theorem IS_cg {h : zm_H} {n : Nat} {F G : Nat → Nat → Nat} (H : IS h n F) (e : ∀ S b, S < 2 ^ n → b < n → G S b = F S b) : IS h n G := fun S b q1 q2 => by rw [e S b q1 q2]; exact H S b q1 q2
theorem NXT_sI {h : zm_H} {N : zLv} {s i : Nat} {x : Int32} (X : NXT h N s) : NXT (zsI h 131 i x) N s := fun S a q1 q2 q3 => by rw [I_sIn (by omega)]; exact X S a q1 q2 q3
def mstp (N : zLv) (S0 a0 S acc : Nat) : Nat := if tmk (nWW N S0 a0) (N 0) S = 0 then acc else if acc < npc S (N 0) then npc S (N 0) else acc
theorem mstp_le {N : zLv} {S0 a0 : Nat} (h0 : N 0 ≤ 11) (n : Nat) : zfo (mstp N S0 a0) 0 n ≤ 11 := by
  refine zfo_ind (fun x => x ≤ 11) (by omega) n (fun i x _ hx => ?_)
  unfold mstp
  have := npc_le i (N 0)
  split
  · exact hx
  · split <;> omega
theorem r_longestFrom {h : zm_H} {N : zLv} {S0 a0 : Nat} (m0 : moS h 126) (mL : ML h 126 N) (hW : WB N) (hS0 : S0 < 2 ^ N 0) (ha0 : a0 < N 0) (hb0 : S0.testBit a0 = true) : ∃ g, sX6_longestFrom [.ref 125, .int (nI S0), .int (nI a0)] h = some (.inl (some (.int (nI (nmost N S0 a0)))), g) ∧ zFr loA h g := by
  have h0 := hW.1
  have h1 := hW.2.1
  have hp := pow_le h0
  have one := Nat.one_le_two_pow (n := N 0)
  have hS00 : 0 < S0 := by
    rcases Nat.eq_zero_or_pos S0 with e | e
    · rw [e, Nat.zero_testBit] at hb0; cases hb0
    · exact e
  obtain ⟨R, hR⟩ : ∃ R : zm_O → Prop, R = (fun o => ∃ g, o = (.inl (some (.int (nI (nmost N S0 a0)))), g) ∧ zFr loA h g) := ⟨_, rfl⟩
  have M := fun {g : zm_H} (fr : zFr loA h g) => moS_fr fr m0
  have ML' := fun {g : zm_H} (fr : zFr loA h g) => ML_fr fr (show ¬ loA 126 from fun x => by unfold loA at x; omega) mL
  obtain ⟨F, hF⟩ : ∃ F : Nat → Nat → Nat → Nat, F = nP (nnx N) (N 0) S0 a0 := ⟨_, rfl⟩
  have hFs : ∀ s k, F s s k = nWW N S0 a0 s k := fun s k => by rw [hF]; exact nP_at (Nat.le_refl _)
  have outer : ∀ d s g, s + d = 2 ^ N 0 → 0 < s → zFr loA h g → NXT g N (2 ^ N 0) → IS g (N 0) (F s) → zTo vX6_longestFrom rX6_longestFrom (32, [some (.ref 125), none, none, some (.int (nI (zfo (mstp N S0 a0) 0 s))), some (.int (nI s)), none, none], [], g) R := by
    intro d
    induction d with
    | zero =>
      intro s g hs _ fr X Y
      have hs : s = 2 ^ N 0 := by omega
      refine zTo_of gX6_longestFrom_32 ?_
      simp only [(M fr).1, r_whole (M fr) (ML' fr) h0, nI_lt (show 2 ^ N 0 - 1 < s by omega) (show s < 2 ^ 31 by omega), zmp_s, zlt_s, zcV_s, zcI_s, zcJ_s, zcA_s, zcD_s, zcF_s, zth_n, zth_t, zrt_s, zQ_l, zQ_r, false_or, or_false, true_or, or_true, false_and, and_false, not_false_eq_true, not_true_eq_false, and_self, true_and, and_true, if_true, if_false, ite_true, ite_false, zgd_t]
      rw [hR, hs]
      exact ⟨g, rfl, fr⟩
    | succ d ih =>
      intro s g hs hs0 fr X Y
      have hs2 : s < 2 ^ N 0 := by omega
      obtain ⟨m, hm⟩ : ∃ m, m = zfo (mstp N S0 a0) 0 s := ⟨_, rfl⟩
      have hm11 : m ≤ 11 := by rw [hm]; exact mstp_le h0 s
      obtain ⟨p, hpp⟩ : ∃ p, p = npc s (N 0) := ⟨_, rfl⟩
      have hp11 : p ≤ 11 := by
        have := npc_le s (N 0)
        omega
      have hpo : npc s 11 = p := by rw [hpp]; exact npc_wide hs2 h0
      obtain ⟨mk, hmk⟩ : ∃ mk : Nat → Nat, mk = fun k => if nmask (fun b => decide (0 < nWW N S0 a0 s b)) k = 0 then m else if m < p then p else m := ⟨_, rfl⟩
      have mk11 : ∀ k, mk k ≤ 11 := fun k => by
        rw [hmk]; dsimp only
        split
        · exact hm11
        · split <;> omega
      rw [← hm]
      refine zTo_of gX6_longestFrom_32 ?_
      simp only [(M fr).1, r_whole (M fr) (ML' fr) h0, nI_ltI (show 2 ^ N 0 - 1 < 2 ^ 31 by omega) (show s < 2 ^ 31 by omega), show ¬ 2 ^ N 0 - 1 < s by omega, zmp_s, zlt_s, zcV_s, zcI_s, zcJ_s, zcA_s, zcD_s, zcF_s, zth_n, zth_t, zrt_s, zQ_l, zQ_r, false_or, or_false, true_or, or_true, false_and, and_false, not_false_eq_true, not_true_eq_false, and_self, true_and, and_true, if_true, if_false, ite_true, ite_false, zgd_t]
      obtain ⟨nx, hnx⟩ : ∃ nx : Nat → Nat → Bool, nx = fun a b => nnx N s a b := ⟨_, rfl⟩
      have rows : ∀ d k g, k + d = N 0 → zFr loA h g → NXT g N (2 ^ N 0) → IS g (N 0) (tst (F s) nx s k 0) → zTo vX6_longestFrom rX6_longestFrom (38, [some (.ref 125), none, none, some (.int (nI (mk k))), some (.int (nI s)), some (.int (nI k)), none], [], g) R := by
        intro d
        induction d with
        | zero =>
          intro k g hk fr X Y
          have hk : k = N 0 := by omega
          refine zTo_of gX6_longestFrom_38 ?_
          simp only [(M fr).1, r_rooms (M fr) (ML' fr), hk, nI_le (Nat.le_refl _) (show N 0 < 2 ^ 31 by omega), nI_1, zmp_s, zlt_s, zcV_s, zcI_s, zcJ_s, zcA_s, zcD_s, zcF_s, zth_n, zth_t, zrt_s, zQ_l, zQ_r, false_or, or_false, true_or, or_true, false_and, and_false, not_false_eq_true, not_true_eq_false, and_self, true_and, and_true, if_true, if_false, ite_true, ite_false, zgd_t]
          have e : mk (N 0) = zfo (mstp N S0 a0) 0 (s + 1) := by
            rw [zfo_s, ← hm, hmk]
            unfold mstp tmk
            rw [← hpp]
          rw [e]
          refine ih (s + 1) g (by omega) (by omega) fr X ?_
          rw [hk, hF, hnx, nP_step] at Y
          rw [hF]; exact Y
        | succ d ih2 =>
          intro k g hk fr X Y
          have hkn : k < N 0 := by omega
          have m1 := M fr
          have mr := r_rooms (M fr) (ML' fr)
          obtain ⟨g1, g2, g3, g4⟩ := nI_for hkn (by omega)
          have cv := Y s k hs2 hkn
          rw [tst_self, hFs] at cv
          have mks : mk (k + 1) = if 0 < nWW N S0 a0 s k then (if m < p then p else m) else mk k := by
            rw [hmk]; dsimp only
            have e : nmask (fun b => decide (0 < nWW N S0 a0 s b)) (k + 1) = if decide (0 < nWW N S0 a0 s k) = true then nmask (fun b => decide (0 < nWW N S0 a0 s b)) k ||| 2 ^ k else nmask (fun b => decide (0 < nWW N S0 a0 s b)) k := rfl
            rw [e]
            have e2 : (nmask (fun b => decide (0 < nWW N S0 a0 s b)) k ||| 2 ^ k = 0) = False := eq_false (fun w => by
              have h1 := congrArg (fun y => Nat.testBit y k) w
              simp only [tb_or, Nat.zero_testBit] at h1
              simp at h1)
            by_cases z : 0 < nWW N S0 a0 s k
            · simp only [z, decide_true, if_true, e2, if_false]
            · simp only [z, decide_false, Bool.false_eq_true, if_false]
          obtain ⟨t0, t3, tq, t1, t2, t4, t5, t6, t7, t8, t9, t10, t21, t22, t23, t25, n6, n7, n8, n9, n10, n11, n12, n13, n14, n15, n16, n17, n18⟩ := m1
          refine zTo_of gX6_longestFrom_38 ?_
          simp only [t0, mr, g1, g4, t7, n11, ix11, nI_clamp (show 11 * s + k < 2 ^ 31 by omega), nI_lt0 (show 11 * s + k < 2 ^ 31 by omega), show ¬ 22528 ≤ 11 * s + k by omega, cv, zb_0, r_ones (show s < 2048 by omega), hpo, zmp_s, zlt_s, zcV_s, zcI_s, zcJ_s, zcA_s, zcD_s, zcF_s, zth_n, zth_t, zrt_s, zQ_l, zQ_r, false_or, or_false, true_or, or_true, false_and, and_false, not_false_eq_true, not_true_eq_false, and_self, true_and, and_true, if_true, if_false, ite_true, ite_false, zgd_t]
          by_cases z : 0 < nWW N S0 a0 s k
          · simp only [z, decide_true, Bool.true_eq_false, false_or, or_false, true_or, or_true, false_and, and_false, not_false_eq_true, not_true_eq_false, and_self, true_and, and_true, if_true, if_false, ite_true, ite_false, zmp_s, zlt_s, zcV_s, zcI_s, zcJ_s, zcA_s, zcD_s, zcF_s, zth_n, zth_t, zrt_s, zQ_l, zQ_r]
            have e : (if nI (mk k) < nI p then nI p else nI (mk k)) = nI (mk (k + 1)) := by
              rw [mks, if_pos z]
              simp only [nI_ltI (show mk k < 2 ^ 31 by have := mk11 k; omega) (show p < 2 ^ 31 by omega)]
              rw [hmk]; dsimp only
              by_cases q1 : nmask (fun b => decide (0 < nWW N S0 a0 s b)) k = 0
              · simp only [q1, if_true]; split <;> rfl
              · simp only [q1, if_false]
                by_cases q2 : m < p
                · simp only [q2, if_true, Nat.lt_irrefl, if_false]
                · simp only [q2, if_false]
            rw [e]
            have loop : ∀ d j g, j + d = N 0 → zFr loA h g → NXT g N (2 ^ N 0) → IS g (N 0) (tst (F s) nx s k j) → zTo vX6_longestFrom rX6_longestFrom (59, [some (.ref 125), none, none, some (.int (nI (mk (k + 1)))), some (.int (nI s)), some (.int (nI k)), some (.int (nI j))], [], g) R := by
              intro d
              induction d with
              | zero =>
                intro j g hj fr X Y
                have hj : j = N 0 := by omega
                refine zTo_of gX6_longestFrom_59 ?_
                simp only [(M fr).1, r_rooms (M fr) (ML' fr), hj, nI_le (Nat.le_refl _) (show N 0 < 2 ^ 31 by omega), g4, zmp_s, zlt_s, zcV_s, zcI_s, zcJ_s, zcA_s, zcD_s, zcF_s, zth_n, zth_t, zrt_s, zQ_l, zQ_r, false_or, or_false, true_or, or_true, false_and, and_false, not_false_eq_true, not_true_eq_false, and_self, true_and, and_true, if_true, if_false, ite_true, ite_false, zgd_t]
                exact ih2 (k + 1) g (by omega) fr X (IS_cg Y (fun S b q1 q2 => tst_next (n := N 0) (fun b hb hjb => by omega) S b q2))
              | succ d ih3 =>
                intro j g hj fr X Y
                have hjn : j < N 0 := by omega
                have m1 := M fr
                have mr := r_rooms (M fr) (ML' fr)
                obtain ⟨f1, f2, f3, f4⟩ := nI_for hjn (by omega)
                have xv := X s k hs0 hs2 hkn
                have xl := nxv_lt hW s k
                obtain ⟨t0, t3, tq, t1, t2, t4, t5, t6, t7, t8, t9, t10, t21, t22, t23, t25, n6, n7, n8, n9, n10, n11, n12, n13, n14, n15, n16, n17, n18⟩ := m1
                refine zTo_of gX6_longestFrom_59 ?_
                simp only [t0, mr, f1, t6, n10, ix11, nI_clamp (show 11 * s + k < 2 ^ 31 by omega), nI_lt0 (show 11 * s + k < 2 ^ 31 by omega), show ¬ 22528 ≤ 11 * s + k by omega, xv, r_has (show nxv N s k < 2 ^ 31 by omega) (show j < 32 by omega), nxv_bit (N := N) (S := s) (a := k) (show j < 32 by omega), zb_0, f4, zmp_s, zlt_s, zcV_s, zcI_s, zcJ_s, zcA_s, zcD_s, zcF_s, zth_n, zth_t, zrt_s, zQ_l, zQ_r, false_or, or_false, true_or, or_true, false_and, and_false, not_false_eq_true, not_true_eq_false, and_self, true_and, and_true, if_true, if_false, ite_true, ite_false, zgd_t]
                cases w : nnx N s k j
                · simp only [false_or, or_false, true_or, or_true, false_and, and_false, not_false_eq_true, not_true_eq_false, and_self, true_and, and_true, if_true, if_false, ite_true, ite_false, zmp_s, zlt_s, zcV_s, zcI_s, zcJ_s, zcA_s, zcD_s, zcF_s, zth_n, zth_t, zrt_s, zQ_l, zQ_r]
                  refine ih3 (j + 1) g (by omega) fr X ?_
                  rw [tst_no (by rw [hnx]; exact w)]; exact Y
                · obtain ⟨w1, w2⟩ := nnx_ok hW s k j w
                  have w3 := or_lt2 hs2 hjn
                  simp only [Bool.true_eq_false, false_or, or_false, true_or, or_true, false_and, and_false, not_false_eq_true, not_true_eq_false, and_self, true_and, and_true, if_true, if_false, ite_true, ite_false, zmp_s, zlt_s, zcV_s, zcI_s, zcJ_s, zcA_s, zcD_s, zcF_s, zth_n, zth_t, zrt_s, zQ_l, zQ_r, t0, t7, n11, nx_shl1 (show j < 32 by omega), nx_or, ix11, nI_clamp (show 11 * (s ||| 2 ^ j) + j < 2 ^ 31 by omega), nI_lt0 (show 11 * (s ||| 2 ^ j) + j < 2 ^ 31 by omega), show ¬ 22528 ≤ 11 * (s ||| 2 ^ j) + j by omega, zgd_t]
                  refine ih3 (j + 1) _ (by omega) (fr.tr (zFr.sI (Or.inr rfl))) (NXT_sI X) ?_
                  rw [tst_add (by rw [hnx]; exact w) w2]
                  intro S b q1 q2
                  rw [I_sIs]
                  unfold tadd
                  by_cases q : S = s ||| 2 ^ j ∧ b = j
                  · rw [if_pos q, q.1, q.2, zput_self]
                    have : 0 < F s s k := by rw [hFs]; exact z
                    have e2 : 0 < tst (F s) nx s k j (s ||| 2 ^ j) j + F s s k := by omega
                    simp only [e2, decide_true]; rfl
                  · rw [if_neg q, zput_ne _ _ (by omega)]; exact Y S b q1 q2
            exact loop (N 0) 0 g (by omega) fr X Y
          · simp only [z, decide_false, false_or, or_false, true_or, or_true, false_and, and_false, not_false_eq_true, not_true_eq_false, and_self, true_and, and_true, if_true, if_false, ite_true, ite_false, zmp_s, zlt_s, zcV_s, zcI_s, zcJ_s, zcA_s, zcD_s, zcF_s, zth_n, zth_t, zrt_s, zQ_l, zQ_r]
            have e : mk k = mk (k + 1) := by rw [mks, if_neg z]
            rw [e]
            refine ih2 (k + 1) g (by omega) fr X (IS_cg Y (fun S b q1 q2 => ?_))
            exact tst_skip (n := N 0) (by rw [hFs]; omega) S b q2
      have e : m = mk 0 := by rw [hmk]; rfl
      rw [e]
      exact rows (N 0) 0 g (by omega) fr X (by rw [tst_0]; exact Y)
  obtain ⟨g0, e1, fr0, X0⟩ := r_layNexts m0 mL hW
  have fr0' : zFr loA h g0 := fr0.mono (fun c hc => Or.inl hc)
  have zeros : ∀ d k g, k + d = 11 * 2 ^ N 0 → zFr loA h g → NXT g N (2 ^ N 0) → (∀ i, i < k → zI g 131 i = 0) → zTo vX6_longestFrom rX6_longestFrom (4, [some (.ref 125), some (.int (nI S0)), some (.int (nI a0)), some (.int (nI k)), none, none, none], [], g) R := by
    intro d
    induction d with
    | zero =>
      intro k g hk fr X Y
      have hk : k = 11 * 2 ^ N 0 := by omega
      have m1 := M fr
      have mw := r_whole (M fr) (ML' fr) h0
      have e11 : (11 : Int32) * nI (2 ^ N 0) = nI (11 * 2 ^ N 0) := pk_mul 11 _
      have e12 : nI (2 ^ N 0 - 1 + 1) = nI (2 ^ N 0) := by congr 1; omega
      obtain ⟨t0, t3, tq, t1, t2, t4, t5, t6, t7, t8, t9, t10, t21, t22, t23, t25, n6, n7, n8, n9, n10, n11, n12, n13, n14, n15, n16, n17, n18⟩ := m1
      refine zTo_of gX6_longestFrom_4 ?_
      simp only [t0, mw, nI_1, e12, e11, hk, nI_le (Nat.le_refl _) (show 11 * 2 ^ N 0 < 2 ^ 31 by omega), t7, n11, ix11, nI_clamp (show 11 * S0 + a0 < 2 ^ 31 by omega), nI_lt0 (show 11 * S0 + a0 < 2 ^ 31 by omega), show ¬ 22528 ≤ 11 * S0 + a0 by omega, zmp_s, zlt_s, zcV_s, zcI_s, zcJ_s, zcA_s, zcD_s, zcF_s, zth_n, zth_t, zrt_s, zQ_l, zQ_r, false_or, or_false, true_or, or_true, false_and, and_false, not_false_eq_true, not_true_eq_false, and_self, true_and, and_true, if_true, if_false, ite_true, ite_false, zgd_t]
      have z : zfo (mstp N S0 a0) 0 S0 = 0 := by
        refine zfo_ind (fun x => x = 0) rfl S0 (fun i x hi hx => ?_)
        unfold mstp
        rw [if_pos (show tmk (nWW N S0 a0) (N 0) i = 0 from tmk_eq0.mpr (fun a _ => nW_low i a hi))]
        exact hx
      have e0 : (0 : Int32) = nI (zfo (mstp N S0 a0) 0 S0) := by rw [z]; rfl
      rw [e0]
      refine outer (2 ^ N 0 - S0) S0 _ (by omega) hS00 (fr.tr (zFr.sI (Or.inr rfl))) (NXT_sI X) ?_
      rw [hF, nP_start]
      intro S b q1 q2
      rw [I_sIs]
      unfold fI
      by_cases q : S = S0 ∧ b = a0
      · rw [if_pos q, q.1, q.2, zput_self]; rfl
      · rw [if_neg q, zput_ne _ _ (by omega)]
        exact Y _ (by omega)
    | succ d ih =>
      intro k g hk fr X Y
      have m1 := M fr
      have mw := r_whole (M fr) (ML' fr) h0
      have e11 : (11 : Int32) * nI (2 ^ N 0) = nI (11 * 2 ^ N 0) := pk_mul 11 _
      have e12 : nI (2 ^ N 0 - 1 + 1) = nI (2 ^ N 0) := by congr 1; omega
      obtain ⟨f1, f2, f3, f4⟩ := nI_for (show k < 11 * 2 ^ N 0 by omega) (by omega)
      obtain ⟨t0, t3, tq, t1, t2, t4, t5, t6, t7, t8, t9, t10, t21, t22, t23, t25, n6, n7, n8, n9, n10, n11, n12, n13, n14, n15, n16, n17, n18⟩ := m1
      refine zTo_of gX6_longestFrom_4 ?_
      simp only [t0, mw, nI_1, e12, e11, f1, f2, f3, t7, n11, show ¬ 22528 ≤ k by omega, zmp_s, zlt_s, zcV_s, zcI_s, zcJ_s, zcA_s, zcD_s, zcF_s, zth_n, zth_t, zrt_s, zQ_l, zQ_r, false_or, or_false, true_or, or_true, false_and, and_false, not_false_eq_true, not_true_eq_false, and_self, true_and, and_true, if_true, if_false, ite_true, ite_false, zgd_t]
      refine ih (k + 1) _ (by omega) (fr.tr (zFr.sI (Or.inr rfl))) (NXT_sI X) (fun i hi => ?_)
      rw [I_sIs]
      by_cases q : i = k
      · rw [q, zput_self]
      · rw [zput_ne _ _ q]; exact Y i (by omega)
  have hsim : zW (sX6_longestFrom [.ref 125, .int (nI S0), .int (nI a0)] h) R := by
    refine zsem_to (Nat.le_of_ble_eq_true rfl) (zTo_of gX6_longestFrom_0 ?_)
    simp only [m0.1, e1, zmp_s, zlt_s, zcV_s, zcI_s, zcJ_s, zcA_s, zcD_s, zcF_s, zth_n, zth_t, zrt_s, zQ_l, zQ_r, false_or, or_false, true_or, or_true, false_and, and_false, not_false_eq_true, not_true_eq_false, and_self, true_and, and_true, if_true, if_false, ite_true, ite_false, zgd_t]
    exact zeros (11 * 2 ^ N 0) 0 g0 (by omega) fr0' X0 (fun i hi => by omega)
  rw [hR] at hsim
  obtain ⟨o, k1, g, rfl, k2⟩ := hsim
  exact ⟨g, k1, k2⟩
end ZME
