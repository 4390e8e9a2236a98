/-! THE LAW: round by round. -/
section ZLW
section
variable {h : zm_H} {N : zLv} {P : List zLv}
theorem npc_all {S : Nat} : ∀ n, npc S n = n → ∀ k, k < n → S.testBit k = true := by
  intro n
  induction n with
  | zero => intro _ k hk; omega
  | succ n ih =>
    intro e k hk
    have l := npc_le S n
    have e : npc S n + (if S.testBit n then 1 else 0) = n + 1 := e
    by_cases b : S.testBit n = true
    · rw [if_pos b] at e
      by_cases w : k = n
      · subst w; exact b
      · exact ih (by omega) k (by omega)
    · rw [if_neg b] at e; omega
/-- a walk completed is one tour -/
theorem cm_one (hF : WF N) (h0 : nCo N ≠ 0) : WF (nCm N) ∧ nCm N 4 = N 0 ∧ nCm N 0 = N 0 ∧ nCo (nCm N) = 1 := by
  obtain ⟨v, pc, re, hM⟩ := nCm_ok hF h0
  have hW := hF.1
  have n4 := hF.2.2.2.2.1
  have n4b := hF.2.2.2.2.2.1
  have m4 : nCm N 4 = N 0 := nWl_4
  have m0 : nCm N 0 = N 0 := nCm_0 hF
  have mc : ∀ i, i < 4 ∨ 16 ≤ i → nCm N i = N i := fun i hi => nWl_lo hW.1 hi
  have tt := nTT_cg mc
  refine ⟨hM, m4, m0, ?_⟩
  obtain ⟨f, hf⟩ : ∃ f, f = nFl N (nwk N) (N 4) 0 := ⟨_, rfl⟩
  obtain ⟨a, b, c, d⟩ := nFl_it hW n4 v pc (N 0 - N 4) (by omega)
  rw [show N 4 + (N 0 - N 4) = N 0 by omega, ← hf] at a b
  obtain ⟨c1, c2, c3, c4⟩ := c
  rw [a, b] at c4
  have pcM := hM.pc (nCm N 4 - 1) (by rw [m4]; omega)
  rw [m4, m0, show N 0 - 1 + 1 = N 0 by omega] at pcM
  have wl : nwk (nCm N) (N 0 - 1) = f (N 0 - 1) := by
    rw [hf]; exact nWl_at (by omega)
  have lst : nCm N (4 + nCm N 4) = f (N 0 - 1) := by
    rw [m4, ← wl]
    unfold nwk
    rw [show 5 + (N 0 - 1) = 4 + N 0 by omega]
  have st : nset (nCm N) = nsk f (N 0) := by
    rw [nset_nsk, m4]
    exact nsk_cg (N 0) (fun i hi => by rw [hf]; exact nWl_at hi)
  have sl := hM.nset_lt
  rw [m0] at sl
  have full : nset (nCm N) = 2 ^ N 0 - 1 := (full_iff sl).mpr (npc_all (N 0) (by rw [nset_nsk, m4]; exact pcM))
  unfold nCo
  rw [lst, tt, full]
  rw [← st, full] at c4
  rw [nTT_full hW] at c4 ⊢
  by_cases w : nme N (f (N 0 - 1)) = true
  · rw [if_pos w]
  · rw [if_neg w] at c4; omega
theorem rk_lt (hF : WF N) : nah N (nwk N) (N 4) < 2 ^ 60 := by
  have n11 := hF.1.1
  have n4 := hF.2.2.2.2.1
  have n4b := hF.2.2.2.2.2.1
  have b1 : ∀ k, k < N 4 - 1 → zsu (ncn N (nsk (nwk N) (k + 1)) (nwk N k)) (nwk N (k + 1)) ≤ 11 * 2 ^ 40 := by
    intro k hk
    have wk := hF.wk (show k + 1 < N 4 by omega)
    have q := zsu_bound (f := ncn N (nsk (nwk N) (k + 1)) (nwk N k)) (nwk N (k + 1)) (2 ^ 40) (fun i hi => by
      unfold ncn
      split
      · exact Nat.le_of_lt (nTT_lt hF.1 (or_lt2 (hF.set_lt (show k + 1 ≤ N 4 by omega)) (by omega)) i)
      · exact Nat.zero_le _)
    exact Nat.le_trans q (Nat.mul_le_mul_right _ (by omega))
  have q := zsu_bound (f := fun k => zsu (ncn N (nsk (nwk N) (k + 1)) (nwk N k)) (nwk N (k + 1))) (N 4 - 1) (11 * 2 ^ 40) b1
  have q2 : (N 4 - 1) * (11 * 2 ^ 40) ≤ 11 * (11 * 2 ^ 40) := Nat.mul_le_mul_right _ (by omega)
  have q3 : nah N (nwk N) (N 4) = zsu (fun k => zsu (ncn N (nsk (nwk N) (k + 1)) (nwk N k)) (nwk N (k + 1))) (N 4 - 1) := rfl
  rw [q3]
  exact Nat.lt_of_le_of_lt (Nat.le_trans q q2) (by decide)
end
section
variable {sc : Nat × (Nat → Int32)}
abbrev wT (sc : Nat × (Nat → Int32)) (k : Nat) (t : zm_T) (R : zm_O → Prop) : Prop := zTJ (vL_law sc) rL_law jL_law k t R
def RL1 (y : zm_O) : Prop := ∃ g, y = (.inl (some (.int 1)), g)
abbrev z18 (k : Nat) (h : zm_H) : zm_T := (18, [some (.ref 2000000), some (.ref 0), some (.int (nI k)), none, none, none], [], h)
theorem w_stands' {h : zm_H} (L : LR h) : ∃ g, sL_stands [.ref 0] h = some (.inl (some (.int 1)), g) ∧ LR g := by
  obtain ⟨N, P, c, H, h6⟩ := L
  obtain ⟨g, e, Q⟩ := w_stands c h6
  exact ⟨g, e, LR_q c H h6 Q⟩
theorem w_sums' {h : zm_H} (L : LR h) : ∃ g, sL_sums [.ref 0] h = some (.inl (some (.int 1)), g) ∧ LR g := by
  obtain ⟨N, P, c, H, h6⟩ := L
  obtain ⟨g, e, Q⟩ := w_sums c h6
  exact ⟨g, e, LR_q c H h6 Q⟩
theorem w_loop (hs : sc.1 < 2 ^ 31) : ∀ m k h, k + 3 * m = 198 → LR h → wT sc m (z18 k h) RL1 := by
  intro m
  induction m with
  | zero =>
    intro k h e L
    have : k = 198 := by omega
    subst this
    refine zTJ_of gL_law_18 ?_
    have e1 : ((200 : Int32) ≤ nI 198 + (2 : Int32)) = True := eq_true (by decide)
    simp only [e1, zmp_s, zlt_s, zcV_s, zcI_s, zcJ_s, zcA_s, zcD_s, zcF_s, zth_n, zth_t, zrt_s, zQ_l, zQ_r, false_or, or_false, true_or, or_true, false_and, and_false, not_false_eq_true, not_true_eq_false, and_self, true_and, and_true, if_true, if_false, ite_true, ite_false, zgd_t]
    exact ⟨h, rfl⟩
  | succ m ih =>
    intro k h e L
    have e1 : ((200 : Int32) ≤ nI k + (2 : Int32)) = False := by
      rw [show nI k + (2 : Int32) = nI (k + 2) from nI_add k 2]
      exact eq_false (nI_ge (a := k + 2) (b := 200) (by omega) (by omega))
    obtain ⟨v, g1, a1, L1⟩ := w_act (k := k) hs (by omega) L
    obtain ⟨g2, a2, L2⟩ := w_stands' L1
    have z10 : ((1 : Int32) = 0) = False := i10
    have d2 : (¬ (2 : Int32) = 0) = True := eq_true (by decide)
    have d9 : (¬ (9 : Int32) = 0) = True := eq_true (by decide)
    have r2 : nI k - nI k / (2 : Int32) * (2 : Int32) = nI (k % 2) := rm3 (d := 2) (by omega) (by omega) (by omega)
    have r9 : nI k - nI k / (9 : Int32) * (9 : Int32) = nI (k % 9) := rm3 (d := 9) (by omega) (by omega) (by omega)
    have q2 := nI_eq0 (n := k % 2) (by omega)
    have q9 := nI_eq0 (n := k % 9) (by omega)
    have k3 : nI k + (3 : Int32) = nI (k + 3) := nI_add k 3
    have l00 : (0 : Int64) = lN 0 := by decide +kernel
    have l01 : (1 : Int64) = lN 1 := by decide +kernel
    have nx : ∀ h, LR h → zQJ (vL_law sc) rL_law jL_law (m + 1) RL1 (some (.inl (79, [some (.ref 2000000), some (.ref 0), some (.int (nI (k + 3))), none, none, none], [], h))) := fun h L => zQJ_b (hd := 18) rfl (ih (k + 3) h (by omega) L)
    -- behind the sums
    have tail : ∀ g, LR g → ∃ N g3, sX5_completions [.ref 0] g = some (.inl (some (.long (lN (nCo N)))), g3) ∧ nCo N < 2 ^ 40 ∧ (zK g 0).1 = 11 ∧ (zK g3 0).1 = 11 ∧ LR g3 ∧ (nCo N ≠ 0 → ∃ v g4 g5 g6 x g7, sX5_complete [.ref 0] g3 = some (.inl (some (.int v)), g4) ∧ (zK g4 0).1 = 11 ∧ sX5_property [.ref 0, .int (4 : Int32)] g4 = some (.inl (some (.int (nI (N 0)))), g4) ∧ sX5_property [.ref 0, .int (0 : Int32)] g4 = some (.inl (some (.int (nI (N 0)))), g4) ∧ sX5_rank [.ref 0] g4 = some (.inl (some (.long (lN x))), g5) ∧ x < 2 ^ 60 ∧ (zK g5 0).1 = 11 ∧ sX5_completions [.ref 0] g5 = some (.inl (some (.long (1 : Int64))), g6) ∧ (zK g6 0).1 = 11 ∧ ∃ u, sX5_undo [.ref 0] g6 = some (.inl (some (.int (nI u))), g7) ∧ u < 2 ^ 31 ∧ LR g7) := by
      intro g L
      obtain ⟨N, P, c, H, h6⟩ := L
      obtain ⟨g3, s3, Q3⟩ := m_completions c
      have c3 := c.go Q3
      have H3 := HH_fr Q3.1 (fun c h1 h2 => by unfold scA; omega) H
      have hF := c.2.2.1
      have c40 : nCo N < 2 ^ 40 := nTT_lt hF.1 hF.nset_lt _
      refine ⟨N, g3, s3, c40, by rw [c.1.1], by rw [c3.1.1], ⟨N, P, c3, H3, h6⟩, fun h0 => ?_⟩
      obtain ⟨g4, s4, T4⟩ := m_complete c3 H3 h0
      have c4 := T4.2.2.2.1
      have H4 := T4.2.2.2.2
      obtain ⟨hM, m4, m0, m1⟩ := cm_one hF h0
      obtain ⟨g5, s5, Q5⟩ := m_rank c4
      have c5 := c4.go Q5
      have H5 := HH_fr Q5.1 (fun c h1 h2 => by unfold scA; omega) H4
      have ek : nRk (nCm N) = lN (nah (nCm N) (nwk (nCm N)) (nCm N 4)) := by
        unfold nRk
        rw [if_neg (by rw [m4, m0, m1]; omega)]
      rw [ek] at s5
      obtain ⟨g6, s6, Q6⟩ := m_completions c5
      have c6 := c5.go Q6
      have H6 := HH_fr Q6.1 (fun c h1 h2 => by unfold scA; omega) H5
      rw [m1, ← l01] at s6
      obtain ⟨g7, s7, T7⟩ := m_undo c6 H6
      have p4 := w_p4 c4
      rw [m4] at p4
      have p0 := w_p0 c4
      rw [m0] at p0
      have c7 := T7.2.2.2.1
      have H7 := T7.2.2.2.2
      have pl := H7.1
      exact ⟨_, g4, g5, g6, _, g7, s4, by rw [c4.1.1], p4, p0, s5, rk_lt hM, by rw [c5.1.1], s6, by rw [c6.1.1], _, s7, by omega, _, _, c7, H7, h6⟩
    have rf : ∀ x : Int32, (x = x) = True := fun x => eq_true rfl
    have l11 : (lg_cmp (1 : Int64) (1 : Int64) = 0) = True := by rw [lg0]; exact eq_true rfl
    refine zTJ_of gL_law_18 ?_
    by_cases w2 : k % 2 = 0
    · have v2 : (k % 2 = 0) = True := eq_true w2
      obtain ⟨g2', a2', L2'⟩ := w_sums' L2
      obtain ⟨N, g3, s3, c40, k2, k3', L3, more⟩ := tail g2' L2'
      have z : (lg_cmp (lN (nCo N)) (0 : Int64) = 0) = (nCo N = 0) := by
        rw [lg0, l00]; exact propext (pk_lEQ (by omega) (by omega))
      by_cases w : nCo N = 0
      · have v1 : (nCo N = 0) = True := eq_true w
        simp only [e1, a1, a2, z10, d2, r2, q2, v2, a2', k2, s3, z, v1, k3, zmp_s, zlt_s, zcV_s, zcI_s, zcJ_s, zcA_s, zcD_s, zcF_s, zth_n, zth_t, zrt_s, zQ_l, zQ_r, false_or, or_false, true_or, or_true, false_and, and_false, not_false_eq_true, not_true_eq_false, and_self, true_and, and_true, if_true, if_false, ite_true, ite_false, zgd_t]
        exact nx g3 L3
      · have v1 : (nCo N = 0) = False := eq_false w
        by_cases w9 : k % 9 = 0
        · have v9 : (k % 9 = 0) = True := eq_true w9
          obtain ⟨v, g4, g5, g6, x, g7, s4, k4, p4, p0, s5, x60, k5, s6, k6, u, s7, u31, L7⟩ := more w
          have n0 : (lg_cmp (lN x) (0 : Int64) < 0) = False := eq_false (by
            rw [lg_cmp_lt, l00, pk_lLT (Nat.lt_trans x60 (by decide)) (by decide)]; exact Nat.not_lt_zero x)
          have u0 : ((0 : Int32) ≤ nI u) = True := nI_0le u31
          simp only [e1, a1, a2, z10, d2, r2, q2, v2, a2', k2, s3, z, v1, d9, r9, q9, v9, k3', s4, k4, p4, p0, rf, s5, n0, k5, s6, l11, k6, s7, u0, k3, zmp_s, zlt_s, zcV_s, zcI_s, zcJ_s, zcA_s, zcD_s, zcF_s, zth_n, zth_t, zrt_s, zQ_l, zQ_r, false_or, or_false, true_or, or_true, false_and, and_false, not_false_eq_true, not_true_eq_false, and_self, true_and, and_true, if_true, if_false, ite_true, ite_false, zgd_t]
          exact nx g7 L7
        · have v9 : (k % 9 = 0) = False := eq_false w9
          simp only [e1, a1, a2, z10, d2, r2, q2, v2, a2', k2, s3, z, v1, d9, r9, q9, v9, k3, zmp_s, zlt_s, zcV_s, zcI_s, zcJ_s, zcA_s, zcD_s, zcF_s, zth_n, zth_t, zrt_s, zQ_l, zQ_r, false_or, or_false, true_or, or_true, false_and, and_false, not_false_eq_true, not_true_eq_false, and_self, true_and, and_true, if_true, if_false, ite_true, ite_false, zgd_t]
          exact nx g3 L3
    · have v2 : (k % 2 = 0) = False := eq_false w2
      obtain ⟨N, g3, s3, c40, k2, k3', L3, more⟩ := tail g2 L2
      have z : (lg_cmp (lN (nCo N)) (0 : Int64) = 0) = (nCo N = 0) := by
        rw [lg0, l00]; exact propext (pk_lEQ (by omega) (by omega))
      by_cases w : nCo N = 0
      · have v1 : (nCo N = 0) = True := eq_true w
        simp only [e1, a1, a2, z10, d2, r2, q2, v2, k2, s3, z, v1, k3, zmp_s, zlt_s, zcV_s, zcI_s, zcJ_s, zcA_s, zcD_s, zcF_s, zth_n, zth_t, zrt_s, zQ_l, zQ_r, false_or, or_false, true_or, or_true, false_and, and_false, not_false_eq_true, not_true_eq_false, and_self, true_and, and_true, if_true, if_false, ite_true, ite_false, zgd_t]
        exact nx g3 L3
      · have v1 : (nCo N = 0) = False := eq_false w
        by_cases w9 : k % 9 = 0
        · have v9 : (k % 9 = 0) = True := eq_true w9
          obtain ⟨v, g4, g5, g6, x, g7, s4, k4, p4, p0, s5, x60, k5, s6, k6, u, s7, u31, L7⟩ := more w
          have n0 : (lg_cmp (lN x) (0 : Int64) < 0) = False := eq_false (by
            rw [lg_cmp_lt, l00, pk_lLT (Nat.lt_trans x60 (by decide)) (by decide)]; exact Nat.not_lt_zero x)
          have u0 : ((0 : Int32) ≤ nI u) = True := nI_0le u31
          simp only [e1, a1, a2, z10, d2, r2, q2, v2, k2, s3, z, v1, d9, r9, q9, v9, k3', s4, k4, p4, p0, rf, s5, n0, k5, s6, l11, k6, s7, u0, k3, zmp_s, zlt_s, zcV_s, zcI_s, zcJ_s, zcA_s, zcD_s, zcF_s, zth_n, zth_t, zrt_s, zQ_l, zQ_r, false_or, or_false, true_or, or_true, false_and, and_false, not_false_eq_true, not_true_eq_false, and_self, true_and, and_true, if_true, if_false, ite_true, ite_false, zgd_t]
          exact nx g7 L7
        · have v9 : (k % 9 = 0) = False := eq_false w9
          simp only [e1, a1, a2, z10, d2, r2, q2, v2, k2, s3, z, v1, d9, r9, q9, v9, k3, zmp_s, zlt_s, zcV_s, zcI_s, zcJ_s, zcA_s, zcD_s, zcF_s, zth_n, zth_t, zrt_s, zQ_l, zQ_r, false_or, or_false, true_or, or_true, false_and, and_false, not_false_eq_true, not_true_eq_false, and_self, true_and, and_true, if_true, if_false, ite_true, ite_false, zgd_t]
          exact nx g3 L3
theorem w_law {h : zm_H} (hs : sc.1 < 2 ^ 31) (hN : zN h = 0) : wT sc 36 (0, [some (.ref 2000000), none, none, none, none, none], [], h) RL1 := by
  obtain ⟨g1, s1, n1, c1, H1, B1⟩ := k_start hN
  obtain ⟨g2, s2, L2⟩ := w_load (sc := sc) hs c1 H1 B1 n1
  obtain ⟨g3, s3, L3⟩ := w_stands' L2
  obtain ⟨g4, s4, L4⟩ := w_sums' L3
  have z10 : ((1 : Int32) = 0) = False := i10
  refine zTJ_of gL_law_0 ?_
  simp only [hN, show 0 < 900000 by omega, s1, s2, s3, s4, z10, zmp_s, zlt_s, zcV_s, zcI_s, zcJ_s, zcA_s, zcD_s, zcF_s, zth_n, zth_t, zrt_s, zQ_l, zQ_r, false_or, or_false, true_or, or_true, false_and, and_false, not_false_eq_true, not_true_eq_false, and_self, true_and, and_true, if_true, if_false, ite_true, ite_false, zgd_t]
  refine zQJ_l rfl ?_
  exact w_loop (sc := sc) hs 36 90 g4 (by omega) L4
end
end ZLW
