/-! THE MODEL: tours from all sets laid. -/
section ZMC
def wyA : Nat → Prop := fun c => c = 128 ∨ c = 130
theorem r_layWays {h : zm_H} {N : zLv} {e l : Nat} (m0 : moS h 126) (mL : ML h 126 N) (hW : WB N) (h3 : N 3 ≤ 11) (he : e < 32) (hl : l < 32) : ∃ g, sX6_layWays [.ref 125, .int (eI (N 3)), .int (nI e), .int (eI l)] h = some (.inl none, g) ∧ zFr wyA h g ∧ NXT g N (2 ^ N 0) ∧ WYS g N e l 0 0 := by
  have h0 := hW.1
  have h1 := hW.2.1
  have hp := pow_le h0
  have one := Nat.one_le_two_pow (n := N 0)
  obtain ⟨E3, hE3⟩ : ∃ x, x = eI (N 3) := ⟨_, rfl⟩
  obtain ⟨El, hEl⟩ : ∃ x, x = eI l := ⟨_, rfl⟩
  have hmE : ∀ r, r < 2 ^ 31 → ∀ h, sX6_mayEnd [.ref 125, .int (nI r), .int E3] h = some (.inl (some (.int (zb (nme N r)))), h) := fun r hr h => by rw [hE3]; exact r_mayEnd hr (by omega) h
  have hlt : ∀ k, k < 2 ^ 31 → (nI k = El) = (k + 1 = l) := fun k hk => by rw [hEl]; exact eI_eq hk (by omega)
  rw [← hE3, ← hEl]
  obtain ⟨R, hR⟩ : ∃ R : zm_O → Prop, R = (fun o => ∃ g, o = (.inl none, g) ∧ zFr wyA h g ∧ NXT g N (2 ^ N 0) ∧ WYS g N e l 0 0) := ⟨_, rfl⟩
  have M := fun {g : zm_H} (fr : zFr wyA h g) => moS_fr fr m0
  have ML' := fun {g : zm_H} (fr : zFr wyA h g) => ML_fr fr (show ¬ wyA 126 from fun x => by unfold wyA at x; omega) mL
  have go9 : ∀ S r g, S < 2 ^ N 0 → 0 < S → r < N 0 → zFr wyA h g → NXT g N (2 ^ N 0) → (∀ c on, c = nba N S r → on = (if S.testBit r then nxv N S r else 0) → zTo vX6_layWays rX6_layWays (43, [some (.ref 125), some (.int E3), some (.int (nI e)), some (.int El), some (.int (nI S)), some (.int (nI r)), some (.long (lN c)), none, some (.int (nI on)), some (.int (nI 0)), none], [], g) R) → zTo vX6_layWays rX6_layWays (9, [some (.ref 125), some (.int E3), some (.int (nI e)), some (.int El), some (.int (nI S)), some (.int (nI r)), none, none, none, none, none], [], g) R := by
    intro S r g hS hS0 hr fr X k
    obtain ⟨g1, g2, g3, g4⟩ := nI_for hr (by omega)
    have m1 := M fr
    have mr := r_rooms (M fr) (ML' fr)
    have mw := r_whole (M fr) (ML' fr) h0
    have xv := X S r hS0 hS hr
    obtain ⟨t0, t3, tq, t1, t2, t4, t5, t6, t7, t8, t9, t10, t21, t22, t23, t25, n6, n7, n8, n9, n10, n11, n12, n13, n14, n15, n16, n17, n18⟩ := m1
    refine zTo_of gX6_layWays_9 ?_
    simp only [t0, mr, mw, g1, nI_eq (show S < 2 ^ 31 by omega) (show 2 ^ N 0 - 1 < 2 ^ 31 by omega), hmE r (by omega), r_has (show S < 2 ^ 31 by omega) (show r < 32 by omega), zb_0, t6, n10, ix11, nI_clamp (show 11 * S + r < 2 ^ 31 by omega), nI_lt0 (show 11 * S + r < 2 ^ 31 by omega), show ¬ 22528 ≤ 11 * S + r by omega, xv, zmp_s, zlt_s, zcV_s, zcI_s, zcJ_s, zcA_s, zcD_s, zcF_s, zth_n, zth_t, zrt_s, zQ_l, zQ_r, false_or, or_false, true_or, or_true, false_and, and_false, not_false_eq_true, not_true_eq_false, and_self, true_and, and_true, if_true, if_false, ite_true, ite_false, zgd_t]
    by_cases f : S = 2 ^ N 0 - 1
    · rw [if_pos f]
      cases me : nme N r
      · have nb : 0 = nba N S r := by unfold nba; rw [if_neg (fun x => by rw [me] at x; cases x.2)]
        cases tb : S.testBit r
        · simp only [false_or, or_false, true_or, or_true, false_and, and_false, not_false_eq_true, not_true_eq_false, and_self, true_and, and_true, if_true, if_false, ite_true, ite_false, zmp_s, zlt_s, zcV_s, zcI_s, zcJ_s, zcA_s, zcD_s, zcF_s, zth_n, zth_t, zrt_s, zQ_l, zQ_r]; exact k 0 0 nb (by rw [tb]; rfl)
        · simp only [Bool.true_eq_false, false_or, or_false, true_or, or_true, false_and, and_false, not_false_eq_true, not_true_eq_false, and_self, true_and, and_true, if_true, if_false, ite_true, ite_false, zmp_s, zlt_s, zcV_s, zcI_s, zcJ_s, zcA_s, zcD_s, zcF_s, zth_n, zth_t, zrt_s, zQ_l, zQ_r]; exact k 0 _ nb (by rw [tb]; rfl)
      · have nb : 1 = nba N S r := by unfold nba; rw [if_pos ⟨f, me⟩]
        cases tb : S.testBit r
        · simp only [Bool.true_eq_false, false_or, or_false, true_or, or_true, false_and, and_false, not_false_eq_true, not_true_eq_false, and_self, true_and, and_true, if_true, if_false, ite_true, ite_false, zmp_s, zlt_s, zcV_s, zcI_s, zcJ_s, zcA_s, zcD_s, zcF_s, zth_n, zth_t, zrt_s, zQ_l, zQ_r]; exact k 1 0 nb (by rw [tb]; rfl)
        · simp only [Bool.true_eq_false, false_or, or_false, true_or, or_true, false_and, and_false, not_false_eq_true, not_true_eq_false, and_self, true_and, and_true, if_true, if_false, ite_true, ite_false, zmp_s, zlt_s, zcV_s, zcI_s, zcJ_s, zcA_s, zcD_s, zcF_s, zth_n, zth_t, zrt_s, zQ_l, zQ_r]; exact k 1 _ nb (by rw [tb]; rfl)
    · rw [if_neg f]
      have nb : 0 = nba N S r := by unfold nba; rw [if_neg (fun x => f x.1)]
      cases tb : S.testBit r
      · simp only [false_or, or_false, true_or, or_true, false_and, and_false, not_false_eq_true, not_true_eq_false, and_self, true_and, and_true, if_true, if_false, ite_true, ite_false, zmp_s, zlt_s, zcV_s, zcI_s, zcJ_s, zcA_s, zcD_s, zcF_s, zth_n, zth_t, zrt_s, zQ_l, zQ_r]; exact k 0 0 nb (by rw [tb]; rfl)
      · simp only [Bool.true_eq_false, false_or, or_false, true_or, or_true, false_and, and_false, not_false_eq_true, not_true_eq_false, and_self, true_and, and_true, if_true, if_false, ite_true, ite_false, zmp_s, zlt_s, zcV_s, zcI_s, zcJ_s, zcA_s, zcD_s, zcF_s, zth_n, zth_t, zrt_s, zQ_l, zQ_r]; exact k 0 _ nb (by rw [tb]; rfl)
  have outer : ∀ s g, s < 2 ^ N 0 → zFr wyA h g → NXT g N (2 ^ N 0) → WYS g N e l s 0 → zTo vX6_layWays rX6_layWays (5, [some (.ref 125), some (.int E3), some (.int (nI e)), some (.int El), some (.int (nI s)), none, none, none, none, none, none], [], g) R := by
    intro s
    induction s with
    | zero =>
      intro g hs fr X Y
      refine zTo_of gX6_layWays_5 ?_
      simp only [nI_0, show ((0 : Int32) ≤ 0) = True by decide +kernel, zmp_s, zlt_s, zcV_s, zcI_s, zcJ_s, zcA_s, zcD_s, zcF_s, zth_n, zth_t, zrt_s, zQ_l, zQ_r, false_or, or_false, true_or, or_true, false_and, and_false, not_false_eq_true, not_true_eq_false, and_self, true_and, and_true, if_true, if_false, ite_true, ite_false]
      rw [hR]
      exact ⟨g, rfl, fr, X, Y⟩
    | succ s ih =>
      intro g hs fr X Y
      have e1 : (nI (s + 1) ≤ 0) = False := eq_false (nI_nle (by omega) (by omega))
      have e2 : nI (s + 1) + (-1 : Int32) = nI s := pk_m1 s
      refine zTo_of gX6_layWays_5 ?_
      simp only [e1, zmp_s, zlt_s, zcV_s, zcI_s, zcJ_s, zcA_s, zcD_s, zcF_s, zth_n, zth_t, zrt_s, zQ_l, zQ_r, false_or, or_false, true_or, or_true, false_and, and_false, not_false_eq_true, not_true_eq_false, and_self, true_and, and_true, if_true, if_false, ite_true, ite_false]
      have rows : ∀ d r g, r + d = N 0 → zFr wyA h g → NXT g N (2 ^ N 0) → WYS g N e l (s + 1) r → zTo vX6_layWays rX6_layWays (9, [some (.ref 125), some (.int E3), some (.int (nI e)), some (.int El), some (.int (nI (s + 1))), some (.int (nI r)), none, none, none, none, none], [], g) R := by
        intro d
        induction d with
        | zero =>
          intro r g hr fr X Y
          have hr : r = N 0 := by omega
          refine zTo_of gX6_layWays_9 ?_
          simp only [(M fr).1, r_rooms (M fr) (ML' fr), hr, nI_le (Nat.le_refl _) (show N 0 < 2 ^ 31 by omega), e2, zmp_s, zlt_s, zcV_s, zcI_s, zcJ_s, zcA_s, zcD_s, zcF_s, zth_n, zth_t, zrt_s, zQ_l, zQ_r, false_or, or_false, true_or, or_true, false_and, and_false, not_false_eq_true, not_true_eq_false, and_self, true_and, and_true, if_true, if_false, ite_true, ite_false, zgd_t]
          refine ih g (by omega) fr X (fun S a q1 q2 q3 q4 => Y S a q1 q2 q3 ?_)
          by_cases w : S = s + 1
          · right; exact ⟨w, by omega⟩
          · left; omega
        | succ d ih2 =>
          intro r g hr fr X Y
          have hrn : r < N 0 := by omega
          refine go9 (s + 1) r g hs (by omega) hrn fr X (fun c on hc hon => ?_)
          obtain ⟨u, hu⟩ : ∃ u : Nat → Nat, u = fun b => if on.testBit b = true ∧ (b + 1 = l → (s + 1).testBit e = true) then nT (nxf N e l) (nba N) (N 0) ((s + 1) ||| 2 ^ b) b else 0 := ⟨_, rfl⟩
          have onlt : on < 2 ^ 31 := by
            have := nxv_lt hW (s + 1) r
            rw [hon]; split <;> omega
          have onb : ∀ b, b < 32 → on.testBit b = ((s + 1).testBit r && nnx N (s + 1) r b) := fun b hb => by
            rw [hon]
            cases tb : (s + 1).testBit r
            · simp
            · simp [nxv_bit hb]
          have loop : ∀ d j, j + d = N 0 → zTo vX6_layWays rX6_layWays (43, [some (.ref 125), some (.int E3), some (.int (nI e)), some (.int El), some (.int (nI (s + 1))), some (.int (nI r)), some (.long (lN (c + zsu u j))), none, some (.int (nI on)), some (.int (nI j)), none], [], g) R := by
            intro d
            induction d with
            | zero =>
              intro j hj
              have hj : j = N 0 := by omega
              have m1 := M fr
              have mr := r_rooms (M fr) (ML' fr)
              obtain ⟨g1, g2, g3, g4⟩ := nI_for hrn (by omega)
              obtain ⟨t0, t3, tq, t1, t2, t4, t5, t6, t7, t8, t9, t10, t21, t22, t23, t25, n6, n7, n8, n9, n10, n11, n12, n13, n14, n15, n16, n17, n18⟩ := m1
              refine zTo_of gX6_layWays_43 ?_
              simp only [t0, mr, hj, nI_le (Nat.le_refl _) (show N 0 < 2 ^ 31 by omega), t4, n8, r_has (show s + 1 < 2 ^ 31 by omega) (show r < 32 by omega), zb_0, ix11, nI_clamp (show 11 * (s + 1) + r < 2 ^ 31 by omega), nI_lt0 (show 11 * (s + 1) + r < 2 ^ 31 by omega), show ¬ 22528 ≤ 11 * (s + 1) + r by omega, g4, zmp_s, zlt_s, zcV_s, zcI_s, zcJ_s, zcA_s, zcD_s, zcF_s, zth_n, zth_t, zrt_s, zQ_l, zQ_r, false_or, or_false, true_or, or_true, false_and, and_false, not_false_eq_true, not_true_eq_false, and_self, true_and, and_true, if_true, if_false, ite_true, ite_false, zgd_t]
              cases tb : (s + 1).testBit r
              · simp only [false_or, or_false, true_or, or_true, false_and, and_false, not_false_eq_true, not_true_eq_false, and_self, true_and, and_true, if_true, if_false, ite_true, ite_false, zmp_s, zlt_s, zcV_s, zcI_s, zcJ_s, zcA_s, zcD_s, zcF_s, zth_n, zth_t, zrt_s, zQ_l, zQ_r]
                refine ih2 (r + 1) _ (by omega) (fr.tr (zFr.sJ (Or.inl rfl))) (fun S a q1 q2 q3 => by rw [I_sJ]; exact X S a q1 q2 q3) (fun S a q1 q2 q3 q4 => ?_)
                rw [J_sJs]
                by_cases w : S = s + 1 ∧ a = r
                · rw [w.1, w.2, zput_self]
                  unfold wyv
                  rw [tb]; rfl
                · rw [zput_ne _ _ (by omega)]; exact Y S a q1 q2 q3 (by omega)
              · simp only [Bool.true_eq_false, false_or, or_false, true_or, or_true, false_and, and_false, not_false_eq_true, not_true_eq_false, and_self, true_and, and_true, if_true, if_false, ite_true, ite_false, zmp_s, zlt_s, zcV_s, zcI_s, zcJ_s, zcA_s, zcD_s, zcF_s, zth_n, zth_t, zrt_s, zQ_l, zQ_r]
                refine ih2 (r + 1) _ (by omega) (fr.tr (zFr.sJ (Or.inl rfl))) (fun S a q1 q2 q3 => by rw [I_sJ]; exact X S a q1 q2 q3) (fun S a q1 q2 q3 q4 => ?_)
                rw [J_sJs]
                by_cases w : S = s + 1 ∧ a = r
                · rw [w.1, w.2, zput_self]
                  unfold wyv
                  rw [if_pos tb, nT_eq (nxf_ok hW e l) hs, hc]
                  congr 2
                  refine zsu_congr _ (fun b hb => ?_)
                  rw [hu]
                  simp only [onb b (by omega), tb, Bool.true_and]
                  unfold nxf
                  cases nnx N (s + 1) r b
                  · simp
                  · by_cases z : b + 1 = l <;> simp [z]
                · rw [zput_ne _ _ (by omega)]; exact Y S a q1 q2 q3 (by omega)
            | succ d ih3 =>
              intro j hj
              have hjn : j < N 0 := by omega
              have m1 := M fr
              have mr := r_rooms (M fr) (ML' fr)
              obtain ⟨g1, g2, g3, g4⟩ := nI_for hjn (by omega)
              obtain ⟨t0, t3, tq, t1, t2, t4, t5, t6, t7, t8, t9, t10, t21, t22, t23, t25, n6, n7, n8, n9, n10, n11, n12, n13, n14, n15, n16, n17, n18⟩ := m1
              have nx := ih3 (j + 1) (by omega)
              have ob := onb j (by omega)
              have uj : u j = if on.testBit j = true ∧ (j + 1 = l → (s + 1).testBit e = true) then nT (nxf N e l) (nba N) (N 0) ((s + 1) ||| 2 ^ j) j else 0 := by rw [hu]
              have e0 : ∀ x, lN x + (0 : Int64) = lN x := fun x => lN_add x 0
              rw [zsu_s, uj] at nx
              refine zTo_of gX6_layWays_43 ?_
              simp only [t0, mr, g1, r_has onlt (show j < 32 by omega), zb_0, hlt j (by omega), r_has (show s + 1 < 2 ^ 31 by omega) he, nx_shl1 (show j < 32 by omega), nx_or, e0, g4, zmp_s, zlt_s, zcV_s, zcI_s, zcJ_s, zcA_s, zcD_s, zcF_s, zth_n, zth_t, zrt_s, zQ_l, zQ_r, false_or, or_false, true_or, or_true, false_and, and_false, not_false_eq_true, not_true_eq_false, and_self, true_and, and_true, if_true, if_false, ite_true, ite_false, zgd_t]
              cases tb : on.testBit j
              · simp only [false_or, or_false, true_or, or_true, false_and, and_false, not_false_eq_true, not_true_eq_false, and_self, true_and, and_true, if_true, if_false, ite_true, ite_false, zmp_s, zlt_s, zcV_s, zcI_s, zcJ_s, zcA_s, zcD_s, zcF_s, zth_n, zth_t, zrt_s, zQ_l, zQ_r]
                rw [tb] at nx
                simpa using nx
              · rw [tb] at ob
                have hn2 : nnx N (s + 1) r j = true := by
                  have := ob.symm
                  simp only [Bool.and_eq_true] at this
                  exact this.2
                obtain ⟨w1, w2⟩ := nnx_ok hW (s + 1) r j hn2
                have w3 := or_lt2 hs hjn
                have w4 := Y ((s + 1) ||| 2 ^ j) j (by have := or_gt w2; omega) w3 hjn (Or.inl (or_gt w2))
                have w5 : wyv N e l ((s + 1) ||| 2 ^ j) j = nT (nxf N e l) (nba N) (N 0) ((s + 1) ||| 2 ^ j) j := by
                  unfold wyv
                  rw [if_pos (by rw [tb_or]; simp)]
                rw [w5] at w4
                rw [tb] at nx
                simp only [Bool.true_eq_false, false_or, or_false, true_or, or_true, false_and, and_false, not_false_eq_true, not_true_eq_false, and_self, true_and, and_true, if_true, if_false, ite_true, ite_false, zmp_s, zlt_s, zcV_s, zcI_s, zcJ_s, zcA_s, zcD_s, zcF_s, zth_n, zth_t, zrt_s, zQ_l, zQ_r, t0, t4, n8, ix11, nI_clamp (show 11 * ((s + 1) ||| 2 ^ j) + j < 2 ^ 31 by omega), nI_lt0 (show 11 * ((s + 1) ||| 2 ^ j) + j < 2 ^ 31 by omega), show ¬ 22528 ≤ 11 * ((s + 1) ||| 2 ^ j) + j by omega, w4, lN_add, i10, zgd_t]
                by_cases z : j + 1 = l
                · rw [if_pos z]
                  cases te : (s + 1).testBit e
                  · simp only [false_or, or_false, true_or, or_true, false_and, and_false, not_false_eq_true, not_true_eq_false, and_self, true_and, and_true, if_true, if_false, ite_true, ite_false, zmp_s, zlt_s, zcV_s, zcI_s, zcJ_s, zcA_s, zcD_s, zcF_s, zth_n, zth_t, zrt_s, zQ_l, zQ_r]
                    rw [te] at nx
                    simpa [z] using nx
                  · simp only [Bool.true_eq_false, false_or, or_false, true_or, or_true, false_and, and_false, not_false_eq_true, not_true_eq_false, and_self, true_and, and_true, if_true, if_false, ite_true, ite_false, zmp_s, zlt_s, zcV_s, zcI_s, zcJ_s, zcA_s, zcD_s, zcF_s, zth_n, zth_t, zrt_s, zQ_l, zQ_r]
                    rw [te] at nx
                    simpa [Nat.add_assoc] using nx
                · rw [if_neg z]
                  rw [if_pos ⟨rfl, fun w => absurd w z⟩] at nx
                  rw [Nat.add_assoc]
                  exact nx
          have := loop (N 0) 0 (by omega)
          exact this
      exact rows (N 0) 0 g (by omega) fr X Y
  obtain ⟨g0, e1, fr0, X0⟩ := r_layNexts m0 mL hW
  have fr0' : zFr wyA h g0 := fr0.mono (fun c hc => Or.inr hc)
  have hsim : zW (sX6_layWays [.ref 125, .int E3, .int (nI e), .int El] h) R := by
    refine zsem_to (Nat.le_of_ble_eq_true rfl) (zTo_of gX6_layWays_0 ?_)
    simp only [m0.1, e1, (M fr0').1, r_whole (M fr0') (ML' fr0') h0, zmp_s, zlt_s, zcV_s, zcI_s, zcJ_s, zcA_s, zcD_s, zcF_s, zth_n, zth_t, zrt_s, zQ_l, zQ_r, false_or, or_false, true_or, or_true, false_and, and_false, not_false_eq_true, not_true_eq_false, and_self, true_and, and_true, if_true, if_false, ite_true, ite_false, zgd_t]
    exact outer (2 ^ N 0 - 1) g0 (by omega) fr0' X0 (fun S a q1 q2 q3 q4 => by omega)
  rw [hR] at hsim
  obtain ⟨o, k1, g, rfl, k2⟩ := hsim
  exact ⟨g, k1, k2⟩
/-- tours of all sets, as the model reads them -/
def nWy (N : zLv) (S a : Nat) : Nat := if S.testBit a then nTT N S a else 0
def WY (h : zm_H) (N : zLv) : Prop := ∀ S a, 0 < S → S < 2 ^ N 0 → a < N 0 → zJ h 128 (11 * S + a) = lN (nWy N S a)
theorem WY_of {h : zm_H} {N : zLv} {e : Nat} (Y : WYS h N e 0 0 0) : WY h N := fun S a q1 q2 q3 => by
  rw [Y S a q1 q2 q3 (Or.inl q1)]
  unfold wyv nWy nTT
  rw [nxf_0]
theorem r_waysOf {h : zm_H} (m0 : moS h 126) {S a : Nat} (hS : S < 2048) (ha : a < 11) : sX6_waysOf [.ref 125, .int (nI S), .int (nI a)] h = some (.inl (some (.long (zJ h 128 (11 * S + a)))), h) := by
  obtain ⟨t0, t3, tq, t1, t2, t4, t5, t6, t7, t8, t9, t10, t21, t22, t23, t25, n6, n7, n8, n9, n10, n11, n12, n13, n14, n15, n16, n17, n18⟩ := m0
  refine zsem_eq (Nat.le_of_ble_eq_true rfl) (zTo_of gX6_waysOf_0 ?_)
  simp only [t0, t4, n8, ix11, nI_clamp (show 11 * S + a < 2 ^ 31 by omega), nI_lt0 (show 11 * S + a < 2 ^ 31 by omega), show ¬ 22528 ≤ 11 * S + a by omega, zmp_s, zlt_s, zcV_s, zcI_s, zcJ_s, zcA_s, zcD_s, zcF_s, zth_n, zth_t, zrt_s, zQ_l, zQ_r, false_or, or_false, true_or, or_true, false_and, and_false, not_false_eq_true, not_true_eq_false, and_self, true_and, and_true, if_true, if_false, ite_true, ite_false, zgd_t]
theorem r_toursFromRoom {h : zm_H} (m0 : moS h 126) {a : Nat} (ha : a < 11) : sX6_toursFromRoom [.ref 125, .int (nI a)] h = some (.inl (some (.long (zJ h 128 (11 * 2 ^ a + a)))), h) := by
  have : 2 ^ a < 2048 := by
    have := Nat.pow_lt_pow_right (a := 2) (by omega) ha
    omega
  refine zsem_eq (Nat.le_of_ble_eq_true rfl) (zTo_of gX6_toursFromRoom_0 ?_)
  simp only [m0.1, nx_shl1 (show a < 32 by omega), r_waysOf m0 this ha, zmp_s, zlt_s, zcV_s, zcI_s, zcJ_s, zcA_s, zcD_s, zcF_s, zth_n, zth_t, zrt_s, zQ_l, zQ_r, false_or, or_false, true_or, or_true, false_and, and_false, not_false_eq_true, not_true_eq_false, and_self, true_and, and_true, if_true, if_false, ite_true, ite_false, zgd_t]
/-- what a level's counting needs -/
def LC (N : zLv) : Prop := WB N ∧ N 3 ≤ 11 ∧ N 2 < N 0
theorem WF.lc {N : zLv} (hF : WF N) : LC N := ⟨hF.1, by have := hF.2.2.2.1; have := hF.1.1; omega, hF.2.2.1⟩
theorem nWy_1 {N : zLv} {a : Nat} : nWy N (2 ^ a) a = nTT N (2 ^ a) a := by
  unfold nWy
  rw [if_pos (one_bit a)]
theorem pw_lt {a n : Nat} (h : a < n) : 2 ^ a < 2 ^ n := Nat.pow_lt_pow_right (by omega) h
theorem r_toursNow {h : zm_H} {N : zLv} (m0 : moS h 126) (mL : ML h 126 N) (hN : LC N) : ∃ g, sX6_toursNow [.ref 125] h = some (.inl (some (.long (lN (nTT N (2 ^ N 2) (N 2))))), g) ∧ zFr wyA h g ∧ NXT g N (2 ^ N 0) ∧ WY g N := by
  obtain ⟨hW, h3, h2⟩ := hN
  obtain ⟨g, e1, fr, X, Y⟩ := r_layWays (e := 0) (l := 0) m0 mL hW h3 (by omega) (by omega)
  have Y2 := WY_of Y
  refine ⟨g, ?_, fr, X, Y2⟩
  have m1 := moS_fr fr m0
  have mL1 := ML_fr fr (show ¬ wyA 126 from fun x => by unfold wyA at x; omega) mL
  have v := Y2 (2 ^ N 2) (N 2) (Nat.two_pow_pos _) (pw_lt h2) h2
  rw [nWy_1] at v
  have h0 := hW.1
  have tf := r_toursFromRoom m1 (show N 2 < 11 by omega)
  rw [v] at tf
  rw [eI_0, nI_0] at e1
  obtain ⟨t0, t3, tq, _⟩ := m0
  have a1 := m1.1
  have a3 := m1.2.1
  have aq := m1.2.2.1
  have b3 := mL.e3
  have b2 := mL1.at (i := 2) (by omega) (by omega)
  refine zsem_eq (Nat.le_of_ble_eq_true rfl) (zTo_of gX6_toursNow_0 ?_)
  simp only [t0, t3, tq, c_3, p_3, b3, show ¬ 149 ≤ 3 by omega, e1, a1, a3, aq, c_2, p_2, b2, show ¬ 149 ≤ 2 by omega, tf, zmp_s, zlt_s, zcV_s, zcI_s, zcJ_s, zcA_s, zcD_s, zcF_s, zth_n, zth_t, zrt_s, zQ_l, zQ_r, false_or, or_false, true_or, or_true, false_and, and_false, not_false_eq_true, not_true_eq_false, and_self, true_and, and_true, if_true, if_false, ite_true, ite_false, zgd_t]
end ZMC
