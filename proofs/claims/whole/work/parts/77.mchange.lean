/-! THE MODEL: changes of the level. -/
section ZMP
section
variable {h : zm_H} {N : zLv} {P : List zLv}
theorem r_cutWalk {M : zLv} (m0 : moS h 126) (mL : ML h 126 M) (hW : WB M) (h4 : 1 ≤ M 4) : ∃ g, sX6_cutWalk [.ref 125] h = some (.inl none, g) ∧ zFr (fun c => c = 126) h g ∧ ML g 126 (zput M 4 (ncut M)) := by
  have w4 := hW.2.2.1
  have w0 := hW.1
  have l4 := mL.at (i := 4) (by omega) (by omega)
  have ww : ∀ k, k < M 4 → sX6_walkedAt [.ref 125, .int (nI k)] h = some (.inl (some (.int (nI (nwk M k)))), h) := fun k hk => r_walkedAt m0 mL (show k < 100 by omega)
  have wl : ∀ k, k < M 4 → nwk M k < M 0 := fun k hk => hW.2.2.2.2.2 k hk
  have hp := pow_le w0
  obtain ⟨R, hR⟩ : ∃ R : zm_O → Prop, R = (fun o => ∃ g, o = (.inl none, g) ∧ zFr (fun c => c = 126) h g ∧ ML g 126 (zput M 4 (ncut M))) := ⟨_, rfl⟩
  have key : ∀ d k, k + d = M 4 - 1 → (∀ j, j < k → nbad M j = false) → zTo vX6_cutWalk rX6_cutWalk (9, [some (.ref 125), some (.int (nI (nsk (nwk M) k))), some (.int (nI (M 4))), some (.int (nI k))], [], h) R := by
    intro d
    induction d with
    | zero =>
      intro k hk hno
      have hk : k = M 4 - 1 := by omega
      have e1 : nI k + (1 : Int32) = nI (M 4) := by rw [nI_1]; congr 1; omega
      refine zTo_of gX6_cutWalk_9 ?_
      simp only [e1, nI_le (Nat.le_refl _) (show M 4 < 2 ^ 31 by omega), zmp_s, zlt_s, zcV_s, zcI_s, zcJ_s, zcA_s, zcD_s, zcF_s, zth_n, zth_t, zrt_s, zQ_l, zQ_r, false_or, or_false, true_or, or_true, false_and, and_false, not_false_eq_true, not_true_eq_false, and_self, true_and, and_true, if_true, if_false, ite_true, ite_false]
      rw [hR]
      refine ⟨h, rfl, zFr.rf, ?_⟩
      have : ncut M = M 4 := by
        unfold ncut
        rw [nfind_none.mpr (by rw [← hk]; exact hno)]
      rw [this, zput_id]
      exact mL
    | succ d ih =>
      intro k hk hno
      have e1 : nI k + (1 : Int32) = nI (k + 1) := nI_1 k
      have f1 : (nI (M 4) ≤ nI (k + 1)) = False := eq_false (nI_ge (by omega) (by omega))
      have y1 := wl k (by omega)
      have y2 := wl (k + 1) (by omega)
      have hSe : nsk (nwk M) k ||| 2 ^ nwk M k = nsk (nwk M) (k + 1) := rfl
      have hSl : nsk (nwk M) (k + 1) < 2 ^ M 0 := nsk_lt (k + 1) (fun i hi => wl i (by omega))
      have ll := nld_lt hW (nsk (nwk M) (k + 1)) (nwk M k)
      refine zTo_of gX6_cutWalk_9 ?_
      simp only [e1, f1, m0.1, ww k (by omega), ww (k + 1) (by omega), nx_shl1 (show nwk M k < 32 by omega), nx_or, hSe, r_leads m0 mL hW (show nsk (nwk M) (k + 1) < 2 ^ 31 by omega) (show nwk M k < 2 ^ 31 by omega), r_has (show nld M (nsk (nwk M) (k + 1)) (nwk M k) < 2 ^ 31 by omega) (show nwk M (k + 1) < 32 by omega), zb_0, zmp_s, zlt_s, zcV_s, zcI_s, zcJ_s, zcA_s, zcD_s, zcF_s, zth_n, zth_t, zrt_s, zQ_l, zQ_r, false_or, or_false, true_or, or_true, false_and, and_false, not_false_eq_true, not_true_eq_false, and_self, true_and, and_true, if_true, if_false, ite_true, ite_false, zgd_t]
      cases b : (nld M (nsk (nwk M) (k + 1)) (nwk M k)).testBit (nwk M (k + 1))
      · simp only [m0.2.1, m0.2.2.1, c_4, p_4, show ¬ 149 ≤ 4 by omega, false_or, or_false, true_or, or_true, false_and, and_false, not_false_eq_true, not_true_eq_false, and_self, true_and, and_true, if_true, if_false, ite_true, ite_false, zmp_s, zlt_s, zcV_s, zcI_s, zcJ_s, zcA_s, zcD_s, zcF_s, zth_n, zth_t, zrt_s, zQ_l, zQ_r, zgd_t]
        rw [hR]
        refine ⟨_, rfl, zFr.sI rfl, ?_⟩
        have nb : nbad M k = true := by unfold nbad; rw [b]; rfl
        have : ncut M = k + 1 := by
          unfold ncut
          have hf : nfind (nbad M) (M 4 - 1) = some k := nfind_some.mpr ⟨by omega, nb, hno⟩
          rw [hf]
        rw [this]
        exact ML_put mL (by omega)
      · simp only [Bool.true_eq_false, false_or, or_false, true_or, or_true, false_and, and_false, not_false_eq_true, not_true_eq_false, and_self, true_and, and_true, if_true, if_false, ite_true, ite_false, zmp_s, zlt_s, zcV_s, zcI_s, zcJ_s, zcA_s, zcD_s, zcF_s, zth_n, zth_t, zrt_s, zQ_l, zQ_r]
        have nb : nbad M k = false := by unfold nbad; rw [b]; rfl
        refine ih (k + 1) (by omega) (fun j hj => ?_)
        by_cases e : j = k
        · rw [e]; exact nb
        · exact hno j (by omega)
  have hsim : zW (sX6_cutWalk [.ref 125] h) R := by
    refine zsem_to (Nat.le_of_ble_eq_true rfl) (zTo_of gX6_cutWalk_0 ?_)
    simp only [m0.1, m0.2.1, m0.2.2.1, c_4, p_4, l4, show ¬ 149 ≤ 4 by omega, zmp_s, zlt_s, zcV_s, zcI_s, zcJ_s, zcA_s, zcD_s, zcF_s, zth_n, zth_t, zrt_s, zQ_l, zQ_r, false_or, or_false, true_or, or_true, false_and, and_false, not_false_eq_true, not_true_eq_false, and_self, true_and, and_true, if_true, if_false, ite_true, ite_false, zgd_t]
    exact key (M 4 - 1) 0 (by omega) (fun j hj => by omega)
  rw [hR] at hsim
  obtain ⟨o, k1, g, rfl, k2⟩ := hsim
  exact ⟨g, k1, k2⟩
/-- the walk is cut behind a change -/
theorem MD.cut {g : zm_H} {M : zLv} (a : MD h g M P) (hW : WB M) (h4 : 1 ≤ M 4) : ∃ k, sX6_cutWalk [.ref 125] g = some (.inl none, k) ∧ MD h k (zput M 4 (ncut M)) P := by
  obtain ⟨k, e1, fr, mL⟩ := r_cutWalk a.2.2.2.1 a.2.2.2.2.1 hW h4
  exact ⟨k, e1, a.fr fr mL⟩
theorem MD.m {g : zm_H} {M : zLv} (a : MD h g M P) : moS g 126 := a.2.2.2.1
theorem MD.l {g : zm_H} {M : zLv} (a : MD h g M P) : ML g 126 M := a.2.2.2.2.1
theorem MD.t {g : zm_H} {M : zLv} (a : MD h g M P) : zI g 125 0 = 0 := a.2.2.1
theorem moS.p1 {g : zm_H} {q : Nat} (m : moS g q) : zP g 125 1 = some 126 := m.2.2.2.1
theorem moS.k6 {g : zm_H} {q : Nat} (m : moS g q) : zK g 126 = (0, 149) := m.2.2.2.2.2.2.2.2.2.2.2.2.2.2.2.2.1
theorem r_setKey {r key : Nat} {b : Bool} (c : MI h N) (H : HP h P) (hr : r < N 0) (hk : key < 8) (hM : WF (nCt (nSk N r key b))) : MR (sX6_setKey [.ref 125, .int (nI r), .int (nI key), .int (zb b)] h) (some (.int (zb ((N (16 + 3 * r)).testBit key)))) 0 (MC h (nCt (nSk N r key b)) (pst N P)) := by
  obtain ⟨k0, e0, D0, fr0⟩ := r_rem c H
  have hF := c.2.2
  have hW := hF.1
  have h0 := hW.1
  have h41 := hF.2.2.2.2.1
  have kl := (hW.2.2.2.1 r hr).1
  have lv := D0.l.at (i := 16 + 3 * r) (by omega) (by omega)
  have D1 := D0.put (i := 16 + 3 * r) (x := if b then N (16 + 3 * r) ||| 2 ^ key else N (16 + 3 * r) &&& (2 ^ key ^^^ 4294967295)) (by omega)
  have wp : WP (nSk N r key b) := WP_room hF.p (by omega) (by omega) (fun _ => by
    cases b
    · simp only [Bool.false_eq_true, if_false]
      exact Nat.lt_of_le_of_lt Nat.and_le_left kl
    · simp only [if_true]
      have : 2 ^ key < 2 ^ 8 := Nat.pow_lt_pow_right (by omega) hk
      exact or_lt (n := 8) kl this) (fun e => by omega)
  obtain ⟨k2, e2, D2⟩ := D1.cut wp.1 (by rw [zput_ne _ _ (by omega)]; exact h41)
  refine ⟨k2, ?_, D2.mc hM, D2.t⟩
  have m0 := D0.m
  have m1 := D1.m
  refine zsem_eq (Nat.le_of_ble_eq_true rfl) (zTo_of gX6_setKey_0 ?_)
  cases b
  · simp only [Bool.false_eq_true, false_or, or_false, true_or, or_true, false_and, and_false, not_false_eq_true, not_true_eq_false, and_self, true_and, and_true, if_true, if_false, ite_true, ite_false] at e2 m1
    simp only [c.1.1, r_isRoom c.1 c.2.1 h0 hr, r_isKey hk, i10, p1_t c.1, (c.go (MZ.th c 0)).1.1, e0, m0.1, m0.p1, m0.k6, ix16_0, nI_clamp (show 16 + 3 * r < 2 ^ 31 by omega), nI_lt0 (show 16 + 3 * r < 2 ^ 31 by omega), show ¬ 149 ≤ 16 + 3 * r by omega, lv, r_has (show N (16 + 3 * r) < 2 ^ 31 by omega) (show key < 32 by omega), zb_f, nx_shl1 (show key < 32 by omega), nI_not, m1.1, e2, zrt_s, zbor, zmp_s, zlt_s, zcV_s, zcI_s, zcJ_s, zcA_s, zcD_s, zcF_s, zth_n, zth_t, zrt_s, zQ_l, zQ_r, false_or, or_false, true_or, or_true, false_and, and_false, not_false_eq_true, not_true_eq_false, and_self, true_and, and_true, if_true, if_false, ite_true, ite_false, zgd_t]
  · simp only [false_or, or_false, true_or, or_true, false_and, and_false, not_false_eq_true, not_true_eq_false, and_self, true_and, and_true, if_true, if_false, ite_true, ite_false] at e2 m1
    simp only [c.1.1, r_isRoom c.1 c.2.1 h0 hr, r_isKey hk, i10, p1_t c.1, (c.go (MZ.th c 0)).1.1, e0, m0.1, m0.p1, m0.k6, ix16_0, nI_clamp (show 16 + 3 * r < 2 ^ 31 by omega), nI_lt0 (show 16 + 3 * r < 2 ^ 31 by omega), show ¬ 149 ≤ 16 + 3 * r by omega, lv, r_has (show N (16 + 3 * r) < 2 ^ 31 by omega) (show key < 32 by omega), zb_t, nx_shl1 (show key < 32 by omega), nx_or, m1.1, e2, zrt_s, zbor, zmp_s, zlt_s, zcV_s, zcI_s, zcJ_s, zcA_s, zcD_s, zcF_s, zth_n, zth_t, zrt_s, zQ_l, zQ_r, false_or, or_false, true_or, or_true, false_and, and_false, not_false_eq_true, not_true_eq_false, and_self, true_and, and_true, if_true, if_false, ite_true, ite_false, zgd_t]
theorem r_setKeyX {x y z : Int32} (c : MI h N) (hx : x < 0 ∨ nI (N 0) ≤ x) : MR (sX6_setKey [.ref 125, .int x, .int y, .int z] h) (some (.int 0)) 1 (MZ N h) := by
  refine ⟨zsI h 125 0 1, ?_, MZ.th c 1, th_0⟩
  refine zsem_eq (Nat.le_of_ble_eq_true rfl) (zTo_of gX6_setKey_0 ?_)
  simp only [c.1.1, r_isRoomX c.1 c.2.1 c.2.2.1.1 hx, p1_f c.1, zmp_s, zlt_s, zcV_s, zcI_s, zcJ_s, zcA_s, zcD_s, zcF_s, zth_n, zth_t, zrt_s, zQ_l, zQ_r, false_or, or_false, true_or, or_true, false_and, and_false, not_false_eq_true, not_true_eq_false, and_self, true_and, and_true, if_true, if_false, ite_true, ite_false, zgd_t]
theorem r_setKeyY {r : Nat} {y z : Int32} (c : MI h N) (hr : r < N 0) (hy : y < 0 ∨ nI 8 ≤ y) : MR (sX6_setKey [.ref 125, .int (nI r), .int y, .int z] h) (some (.int 0)) 1 (MZ N h) := by
  refine ⟨zsI h 125 0 1, ?_, MZ.th c 1, th_0⟩
  refine zsem_eq (Nat.le_of_ble_eq_true rfl) (zTo_of gX6_setKey_0 ?_)
  simp only [c.1.1, r_isRoom c.1 c.2.1 c.2.2.1.1 hr, r_isKeyX hy, i10, p1_f c.1, zmp_s, zlt_s, zcV_s, zcI_s, zcJ_s, zcA_s, zcD_s, zcF_s, zth_n, zth_t, zrt_s, zQ_l, zQ_r, false_or, or_false, true_or, or_true, false_and, and_false, not_false_eq_true, not_true_eq_false, and_self, true_and, and_true, if_true, if_false, ite_true, ite_false, zgd_t]
theorem r_setCoins {r v : Nat} (c : MI h N) (H : HP h P) (hr : r < N 0) (hv : v ≤ 99) (hM : WF (nCt (zput N (17 + 3 * r) v))) : MR (sX6_setCoins [.ref 125, .int (nI r), .int (nI v)] h) (some (.int (nI (N (17 + 3 * r))))) 0 (MC h (nCt (zput N (17 + 3 * r) v)) (pst N P)) := by
  obtain ⟨k0, e0, D0, fr0⟩ := r_rem c H
  have hF := c.2.2
  have hW := hF.1
  have h0 := hW.1
  have h41 := hF.2.2.2.2.1
  have D1 := D0.put (i := 17 + 3 * r) (x := v) (by omega)
  have wp : WP (zput N (17 + 3 * r) v) := WP_room hF.p (by omega) (by omega) (fun e => by omega) (fun _ => hv)
  obtain ⟨k2, e2, D2⟩ := D1.cut wp.1 (by rw [zput_ne _ _ (by omega)]; exact h41)
  refine ⟨k2, ?_, D2.mc hM, D2.t⟩
  have m0 := D0.m
  have m1 := D1.m
  refine zsem_eq (Nat.le_of_ble_eq_true rfl) (zTo_of gX6_setCoins_0 ?_)
  simp only [c.1.1, r_isRoom c.1 c.2.1 h0 hr, in_l (hi := 99) hv (show 99 < 2 ^ 31 by omega) rfl, i10, p2_t c.1, (c.go (MZ.th c 0)).1.1, e0, m0.1, m0.p1, m0.k6, r_ofRoom1 m0 D0.l (show r < 11 by omega), ix16_1, nI_clamp (show 17 + 3 * r < 2 ^ 31 by omega), nI_lt0 (show 17 + 3 * r < 2 ^ 31 by omega), show ¬ 149 ≤ 17 + 3 * r by omega, m1.1, e2, zmp_s, zlt_s, zcV_s, zcI_s, zcJ_s, zcA_s, zcD_s, zcF_s, zth_n, zth_t, zrt_s, zQ_l, zQ_r, false_or, or_false, true_or, or_true, false_and, and_false, not_false_eq_true, not_true_eq_false, and_self, true_and, and_true, if_true, if_false, ite_true, ite_false, zgd_t]
theorem r_setCoinsX {x y : Int32} (c : MI h N) (hx : x < 0 ∨ nI (N 0) ≤ x) : MR (sX6_setCoins [.ref 125, .int x, .int y] h) (some (.int 0)) 1 (MZ N h) := by
  refine ⟨zsI h 125 0 1, ?_, MZ.th c 1, th_0⟩
  refine zsem_eq (Nat.le_of_ble_eq_true rfl) (zTo_of gX6_setCoins_0 ?_)
  simp only [c.1.1, r_isRoomX c.1 c.2.1 c.2.2.1.1 hx, in_G, p2_1 c.1, zmp_s, zlt_s, zcV_s, zcI_s, zcJ_s, zcA_s, zcD_s, zcF_s, zth_n, zth_t, zrt_s, zQ_l, zQ_r, false_or, or_false, true_or, or_true, false_and, and_false, not_false_eq_true, not_true_eq_false, and_self, true_and, and_true, if_true, if_false, ite_true, ite_false, zgd_t]
theorem r_setCoinsY {r : Nat} {y : Int32} (c : MI h N) (hr : r < N 0) (hy : y < 0 ∨ nI 100 ≤ y) : MR (sX6_setCoins [.ref 125, .int (nI r), .int y] h) (some (.int 0)) 2 (MZ N h) := by
  refine ⟨zsI h 125 0 2, ?_, MZ.th c 2, th_0⟩
  refine zsem_eq (Nat.le_of_ble_eq_true rfl) (zTo_of gX6_setCoins_0 ?_)
  simp only [c.1.1, r_isRoom c.1 c.2.1 c.2.2.1.1 hr, in_f (hi := 99) (show 100 < 2 ^ 31 by omega) hy rfl, p2_2 c.1, zmp_s, zlt_s, zcV_s, zcI_s, zcJ_s, zcA_s, zcD_s, zcF_s, zth_n, zth_t, zrt_s, zQ_l, zQ_r, false_or, or_false, true_or, or_true, false_and, and_false, not_false_eq_true, not_true_eq_false, and_self, true_and, and_true, if_true, if_false, ite_true, ite_false, zgd_t]
-- locks
theorem r_isLock {k v : Nat} (hk : k ≤ 2) (hv : v ≤ nGn k) (h : zm_H) : sX6_isLock [.int (nI k), .int (nI v)] h = some (.inl (some (.int 1)), h) := by
  refine zsem_eq (Nat.le_of_ble_eq_true rfl) (zTo_of gX6_isLock_0 ?_)
  have e1 : (nI k = 1) = (k = 1) := propext (nI_eq (b := 1) (by omega) (by omega))
  simp only [in_l (hi := 2) hk (show 2 < 2 ^ 31 by omega) rfl, i10, nI_eq0 (show k < 2 ^ 31 by omega), e1, zmp_s, zlt_s, zcV_s, zcI_s, zcJ_s, zcA_s, zcD_s, zcF_s, zth_n, zth_t, zrt_s, zQ_l, zQ_r, false_or, or_false, true_or, or_true, false_and, and_false, not_false_eq_true, not_true_eq_false, and_self, true_and, and_true, if_true, if_false, ite_true, ite_false]
  unfold nGn at hv
  by_cases k0 : k = 0
  · rw [if_pos k0] at hv
    simp only [k0, in_l (hi := 0) hv (show 0 < 2 ^ 31 by omega) rfl, i10, zmp_s, zlt_s, zcV_s, zcI_s, zcJ_s, zcA_s, zcD_s, zcF_s, zth_n, zth_t, zrt_s, zQ_l, zQ_r, false_or, or_false, true_or, or_true, false_and, and_false, not_false_eq_true, not_true_eq_false, and_self, true_and, and_true, if_true, if_false, ite_true, ite_false]
  · rw [if_neg k0] at hv
    by_cases k1 : k = 1
    · rw [if_pos k1] at hv
      simp only [k1, show ¬ 1 = 0 by omega, in_l (hi := 7) hv (show 7 < 2 ^ 31 by omega) rfl, i10, zmp_s, zlt_s, zcV_s, zcI_s, zcJ_s, zcA_s, zcD_s, zcF_s, zth_n, zth_t, zrt_s, zQ_l, zQ_r, false_or, or_false, true_or, or_true, false_and, and_false, not_false_eq_true, not_true_eq_false, and_self, true_and, and_true, if_true, if_false, ite_true, ite_false]
    · rw [if_neg k1] at hv
      simp only [k0, k1, in_l (hi := 999) hv (show 999 < 2 ^ 31 by omega) rfl, i10, zmp_s, zlt_s, zcV_s, zcI_s, zcJ_s, zcA_s, zcD_s, zcF_s, zth_n, zth_t, zrt_s, zQ_l, zQ_r, false_or, or_false, true_or, or_true, false_and, and_false, not_false_eq_true, not_true_eq_false, and_self, true_and, and_true, if_true, if_false, ite_true, ite_false]
theorem r_isLockX {x y : Int32} (hx : x < 0 ∨ nI 3 ≤ x) (h : zm_H) : sX6_isLock [.int x, .int y] h = some (.inl (some (.int 0)), h) := by
  refine zsem_eq (Nat.le_of_ble_eq_true rfl) (zTo_of gX6_isLock_0 ?_)
  simp only [in_f (hi := 2) (show 3 < 2 ^ 31 by omega) hx rfl, zmp_s, zlt_s, zcV_s, zcI_s, zcJ_s, zcA_s, zcD_s, zcF_s, zth_n, zth_t, zrt_s, zQ_l, zQ_r, false_or, or_false, true_or, or_true, false_and, and_false, not_false_eq_true, not_true_eq_false, and_self, true_and, and_true, if_true, if_false, ite_true, ite_false]
theorem r_isLockY {k : Nat} {y : Int32} (hk : k ≤ 2) (hy : y < 0 ∨ nI (nGn k + 1) ≤ y) (h : zm_H) : sX6_isLock [.int (nI k), .int y] h = some (.inl (some (.int 0)), h) := by
  refine zsem_eq (Nat.le_of_ble_eq_true rfl) (zTo_of gX6_isLock_0 ?_)
  have e1 : (nI k = 1) = (k = 1) := propext (nI_eq (b := 1) (by omega) (by omega))
  simp only [in_l (hi := 2) hk (show 2 < 2 ^ 31 by omega) rfl, i10, nI_eq0 (show k < 2 ^ 31 by omega), e1, zmp_s, zlt_s, zcV_s, zcI_s, zcJ_s, zcA_s, zcD_s, zcF_s, zth_n, zth_t, zrt_s, zQ_l, zQ_r, false_or, or_false, true_or, or_true, false_and, and_false, not_false_eq_true, not_true_eq_false, and_self, true_and, and_true, if_true, if_false, ite_true, ite_false]
  unfold nGn at hy
  by_cases k0 : k = 0
  · rw [if_pos k0] at hy
    simp only [k0, in_f (hi := 0) (show 0 + 1 < 2 ^ 31 by omega) hy rfl, zmp_s, zlt_s, zcV_s, zcI_s, zcJ_s, zcA_s, zcD_s, zcF_s, zth_n, zth_t, zrt_s, zQ_l, zQ_r, false_or, or_false, true_or, or_true, false_and, and_false, not_false_eq_true, not_true_eq_false, and_self, true_and, and_true, if_true, if_false, ite_true, ite_false]
  · rw [if_neg k0] at hy
    by_cases k1 : k = 1
    · rw [if_pos k1] at hy
      simp only [k1, show ¬ 1 = 0 by omega, in_f (hi := 7) (show 7 + 1 < 2 ^ 31 by omega) hy rfl, zmp_s, zlt_s, zcV_s, zcI_s, zcJ_s, zcA_s, zcD_s, zcF_s, zth_n, zth_t, zrt_s, zQ_l, zQ_r, false_or, or_false, true_or, or_true, false_and, and_false, not_false_eq_true, not_true_eq_false, and_self, true_and, and_true, if_true, if_false, ite_true, ite_false]
    · rw [if_neg k1] at hy
      simp only [k0, k1, in_f (hi := 999) (show 999 + 1 < 2 ^ 31 by omega) hy rfl, zmp_s, zlt_s, zcV_s, zcI_s, zcJ_s, zcA_s, zcD_s, zcF_s, zth_n, zth_t, zrt_s, zQ_l, zQ_r, false_or, or_false, true_or, or_true, false_and, and_false, not_false_eq_true, not_true_eq_false, and_self, true_and, and_true, if_true, if_false, ite_true, ite_false]
theorem r_setLock {d k v : Nat} (c : MI h N) (H : HP h P) (hd : d < N 1) (hk : k ≤ 2) (hv : v ≤ nGn k) (hM : WF (nCt (nSl N d k v))) : MR (sX6_setLock [.ref 125, .int (nI d), .int (nI k), .int (nI v)] h) (some (.int (nI (1000 * N (51 + 5 * d) + N (52 + 5 * d))))) 0 (MC h (nCt (nSl N d k v)) (pst N P)) := by
  obtain ⟨k0, e0, D0, fr0⟩ := r_rem c H
  have hF := c.2.2
  have hW := hF.1
  have h1 := hW.2.1
  have h41 := hF.2.2.2.2.1
  have D1 := D0.put (i := 51 + 5 * d) (x := k) (by omega)
  have D2 := D1.put (i := 52 + 5 * d) (x := v) (by omega)
  obtain ⟨d1, d2, d3, d4, d5, d6, d7⟩ := hW.2.2.2.2.1 d hd
  have ea : ∀ j, j = 49 ∨ j = 50 ∨ j = 53 → nSl N d k v (j + 5 * d) = N (j + 5 * d) := fun j hj => by
    unfold nSl
    rw [zput_ne _ _ (by omega), zput_ne _ _ (by omega)]
  have eb : nSl N d k v (51 + 5 * d) = k := by unfold nSl; rw [zput_ne _ _ (by omega), zput_self]
  have ec : nSl N d k v (52 + 5 * d) = v := by unfold nSl; rw [zput_self]
  have gn : nGn k ≤ 999 ∧ (k = 1 → nGn k = 7) := by
    unfold nGn
    by_cases q0 : k = 0
    · rw [if_pos q0]; omega
    · rw [if_neg q0]
      by_cases q1 : k = 1
      · rw [if_pos q1]; omega
      · rw [if_neg q1]; omega
  have wp : WP (nSl N d k v) := WP_door (d := d) hF.p (fun i hi => by unfold nSl; rw [zput_ne _ _ (by omega), zput_ne _ _ (by omega)]) (fun i hi hne j hj1 hj2 => by
    unfold nSl
    rw [zput_ne _ _ (by omega), zput_ne _ _ (by omega)]) (by
    rw [ea 49 (by omega), ea 50 (by omega), ea 53 (by omega), eb, ec]
    exact ⟨d1, d2, d3, hk, by omega, fun q => by have := gn.2 q; omega, d7⟩)
  obtain ⟨k2, e2, D3⟩ := D2.cut wp.1 (by
    show 1 ≤ nSl N d k v 4
    unfold nSl
    rw [zput_ne _ _ (by omega), zput_ne _ _ (by omega)]; exact h41)
  refine ⟨k2, ?_, D3.mc hM, D3.t⟩
  have m0 := D0.m
  have m1 := D1.m
  have m2 := D2.m
  have e1000 : (1000 : Int32) * nI (N (51 + 5 * d)) + nI (N (52 + 5 * d)) = nI (1000 * N (51 + 5 * d) + N (52 + 5 * d)) := by
    show nI 1000 * _ + _ = _
    rw [pk_mul, nI_add]
  refine zsem_eq (Nat.le_of_ble_eq_true rfl) (zTo_of gX6_setLock_0 ?_)
  simp only [c.1.1, r_isDoor c.1 c.2.1 h1 hd, r_isLock hk hv, i10, p2_t c.1, (c.go (MZ.th c 0)).1.1, e0, m0.1, m0.p1, m0.k6, r_ofDoor2 m0 D0.l (show d < 20 by omega), r_ofDoor3 m0 D0.l (show d < 20 by omega), ix49_2, ix49_3, nI_clamp (show 51 + 5 * d < 2 ^ 31 by omega), nI_lt0 (show 51 + 5 * d < 2 ^ 31 by omega), show ¬ 149 ≤ 51 + 5 * d by omega, m1.1, m1.p1, m1.k6, nI_clamp (show 52 + 5 * d < 2 ^ 31 by omega), nI_lt0 (show 52 + 5 * d < 2 ^ 31 by omega), show ¬ 149 ≤ 52 + 5 * d by omega, m2.1, e2, e1000, zmp_s, zlt_s, zcV_s, zcI_s, zcJ_s, zcA_s, zcD_s, zcF_s, zth_n, zth_t, zrt_s, zQ_l, zQ_r, false_or, or_false, true_or, or_true, false_and, and_false, not_false_eq_true, not_true_eq_false, and_self, true_and, and_true, if_true, if_false, ite_true, ite_false, zgd_t]
theorem r_setLockX {x y z : Int32} (c : MI h N) (hx : x < 0 ∨ nI (N 1) ≤ x) : MR (sX6_setLock [.ref 125, .int x, .int y, .int z] h) (some (.int 0)) 1 (MZ N h) := by
  refine ⟨zsI h 125 0 1, ?_, MZ.th c 1, th_0⟩
  have : ∃ b, sX6_isLock [.int y, .int z] h = some (.inl (some (.int b)), h) := by
    by_cases w : y < 0 ∨ nI 3 ≤ y
    · exact ⟨0, r_isLockX w h⟩
    · have w1 : ¬ y < 0 := fun x => w (Or.inl x)
      obtain ⟨j, hj, rfl⟩ := nI_of w1
      have w2 : j ≤ 2 := by
        have : ¬ nI 3 ≤ nI j := fun x => w (Or.inr x)
        rw [nI_leI (by omega) hj] at this
        omega
      by_cases u : z < 0 ∨ nI (nGn j + 1) ≤ z
      · exact ⟨0, r_isLockY w2 u h⟩
      · have u1 : ¬ z < 0 := fun x => u (Or.inl x)
        obtain ⟨i, hi, rfl⟩ := nI_of u1
        have gl : nGn j + 1 < 2 ^ 31 := by
          unfold nGn
          split
          · omega
          · split <;> omega
        have u2 : i ≤ nGn j := by
          have : ¬ nI (nGn j + 1) ≤ nI i := fun x => u (Or.inr x)
          rw [nI_leI gl hi] at this
          omega
        exact ⟨1, r_isLock w2 u2 h⟩
  obtain ⟨b, e⟩ := this
  refine zsem_eq (Nat.le_of_ble_eq_true rfl) (zTo_of gX6_setLock_0 ?_)
  simp only [c.1.1, r_isDoorX c.1 c.2.1 c.2.2.1.2.1 hx, e, p2_1 c.1, zmp_s, zlt_s, zcV_s, zcI_s, zcJ_s, zcA_s, zcD_s, zcF_s, zth_n, zth_t, zrt_s, zQ_l, zQ_r, false_or, or_false, true_or, or_true, false_and, and_false, not_false_eq_true, not_true_eq_false, and_self, true_and, and_true, if_true, if_false, ite_true, ite_false, zgd_t]
theorem r_setLockY {d : Nat} {y z : Int32} (c : MI h N) (hd : d < N 1) (hy : y < 0 ∨ nI 3 ≤ y) : MR (sX6_setLock [.ref 125, .int (nI d), .int y, .int z] h) (some (.int 0)) 2 (MZ N h) := by
  refine ⟨zsI h 125 0 2, ?_, MZ.th c 2, th_0⟩
  refine zsem_eq (Nat.le_of_ble_eq_true rfl) (zTo_of gX6_setLock_0 ?_)
  simp only [c.1.1, r_isDoor c.1 c.2.1 c.2.2.1.2.1 hd, r_isLockX hy, p2_2 c.1, zmp_s, zlt_s, zcV_s, zcI_s, zcJ_s, zcA_s, zcD_s, zcF_s, zth_n, zth_t, zrt_s, zQ_l, zQ_r, false_or, or_false, true_or, or_true, false_and, and_false, not_false_eq_true, not_true_eq_false, and_self, true_and, and_true, if_true, if_false, ite_true, ite_false, zgd_t]
theorem r_setLockZ {d k : Nat} {z : Int32} (c : MI h N) (hd : d < N 1) (hk : k ≤ 2) (hz : z < 0 ∨ nI (nGn k + 1) ≤ z) : MR (sX6_setLock [.ref 125, .int (nI d), .int (nI k), .int z] h) (some (.int 0)) 2 (MZ N h) := by
  refine ⟨zsI h 125 0 2, ?_, MZ.th c 2, th_0⟩
  refine zsem_eq (Nat.le_of_ble_eq_true rfl) (zTo_of gX6_setLock_0 ?_)
  simp only [c.1.1, r_isDoor c.1 c.2.1 c.2.2.1.2.1 hd, r_isLockY hk hz, p2_2 c.1, zmp_s, zlt_s, zcV_s, zcI_s, zcJ_s, zcA_s, zcD_s, zcF_s, zth_n, zth_t, zrt_s, zQ_l, zQ_r, false_or, or_false, true_or, or_true, false_and, and_false, not_false_eq_true, not_true_eq_false, and_self, true_and, and_true, if_true, if_false, ite_true, ite_false, zgd_t]
theorem r_removeDoor {d : Nat} (c : MI h N) (H : HP h P) (hd : d < N 1) (hM : WF (nCt (nDrop N d))) : MR (sX6_removeDoor [.ref 125, .int (nI d)] h) (some (.int (nI (N 1 - 1)))) 0 (MC h (nCt (nDrop N d)) (pst N P)) := by
  obtain ⟨k0, e0, D0, fr0⟩ := r_rem c H
  have hF := c.2.2
  have hW := hF.1
  have h1 := hW.2.1
  have h41 := hF.2.2.2.2.1
  obtain ⟨k1, e1, f1, L1⟩ := r_dropDoor D0.m D0.l hd h1
  have D1 := D0.fr f1 L1
  obtain ⟨k2, e2, D2⟩ := D1.cut (WB_nDrop hW d) (by rw [nDrop_lo (by omega) (by omega)]; exact h41)
  refine ⟨k2, ?_, D2.mc hM, D2.t⟩
  have rd := r_doors D2.m D2.l
  have ed : zput (nDrop N d) 4 (ncut (nDrop N d)) 1 = N 1 - 1 := by rw [zput_ne _ _ (by omega), nDrop_1]
  rw [ed] at rd
  refine zsem_eq (Nat.le_of_ble_eq_true rfl) (zTo_of gX6_removeDoor_0 ?_)
  simp only [c.1.1, r_isDoor c.1 c.2.1 h1 hd, i10, p1_t c.1, (c.go (MZ.th c 0)).1.1, e0, D0.m.1, e1, D1.m.1, e2, D2.m.1, rd, zmp_s, zlt_s, zcV_s, zcI_s, zcJ_s, zcA_s, zcD_s, zcF_s, zth_n, zth_t, zrt_s, zQ_l, zQ_r, false_or, or_false, true_or, or_true, false_and, and_false, not_false_eq_true, not_true_eq_false, and_self, true_and, and_true, if_true, if_false, ite_true, ite_false, zgd_t]
theorem r_removeDoorX {x : Int32} (c : MI h N) (hx : x < 0 ∨ nI (N 1) ≤ x) : MR (sX6_removeDoor [.ref 125, .int x] h) (some (.int 0)) 1 (MZ N h) := by
  refine ⟨zsI h 125 0 1, ?_, MZ.th c 1, th_0⟩
  refine zsem_eq (Nat.le_of_ble_eq_true rfl) (zTo_of gX6_removeDoor_0 ?_)
  simp only [c.1.1, r_isDoorX c.1 c.2.1 c.2.2.1.2.1 hx, p1_f c.1, zmp_s, zlt_s, zcV_s, zcI_s, zcJ_s, zcA_s, zcD_s, zcF_s, zth_n, zth_t, zrt_s, zQ_l, zQ_r, false_or, or_false, true_or, or_true, false_and, and_false, not_false_eq_true, not_true_eq_false, and_self, true_and, and_true, if_true, if_false, ite_true, ite_false, zgd_t]
end
end ZMP
