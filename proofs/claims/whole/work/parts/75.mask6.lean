/-! THE MODEL: keys and doors that are needed, doors opened. -/
section ZMN
section
variable {h : zm_H} {N : zLv}
theorem r_without (c : MI h N) {key : Nat} (hk : key < 8) : MR (sX6_without [.ref 125, .int (nI key)] h) (some (.long (lN (nTwo N key)))) 0 (MZ N h) := by
  have c1 := c.go (MZ.th c 0)
  obtain ⟨g, e1, w, w2⟩ := t_withoutKey c1 hk
  refine ⟨g, ?_, (MZ.th c 0).tr w, by rw [w2, th_0]⟩
  refine zsem_eq (Nat.le_of_ble_eq_true rfl) (zTo_of gX6_without_0 ?_)
  simp only [c.1.1, r_isKey hk, p1_t c.1, i10, c1.1.1, e1, zmp_s, zlt_s, zcV_s, zcI_s, zcJ_s, zcA_s, zcD_s, zcF_s, zth_n, zth_t, zrt_s, zQ_l, zQ_r, false_or, or_false, true_or, or_true, false_and, and_false, not_false_eq_true, not_true_eq_false, and_self, true_and, and_true, if_true, if_false, ite_true, ite_false, zgd_t]
theorem r_withoutX (c : MI h N) {x : Int32} (hx : x < 0 ∨ nI 8 ≤ x) : MR (sX6_without [.ref 125, .int x] h) (some (.long 0)) 1 (MZ N h) := by
  refine ⟨zsI h 125 0 1, ?_, MZ.th c 1, th_0⟩
  refine zsem_eq (Nat.le_of_ble_eq_true rfl) (zTo_of gX6_without_0 ?_)
  simp only [c.1.1, r_isKeyX hx, p1_f c.1, zmp_s, zlt_s, zcV_s, zcI_s, zcJ_s, zcA_s, zcD_s, zcF_s, zth_n, zth_t, zrt_s, zQ_l, zQ_r, false_or, or_false, true_or, or_true, false_and, and_false, not_false_eq_true, not_true_eq_false, and_self, true_and, and_true, if_true, if_false, ite_true, ite_false, zgd_t]
theorem r_neededKeys (c : MI h N) : MR (sX6_neededKeys [.ref 125] h) (some (.int (nI (nNk N)))) 0 (MZ N h) := by
  have c1 := c.go (MZ.th c 0)
  obtain ⟨g, e1, w⟩ := t_now c1
  have hF := c.2.2
  have tl := nTo_lt hF
  have e8 : ∀ k, k < 8 → ((8 : Int32) ≤ nI k) = False := fun k hk => eq_false (nI_ge (b := 8) hk (by omega))
  have z0 := lgle0 (show nTo N < 2 ^ 63 by omega)
  obtain ⟨R, hR⟩ : ∃ R : zm_O → Prop, R = (fun o => ∃ g, o = (.inl (some (.int (nI (nNk N)))), g) ∧ MZ N h g ∧ zI g 125 0 = 0) := ⟨_, rfl⟩
  have hsim : zW (sX6_neededKeys [.ref 125] h) R := by
    refine zsem_to (Nat.le_of_ble_eq_true rfl) (zTo_of gX6_neededKeys_0 ?_)
    simp only [c.1.1, c1.1.1, e1, z0, zmp_s, zlt_s, zcV_s, zcI_s, zcJ_s, zcA_s, zcD_s, zcF_s, zth_n, zth_t, zrt_s, zQ_l, zQ_r, false_or, or_false, true_or, or_true, false_and, and_false, not_false_eq_true, not_true_eq_false, and_self, true_and, and_true, if_true, if_false, ite_true, ite_false, zgd_t]
    by_cases z : nTo N = 0
    · rw [if_pos z]
      simp only [zmp_s, zlt_s, zcV_s, zcI_s, zcJ_s, zcA_s, zcD_s, zcF_s, zth_n, zth_t, zrt_s, zQ_l, zQ_r]
      refine zTo_of gX6_neededKeys_16 ?_
      have e80 : ((8 : Int32) ≤ 0) = False := e8 0 (by omega)
      simp only [e80, zmp_s, zlt_s, zcV_s, zcI_s, zcJ_s, zcA_s, zcD_s, zcF_s, zth_n, zth_t, zrt_s, zQ_l, zQ_r, false_or, or_false, true_or, or_true, false_and, and_false, not_false_eq_true, not_true_eq_false, and_self, true_and, and_true, if_true, if_false, ite_true, ite_false]
      rw [hR]
      refine ⟨g, ?_, (MZ.th c 0).tr w.1, by rw [w.2.1, th_0]⟩
      unfold nNk
      rw [if_pos z]; rfl
    · rw [if_neg z]
      simp only [zmp_s, zlt_s, zcV_s, zcI_s, zcJ_s, zcA_s, zcD_s, zcF_s, zth_n, zth_t, zrt_s, zQ_l, zQ_r]
      have loop : ∀ d k g, k + d = 8 → MZ N h g → zI g 125 0 = 0 → zTo vX6_neededKeys rX6_neededKeys (16, [some (.ref 125), some (.int 1), some (.int (nI (nmask (fun k => decide (nTwo N k = 0)) k))), some (.int (nI k))], [], g) R := by
        intro d
        induction d with
        | zero =>
          intro k g hk m t
          have hk : k = 8 := by omega
          subst hk
          refine zTo_of gX6_neededKeys_16 ?_
          simp only [show ((8 : Int32) ≤ nI 8) = True from eq_true (nI_le (a := 8) (b := 8) (by omega) (by omega)), zmp_s, zlt_s, zcV_s, zcI_s, zcJ_s, zcA_s, zcD_s, zcF_s, zth_n, zth_t, zrt_s, zQ_l, zQ_r, false_or, or_false, true_or, or_true, false_and, and_false, not_false_eq_true, not_true_eq_false, and_self, true_and, and_true, if_true, if_false, ite_true, ite_false]
          rw [hR]
          refine ⟨g, ?_, m, t⟩
          unfold nNk
          rw [if_neg z]
        | succ d ih =>
          intro k g hk m t
          have c2 := c.go m
          obtain ⟨g2, e2, w2, w3⟩ := t_withoutKey c2 (show k < 8 by omega)
          have wl := nTwo_lt hF k
          have nx := ih (k + 1) g2 (by omega) (m.tr w2) (by rw [w3, t])
          rw [nmask_s] at nx
          refine zTo_of gX6_neededKeys_16 ?_
          simp only [e8 k (by omega), i10, c2.1.1, e2, lgeq0 (show nTwo N k < 2 ^ 63 by omega), nx_shl1 (show k < 32 by omega), nx_or, or_0, nI_1, zmp_s, zlt_s, zcV_s, zcI_s, zcJ_s, zcA_s, zcD_s, zcF_s, zth_n, zth_t, zrt_s, zQ_l, zQ_r, false_or, or_false, true_or, or_true, false_and, and_false, not_false_eq_true, not_true_eq_false, and_self, true_and, and_true, if_true, if_false, ite_true, ite_false, zgd_t]
          by_cases q : nTwo N k = 0
          · simp only [q, decide_true, false_or, or_false, true_or, or_true, false_and, and_false, not_false_eq_true, not_true_eq_false, and_self, true_and, and_true, if_true, if_false, ite_true, ite_false, zmp_s, zlt_s, zcV_s, zcI_s, zcJ_s, zcA_s, zcD_s, zcF_s, zth_n, zth_t, zrt_s, zQ_l, zQ_r] at nx ⊢
            exact nx
          · simp only [q, decide_false, Bool.false_eq_true, false_or, or_false, true_or, or_true, false_and, and_false, not_false_eq_true, not_true_eq_false, and_self, true_and, and_true, if_true, if_false, ite_true, ite_false, zmp_s, zlt_s, zcV_s, zcI_s, zcJ_s, zcA_s, zcD_s, zcF_s, zth_n, zth_t, zrt_s, zQ_l, zQ_r] at nx ⊢
            exact nx
      exact loop 8 0 g (by omega) ((MZ.th c 0).tr w.1) (by rw [w.2.1, th_0])
  rw [hR] at hsim
  obtain ⟨o, k1, g, rfl, k2⟩ := hsim
  exact ⟨g, k1, k2⟩
theorem r_dropDoor (m0 : moS h 126) (mL : ML h 126 N) {d : Nat} (hd : d < N 1) (h1 : N 1 ≤ 20) : ∃ g, sX6_dropDoor [.ref 125, .int (nI d)] h = some (.inl none, g) ∧ zFr (fun c => c = 126) h g ∧ ML g 126 (nDrop N d) := by
  have e49 : ∀ x, (49 : Int32) + (5 : Int32) * nI x = nI (49 + 5 * x) := fun x => by
    show nI 49 + nI 5 * nI x = _
    rw [pk_mul, nI_add]
  have em : nI (N 1) - (1 : Int32) = nI (N 1 - 1) := pk_sub (b := 1) (by omega)
  obtain ⟨mv, hmv⟩ : ∃ mv : Nat → zLv, mv = fun t k => if 49 + 5 * d ≤ k ∧ k < t then N (k + 5) else N k := ⟨_, rfl⟩
  have key : ∀ e k g, k + e = 49 + 5 * (N 1 - 1) → 49 + 5 * d ≤ k → zFr (fun c => c = 126) h g → ML g 126 (mv k) → zTo vX6_dropDoor rX6_dropDoor (6, [some (.ref 125), none, some (.int (nI k))], [], g) (fun o => ∃ g, o = (.inl none, g) ∧ zFr (fun c => c = 126) h g ∧ ML g 126 (nDrop N d)) := by
    intro e
    induction e with
    | zero =>
      intro k g hk hk2 fr Y
      have hk : k = 49 + 5 * (N 1 - 1) := by omega
      have m1 := moS_fr fr m0
      have l1 : mv k 1 = N 1 := by rw [hmv]; exact if_neg (by omega)
      have rd := r_doors m1 Y
      have lv := Y.at (i := 1) (by omega) (by omega)
      rw [l1] at rd lv
      refine zTo_of gX6_dropDoor_6 ?_
      simp only [m1.1, rd, em, e49, hk, nI_le (Nat.le_refl _) (show 49 + 5 * (N 1 - 1) < 2 ^ 31 by omega), m1.2.2.2.1, m1.2.2.2.2.2.2.2.2.2.2.2.2.2.2.2.2.1, c_1, p_1, lv, show ¬ 149 ≤ 1 by omega, zmp_s, zlt_s, zcV_s, zcI_s, zcJ_s, zcA_s, zcD_s, zcF_s, zth_n, zth_t, zrt_s, zQ_l, zQ_r, false_or, or_false, true_or, or_true, false_and, and_false, not_false_eq_true, not_true_eq_false, and_self, true_and, and_true, if_true, if_false, ite_true, ite_false, zgd_t]
      refine ⟨_, rfl, fr.tr (zFr.sI rfl), ?_⟩
      have := ML_put (i := 1) (x := N 1 - 1) Y (by omega)
      have e2 : zput (mv k) 1 (N 1 - 1) = nDrop N d := by
        unfold nDrop nMv
        rw [hmv, hk]
      rw [e2] at this
      exact this
    | succ e ih =>
      intro k g hk hk2 fr Y
      have m1 := moS_fr fr m0
      have l1 : mv k 1 = N 1 := by rw [hmv]; exact if_neg (by omega)
      have rd := r_doors m1 Y
      rw [l1] at rd
      have lv := Y.at (i := k + 5) (by omega) (by omega)
      have lk : mv k (k + 5) = N (k + 5) := by rw [hmv]; exact if_neg (by omega)
      rw [lk] at lv
      have a5 : nI k + (5 : Int32) = nI (k + 5) := nI_add k 5
      have f1 : (nI (49 + 5 * (N 1 - 1)) ≤ nI k) = False := eq_false (nI_ge (by omega) (by omega))
      refine zTo_of gX6_dropDoor_6 ?_
      simp only [m1.1, rd, em, e49, f1, m1.2.2.2.1, m1.2.2.2.2.2.2.2.2.2.2.2.2.2.2.2.2.1, a5, nI_clamp (show k + 5 < 2 ^ 31 by omega), nI_lt0 (show k + 5 < 2 ^ 31 by omega), show ¬ 149 ≤ k + 5 by omega, nI_clamp (show k < 2 ^ 31 by omega), nI_lt0 (show k < 2 ^ 31 by omega), show ¬ 149 ≤ k by omega, lv, nI_1, zmp_s, zlt_s, zcV_s, zcI_s, zcJ_s, zcA_s, zcD_s, zcF_s, zth_n, zth_t, zrt_s, zQ_l, zQ_r, false_or, or_false, true_or, or_true, false_and, and_false, not_false_eq_true, not_true_eq_false, and_self, true_and, and_true, if_true, if_false, ite_true, ite_false, zgd_t]
      refine ih (k + 1) _ (by omega) (by omega) (fr.tr (zFr.sI rfl)) ?_
      have := ML_put (i := k) (x := N (k + 5)) Y (by omega)
      have e2 : zput (mv k) k (N (k + 5)) = mv (k + 1) := by
        rw [hmv]
        funext i
        unfold zput
        dsimp only
        by_cases q : i = k
        · rw [if_pos q, q, if_pos ⟨by omega, by omega⟩]
        · rw [if_neg q]
          by_cases q2 : 49 + 5 * d ≤ i ∧ i < k
          · rw [if_pos q2, if_pos ⟨q2.1, by omega⟩]
          · rw [if_neg q2, if_neg (by omega)]
      rw [e2] at this
      exact this
  have hsim : zW (sX6_dropDoor [.ref 125, .int (nI d)] h) (fun o => ∃ g, o = (.inl none, g) ∧ zFr (fun c => c = 126) h g ∧ ML g 126 (nDrop N d)) := by
    refine zsem_to (Nat.le_of_ble_eq_true rfl) (zTo_of gX6_dropDoor_0 ?_)
    simp only [e49, zmp_s, zlt_s, zcV_s, zcI_s, zcJ_s, zcA_s, zcD_s, zcF_s, zth_n, zth_t, zrt_s, zQ_l, zQ_r]
    have e3 : mv (49 + 5 * d) = N := by rw [hmv]; funext i; exact if_neg (by omega)
    exact key (5 * (N 1 - 1) - 5 * d) (49 + 5 * d) h (by omega) (by omega) zFr.rf (by rw [e3]; exact mL)
  obtain ⟨o, e1, g, rfl, e2⟩ := hsim
  exact ⟨g, e1, e2⟩
theorem LC_nDrop (hF : WF N) (d : Nat) : LC (nDrop N d) := by
  have := hF.lc
  refine ⟨WB_nDrop hF.1 d, by rw [nDrop_lo (by omega) (by omega)]; exact this.2.1, by rw [nDrop_lo (by omega) (by omega), nDrop_lo (by omega) (by omega)]; exact this.2.2⟩
theorem AS.fr {M K : zLv} {k g : zm_H} (a : AS N M h k) (fr : zFr (fun c => c = 126) k g) (hK : ML g 126 K) : AS N K h g := ⟨a.1.tr (fr.mono (fun q hq => Or.inl hq)), ML_fr fr (by omega) a.2.1, hK⟩
theorem t_withoutDoor (c : MI h N) {d : Nat} (hd : d < N 1) : ∃ g, sX6_withoutDoor [.ref 125, .int (nI d)] h = some (.inl (some (.long (lN (nTwd N d)))), g) ∧ MZ N h g ∧ zI g 125 0 = zI h 125 0 := by
  have hF := c.2.2
  obtain ⟨g0, e1, a0⟩ := r_keepAside c
  have m0 := moS_fr a0.1 c.1
  obtain ⟨g1, e2, fr1, L1⟩ := r_dropDoor m0 a0.2.2 hd hF.1.2.1
  have a1 := a0.fr fr1 L1
  have m1 := moS_fr a1.1 c.1
  obtain ⟨g2, e3, a2⟩ := t_as c a1 (LC_nDrop hF d)
  rw [nDrop_lo (by omega) (by omega)] at e3
  have m2 := moS_fr a2.1 c.1
  obtain ⟨g3, e4, w⟩ := r_layBack c a2 (lN (nTT (nDrop N d) (2 ^ N 2) (N 2)))
  refine ⟨g3, ?_, w⟩
  refine zsem_eq (Nat.le_of_ble_eq_true rfl) (zTo_of gX6_withoutDoor_0 ?_)
  simp only [c.1.1, e1, m0.1, e2, m1.1, e3, m2.1, e4, zmp_s, zlt_s, zcV_s, zcI_s, zcJ_s, zcA_s, zcD_s, zcF_s, zth_n, zth_t, zrt_s, zQ_l, zQ_r, false_or, or_false, true_or, or_true, false_and, and_false, not_false_eq_true, not_true_eq_false, and_self, true_and, and_true, if_true, if_false, ite_true, ite_false, zgd_t]
  rfl
theorem r_toursWithout (c : MI h N) {d : Nat} (hd : d < N 1) : MR (sX6_toursWithout [.ref 125, .int (nI d)] h) (some (.long (lN (nTwd N d)))) 0 (MZ N h) := by
  have c1 := c.go (MZ.th c 0)
  obtain ⟨g, e1, w, w2⟩ := t_withoutDoor c1 hd
  refine ⟨g, ?_, (MZ.th c 0).tr w, by rw [w2, th_0]⟩
  refine zsem_eq (Nat.le_of_ble_eq_true rfl) (zTo_of gX6_toursWithout_0 ?_)
  simp only [c.1.1, r_isDoor c.1 c.2.1 c.2.2.1.2.1 hd, p1_t c.1, i10, c1.1.1, e1, zmp_s, zlt_s, zcV_s, zcI_s, zcJ_s, zcA_s, zcD_s, zcF_s, zth_n, zth_t, zrt_s, zQ_l, zQ_r, false_or, or_false, true_or, or_true, false_and, and_false, not_false_eq_true, not_true_eq_false, and_self, true_and, and_true, if_true, if_false, ite_true, ite_false, zgd_t]
theorem r_toursWithoutX (c : MI h N) {x : Int32} (hx : x < 0 ∨ nI (N 1) ≤ x) : MR (sX6_toursWithout [.ref 125, .int x] h) (some (.long 0)) 1 (MZ N h) := by
  refine ⟨zsI h 125 0 1, ?_, MZ.th c 1, th_0⟩
  refine zsem_eq (Nat.le_of_ble_eq_true rfl) (zTo_of gX6_toursWithout_0 ?_)
  simp only [c.1.1, r_isDoorX c.1 c.2.1 c.2.2.1.2.1 hx, p1_f c.1, zmp_s, zlt_s, zcV_s, zcI_s, zcJ_s, zcA_s, zcD_s, zcF_s, zth_n, zth_t, zrt_s, zQ_l, zQ_r, false_or, or_false, true_or, or_true, false_and, and_false, not_false_eq_true, not_true_eq_false, and_self, true_and, and_true, if_true, if_false, ite_true, ite_false, zgd_t]
theorem r_neededDoors (c : MI h N) : MR (sX6_neededDoors [.ref 125] h) (some (.int (nI (nNd N)))) 0 (MZ N h) := by
  have c1 := c.go (MZ.th c 0)
  obtain ⟨g, e1, w⟩ := t_now c1
  have hF := c.2.2
  have h1 := hF.1.2.1
  have tl := nTo_lt hF
  have z0 := lgle0 (show nTo N < 2 ^ 63 by omega)
  obtain ⟨R, hR⟩ : ∃ R : zm_O → Prop, R = (fun o => ∃ g, o = (.inl (some (.int (nI (nNd N)))), g) ∧ MZ N h g ∧ zI g 125 0 = 0) := ⟨_, rfl⟩
  have hsim : zW (sX6_neededDoors [.ref 125] h) R := by
    refine zsem_to (Nat.le_of_ble_eq_true rfl) (zTo_of gX6_neededDoors_0 ?_)
    simp only [c.1.1, c1.1.1, e1, z0, zmp_s, zlt_s, zcV_s, zcI_s, zcJ_s, zcA_s, zcD_s, zcF_s, zth_n, zth_t, zrt_s, zQ_l, zQ_r, false_or, or_false, true_or, or_true, false_and, and_false, not_false_eq_true, not_true_eq_false, and_self, true_and, and_true, if_true, if_false, ite_true, ite_false, zgd_t]
    by_cases z : nTo N = 0
    · rw [if_pos z]
      simp only [zmp_s, zlt_s, zcV_s, zcI_s, zcJ_s, zcA_s, zcD_s, zcF_s, zth_n, zth_t, zrt_s, zQ_l, zQ_r]
      have c2 := c1.go w.1
      have rd := r_doors c2.1 c2.2.1
      refine zTo_of gX6_neededDoors_16 ?_
      have e80 : (nI (N 1) ≤ (0 : Int32)) = (N 1 ≤ 0) := propext (nI_leI (b := 0) (by omega) (by omega))
      simp only [c2.1.1, rd, e80, zmp_s, zlt_s, zcV_s, zcI_s, zcJ_s, zcA_s, zcD_s, zcF_s, zth_n, zth_t, zrt_s, zQ_l, zQ_r, false_or, or_false, true_or, or_true, false_and, and_false, not_false_eq_true, not_true_eq_false, and_self, true_and, and_true, if_true, if_false, ite_true, ite_false, zgd_t]
      rw [ite_self, zQ_r]
      rw [hR]
      refine ⟨g, ?_, (MZ.th c 0).tr w.1, by rw [w.2.1, th_0]⟩
      unfold nNd
      rw [if_pos z]; rfl
    · rw [if_neg z]
      simp only [zmp_s, zlt_s, zcV_s, zcI_s, zcJ_s, zcA_s, zcD_s, zcF_s, zth_n, zth_t, zrt_s, zQ_l, zQ_r]
      have loop : ∀ d k g, k + d = N 1 → MZ N h g → zI g 125 0 = 0 → zTo vX6_neededDoors rX6_neededDoors (16, [some (.ref 125), some (.int 1), some (.int (nI (nmask (fun k => decide (nTwd N k = 0)) k))), some (.int (nI k))], [], g) R := by
        intro d
        induction d with
        | zero =>
          intro k g hk m t
          have hk : k = N 1 := by omega
          subst hk
          have c2 := c.go m
          refine zTo_of gX6_neededDoors_16 ?_
          simp only [c2.1.1, r_doors c2.1 c2.2.1, nI_le (Nat.le_refl _) (show N 1 < 2 ^ 31 by omega), zmp_s, zlt_s, zcV_s, zcI_s, zcJ_s, zcA_s, zcD_s, zcF_s, zth_n, zth_t, zrt_s, zQ_l, zQ_r, false_or, or_false, true_or, or_true, false_and, and_false, not_false_eq_true, not_true_eq_false, and_self, true_and, and_true, if_true, if_false, ite_true, ite_false, zgd_t]
          rw [hR]
          refine ⟨g, ?_, m, t⟩
          unfold nNd
          rw [if_neg z]
        | succ d ih =>
          intro k g hk m t
          have c2 := c.go m
          obtain ⟨f1, f2, f3, f4⟩ := nI_for (show k < N 1 by omega) (by omega)
          obtain ⟨g2, e2, w2, w3⟩ := t_withoutDoor c2 (show k < N 1 by omega)
          have wl := nTwd_lt hF k
          have nx := ih (k + 1) g2 (by omega) (m.tr w2) (by rw [w3, t])
          rw [nmask_s] at nx
          refine zTo_of gX6_neededDoors_16 ?_
          simp only [c2.1.1, r_doors c2.1 c2.2.1, f1, i10, e2, lgeq0 (show nTwd N k < 2 ^ 63 by omega), nx_shl1 (show k < 32 by omega), nx_or, or_0, nI_1, zmp_s, zlt_s, zcV_s, zcI_s, zcJ_s, zcA_s, zcD_s, zcF_s, zth_n, zth_t, zrt_s, zQ_l, zQ_r, false_or, or_false, true_or, or_true, false_and, and_false, not_false_eq_true, not_true_eq_false, and_self, true_and, and_true, if_true, if_false, ite_true, ite_false, zgd_t]
          by_cases q : nTwd N k = 0
          · simp only [q, decide_true, false_or, or_false, true_or, or_true, false_and, and_false, not_false_eq_true, not_true_eq_false, and_self, true_and, and_true, if_true, if_false, ite_true, ite_false, zmp_s, zlt_s, zcV_s, zcI_s, zcJ_s, zcA_s, zcD_s, zcF_s, zth_n, zth_t, zrt_s, zQ_l, zQ_r] at nx ⊢
            exact nx
          · simp only [q, decide_false, Bool.false_eq_true, false_or, or_false, true_or, or_true, false_and, and_false, not_false_eq_true, not_true_eq_false, and_self, true_and, and_true, if_true, if_false, ite_true, ite_false, zmp_s, zlt_s, zcV_s, zcI_s, zcJ_s, zcA_s, zcD_s, zcF_s, zth_n, zth_t, zrt_s, zQ_l, zQ_r] at nx ⊢
            exact nx
      exact loop (N 1) 0 g (by omega) ((MZ.th c 0).tr w.1) (by rw [w.2.1, th_0])
  rw [hR] at hsim
  obtain ⟨o, k1, g, rfl, k2⟩ := hsim
  exact ⟨g, k1, k2⟩
-- a door free
def nOq (N : zLv) (d : Nat) : zLv := zput (zput N (51 + 5 * d) 0) (53 + 5 * d) 0
theorem nOq_lo {d i : Nat} (h : i < 49) : nOq N d i = N i := by unfold nOq; rw [zput_ne _ _ (by omega), zput_ne _ _ (by omega)]
theorem nOq_nnx (h0 : N 0 ≤ 11) (d : Nat) : nnx (nOq N d) = nnx (nOp N d) := by
  have lo : ∀ i, i < 49 → nOp N d i = nOq N d i := fun i hi => by rw [nOp_lo hi, nOq_lo hi]
  have a : ∀ i, i % 5 ≠ 2 → nOp N d i = nOq N d i := fun i hi => by
    unfold nOp nOq zput
    by_cases e1 : i = 53 + 5 * d
    · rw [if_pos e1, if_pos e1]
    · rw [if_neg e1, if_neg e1, if_neg (show ¬ i = 52 + 5 * d by omega)]
  have k0 : ∀ S, nkeys (nOq N d) S = nkeys (nOp N d) S := fun S => nkeys_cr (by rw [nOp_lo (by omega)]; exact h0) (fun i hi => (lo i (by omega)).symm) S
  have c0 : ∀ S, ncoins (nOq N d) S = ncoins (nOp N d) S := fun S => ncoins_cr (by rw [nOp_lo (by omega)]; exact h0) (fun i hi => (lo i (by omega)).symm) S
  have op : ∀ e K C, nopen (nOq N d) e K C = nopen (nOp N d) e K C := fun e K C => by
    unfold nopen
    rw [a (51 + 5 * e) (by omega)]
    by_cases q : e = d
    · subst q
      have : nOq N e (51 + 5 * e) = 0 := by unfold nOq; rw [zput_ne _ _ (by omega), zput_self]
      rw [this]; simp
    · have : nOp N d (52 + 5 * e) = nOq N d (52 + 5 * e) := by
        unfold nOp nOq
        rw [zput_ne _ _ (by omega), zput_ne _ _ (by omega), zput_ne _ _ (by omega), zput_ne _ _ (by omega), zput_ne _ _ (by omega)]
      rw [this]
  funext S r b
  unfold nnx
  have : nld (nOq N d) S r = nld (nOp N d) S r := by
    unfold nld
    rw [← lo 1 (by omega)]
    refine zfo_congr _ (fun e x _ => ?_)
    unfold ndstep
    rw [op, k0, c0, a (53 + 5 * e) (by omega), a (50 + 5 * e) (by omega), a (49 + 5 * e) (by omega)]
  rw [this]
theorem nOq_TT (h0 : N 0 ≤ 11) (d : Nat) : nTT (nOq N d) = nTT (nOp N d) := by
  funext S a
  unfold nTT
  rw [nOq_nnx h0]
  have e0 : nOq N d 0 = nOp N d 0 := by rw [nOq_lo (by omega), nOp_lo (by omega)]
  have e3 : nOq N d 3 = nOp N d 3 := by rw [nOq_lo (by omega), nOp_lo (by omega)]
  have : nba (nOq N d) = nba (nOp N d) := by
    funext S a
    unfold nba nme
    rw [e0, e3]
  rw [this, e0]
theorem LC_nOq (hF : WF N) {d : Nat} (hd : d < N 1) : LC (nOq N d) := by
  have := hF.lc
  obtain ⟨d1, d2, d3, d4, d5, d6, d7⟩ := hF.1.2.2.2.2.1 d hd
  have e : ∀ j, j = 49 ∨ j = 50 ∨ j = 52 → nOq N d (j + 5 * d) = N (j + 5 * d) := fun j hj => by
    unfold nOq
    rw [zput_ne _ _ (by omega), zput_ne _ _ (by omega)]
  have e1 : nOq N d (51 + 5 * d) = 0 := by unfold nOq; rw [zput_ne _ _ (by omega), zput_self]
  have e3 : nOq N d (53 + 5 * d) = 0 := by unfold nOq; rw [zput_self]
  have wp : WP (nOq N d) := WP_door (d := d) hF.p (fun i hi => nOq_lo hi) (fun i hi hne j hj1 hj2 => by
    unfold nOq
    rw [zput_ne _ _ (by omega), zput_ne _ _ (by omega)]) (by
    rw [e 49 (by omega), e 50 (by omega), e 52 (by omega), e1, e3]
    exact ⟨d1, d2, d3, by omega, d5, by omega, by omega⟩)
  exact ⟨wp.1, by rw [nOq_lo (by omega)]; exact this.2.1, by rw [nOq_lo (by omega), nOq_lo (by omega)]; exact this.2.2⟩
theorem t_withOpen (c : MI h N) {d : Nat} (hd : d < N 1) : ∃ g, sX6_withOpen [.ref 125, .int (nI d)] h = some (.inl (some (.long (lN (nTio N d)))), g) ∧ MZ N h g ∧ zI g 125 0 = zI h 125 0 := by
  have hF := c.2.2
  have h1 := hF.1.2.1
  obtain ⟨g0, e1, a0⟩ := r_keepAside c
  have m0 := moS_fr a0.1 c.1
  have a1 := a0.put (i := 51 + 5 * d) (x := 0) (by omega)
  have m1 := moS_fr a1.1 c.1
  have a2 := a1.put (i := 53 + 5 * d) (x := 0) (by omega)
  have m2 := moS_fr a2.1 c.1
  obtain ⟨g2, e3, a3⟩ := t_as c a2 (LC_nOq hF hd)
  have e4 : nTT (zput (zput N (51 + 5 * d) 0) (53 + 5 * d) 0) = nTT (nOp N d) := nOq_TT hF.1.1 d
  have e5 : (zput (zput N (51 + 5 * d) 0) (53 + 5 * d) 0) 2 = N 2 := nOq_lo (N := N) (d := d) (by omega)
  rw [e4, e5] at e3
  have m3 := moS_fr a3.1 c.1
  obtain ⟨g3, e6, w⟩ := r_layBack c a3 (lN (nTT (nOp N d) (2 ^ N 2) (N 2)))
  refine ⟨g3, ?_, w⟩
  refine zsem_eq (Nat.le_of_ble_eq_true rfl) (zTo_of gX6_withOpen_0 ?_)
  rw [nI_0] at e3 m1 m2
  simp only [c.1.1, e1, m0.1, m0.2.2.2.1, m0.2.2.2.2.2.2.2.2.2.2.2.2.2.2.2.2.1, m1.1, m1.2.2.2.1, m1.2.2.2.2.2.2.2.2.2.2.2.2.2.2.2.2.1, ix49_2, ix49_4, nI_clamp (show 51 + 5 * d < 2 ^ 31 by omega), nI_lt0 (show 51 + 5 * d < 2 ^ 31 by omega), show ¬ 149 ≤ 51 + 5 * d by omega, nI_clamp (show 53 + 5 * d < 2 ^ 31 by omega), nI_lt0 (show 53 + 5 * d < 2 ^ 31 by omega), show ¬ 149 ≤ 53 + 5 * d by omega, m2.1, e3, m3.1, e6, zmp_s, zlt_s, zcV_s, zcI_s, zcJ_s, zcA_s, zcD_s, zcF_s, zth_n, zth_t, zrt_s, zQ_l, zQ_r, false_or, or_false, true_or, or_true, false_and, and_false, not_false_eq_true, not_true_eq_false, and_self, true_and, and_true, if_true, if_false, ite_true, ite_false, zgd_t]
  rfl
theorem r_toursIfOpen (c : MI h N) {d : Nat} (hd : d < N 1) : MR (sX6_toursIfOpen [.ref 125, .int (nI d)] h) (some (.long (lN (nTio N d)))) 0 (MZ N h) := by
  have c1 := c.go (MZ.th c 0)
  obtain ⟨g, e1, w, w2⟩ := t_withOpen c1 hd
  refine ⟨g, ?_, (MZ.th c 0).tr w, by rw [w2, th_0]⟩
  refine zsem_eq (Nat.le_of_ble_eq_true rfl) (zTo_of gX6_toursIfOpen_0 ?_)
  simp only [c.1.1, r_isDoor c.1 c.2.1 c.2.2.1.2.1 hd, p1_t c.1, i10, c1.1.1, e1, zmp_s, zlt_s, zcV_s, zcI_s, zcJ_s, zcA_s, zcD_s, zcF_s, zth_n, zth_t, zrt_s, zQ_l, zQ_r, false_or, or_false, true_or, or_true, false_and, and_false, not_false_eq_true, not_true_eq_false, and_self, true_and, and_true, if_true, if_false, ite_true, ite_false, zgd_t]
theorem r_toursIfOpenX (c : MI h N) {x : Int32} (hx : x < 0 ∨ nI (N 1) ≤ x) : MR (sX6_toursIfOpen [.ref 125, .int x] h) (some (.long 0)) 1 (MZ N h) := by
  refine ⟨zsI h 125 0 1, ?_, MZ.th c 1, th_0⟩
  refine zsem_eq (Nat.le_of_ble_eq_true rfl) (zTo_of gX6_toursIfOpen_0 ?_)
  simp only [c.1.1, r_isDoorX c.1 c.2.1 c.2.2.1.2.1 hx, p1_f c.1, zmp_s, zlt_s, zcV_s, zcI_s, zcJ_s, zcA_s, zcD_s, zcF_s, zth_n, zth_t, zrt_s, zQ_l, zQ_r, false_or, or_false, true_or, or_true, false_and, and_false, not_false_eq_true, not_true_eq_false, and_self, true_and, and_true, if_true, if_false, ite_true, ite_false, zgd_t]
theorem bLlt {a m : Nat} (ha : a < 2 ^ 62) (hm : m < 2 ^ 62) : (lN a < bL m) = (a + 1 < m) := by
  unfold bL
  by_cases z : m = 0
  · rw [if_pos z]
    refine propext ⟨fun w => ?_, fun w => by omega⟩
    have := Int64.lt_iff_toInt_lt.mp w
    rw [lN_toInt63 ha] at this
    have e : (-1 : Int64).toInt = -1 := rfl
    omega
  · rw [if_neg z, propext (pk_lLT (show a < 2 ^ 63 by omega) (show m - 1 < 2 ^ 63 by omega))]
    apply propext; omega
theorem r_bestDoor (c : MI h N) : MR (sX6_bestDoor [.ref 125] h) (some (.int (eI (nBs N (N 1)).1))) 0 (MZ N h) := by
  have c1 := c.go (MZ.th c 0)
  have hF := c.2.2
  have h1 := hF.1.2.1
  obtain ⟨R, hR⟩ : ∃ R : zm_O → Prop, R = (fun o => ∃ g, o = (.inl (some (.int (eI (nBs N (N 1)).1))), g) ∧ MZ N h g ∧ zI g 125 0 = 0) := ⟨_, rfl⟩
  have loop : ∀ d k E g, k + d = N 1 → E = eI (nBs N k).1 → MZ N h g → zI g 125 0 = 0 → zTo vX6_bestDoor rX6_bestDoor (9, [some (.ref 125), some (.int E), some (.long (bL (nBs N k).2)), none, some (.int (nI k)), none, none], [], g) R := by
    intro d
    induction d with
    | zero =>
      intro k E g hk hE m t
      have hk : k = N 1 := by omega
      subst hk
      have c2 := c.go m
      refine zTo_of gX6_bestDoor_9 ?_
      simp only [c2.1.1, r_doors c2.1 c2.2.1, nI_le (Nat.le_refl _) (show N 1 < 2 ^ 31 by omega), zmp_s, zlt_s, zcV_s, zcI_s, zcJ_s, zcA_s, zcD_s, zcF_s, zth_n, zth_t, zrt_s, zQ_l, zQ_r, false_or, or_false, true_or, or_true, false_and, and_false, not_false_eq_true, not_true_eq_false, and_self, true_and, and_true, if_true, if_false, ite_true, ite_false, zgd_t]
      rw [hR]
      exact ⟨g, by rw [hE], m, t⟩
    | succ d ih =>
      intro k E g hk hE m t
      have c2 := c.go m
      have hkn : k < N 1 := by omega
      obtain ⟨f1, f2, f3, f4⟩ := nI_for hkn (by omega)
      obtain ⟨g2, e2, w2, w3⟩ := t_withOpen c2 hkn
      have tl := nTio_lt hF k
      have bl := nBs_lt hF k
      have bs : nBs N (k + 1) = if nTio N k + 1 ≤ (nBs N k).2 then nBs N k else (k + 1, nTio N k + 1) := rfl
      refine zTo_of gX6_bestDoor_9 ?_
      simp only [c2.1.1, r_doors c2.1 c2.2.1, f1, f4, e2, bLle (show nTio N k < 2 ^ 62 by omega) (show (nBs N k).2 < 2 ^ 62 by omega), bLlt (show nTio N k < 2 ^ 62 by omega) (show (nBs N k).2 < 2 ^ 62 by omega), zmp_s, zlt_s, zcV_s, zcI_s, zcJ_s, zcA_s, zcD_s, zcF_s, zth_n, zth_t, zrt_s, zQ_l, zQ_r, false_or, or_false, true_or, or_true, false_and, and_false, not_false_eq_true, not_true_eq_false, and_self, true_and, and_true, if_true, if_false, ite_true, ite_false, zgd_t]
      by_cases q : nTio N k + 1 ≤ (nBs N k).2
      · rw [if_pos q]
        rw [if_pos q] at bs
        have e3 : (if nTio N k + 1 < (nBs N k).2 then bL (nBs N k).2 else lN (nTio N k)) = bL (nBs N (k + 1)).2 := by
          rw [bs]
          by_cases q2 : nTio N k + 1 < (nBs N k).2
          · rw [if_pos q2]
          · rw [if_neg q2]
            have : (nBs N k).2 = nTio N k + 1 := by omega
            rw [this]; rfl
        rw [e3]
        simp only [zmp_s, zlt_s, zcV_s, zcI_s, zcJ_s, zcA_s, zcD_s, zcF_s, zth_n, zth_t, zrt_s, zQ_l, zQ_r]
        exact ih (k + 1) E g2 (by omega) (by rw [bs]; exact hE) (m.tr w2) (by rw [w3, t])
      · rw [if_neg q]
        rw [if_neg q] at bs
        have e3 : (if nTio N k + 1 < (nBs N k).2 then bL (nBs N k).2 else lN (nTio N k)) = bL (nBs N (k + 1)).2 := by
          rw [bs, if_neg (by omega)]; rfl
        rw [e3]
        simp only [zmp_s, zlt_s, zcV_s, zcI_s, zcJ_s, zcA_s, zcD_s, zcF_s, zth_n, zth_t, zrt_s, zQ_l, zQ_r]
        exact ih (k + 1) (nI k) g2 (by omega) (by rw [bs]; exact (eI_s k).symm) (m.tr w2) (by rw [w3, t])
  have hsim : zW (sX6_bestDoor [.ref 125] h) R := by
    refine zsem_to (Nat.le_of_ble_eq_true rfl) (zTo_of gX6_bestDoor_0 ?_)
    simp only [c.1.1, zmp_s, zlt_s, zcV_s, zcI_s, zcJ_s, zcA_s, zcD_s, zcF_s, zth_n, zth_t, zrt_s, zQ_l, zQ_r, false_or, or_false, true_or, or_true, false_and, and_false, not_false_eq_true, not_true_eq_false, and_self, true_and, and_true, if_true, if_false, ite_true, ite_false, zgd_t]
    exact loop (N 1) 0 (-1) _ (by omega) (by rw [show (nBs N 0).1 = 0 from rfl, eI_0]) (MZ.th c 0) th_0
  rw [hR] at hsim
  obtain ⟨o, k1, g, rfl, k2⟩ := hsim
  exact ⟨g, k1, k2⟩
end
end ZMN
