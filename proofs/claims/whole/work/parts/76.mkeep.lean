/-! THE MODEL: what is kept for undo, slots. -/
section ZMO
/-- what is kept for undo, the latest first -/
def HP (h : zm_H) (P : List zLv) : Prop := P.length ≤ 6 ∧ zI h 125 24 = nI P.length ∧ ∀ i M, P[i]? = some M → WF M ∧ ∀ j, j < 149 → zI h 137 (149 * (P.length - 1 - i) + j) = mI M j
theorem HP_fr {A : Nat → Prop} {h g : zm_H} {P : List zLv} (fr : zFr A h g) (hA : ¬ A 137) (e : zI g 125 24 = zI h 125 24) (H : HP h P) : HP g P :=
  ⟨H.1, by rw [e]; exact H.2.1, fun i M hi => ⟨(H.2.2 i M hi).1, fun j hj => by rw [fr.I hA]; exact (H.2.2 i M hi).2 j hj⟩⟩
theorem HP_q {h g : zm_H} {N : zLv} {P : List zLv} (q : MZ N h g) (H : HP h P) : HP g P := HP_fr q.1 (by unfold mqA; omega) (q.2.1 24 (by omega)) H
theorem ix149 (m k : Nat) : (149 : Int32) * nI m + nI k = nI (149 * m + k) := by
  show nI 149 * nI m + nI k = _
  rw [pk_mul, nI_add]
theorem le149 {k : Nat} (hk : k < 149) : ((149 : Int32) ≤ nI k) = False := eq_false (nI_ge (b := 149) hk (by omega))
theorem le149e : ((149 : Int32) ≤ nI 149) = True := eq_true (nI_le (a := 149) (b := 149) (by omega) (by omega))
def rmA : Nat → Prop := fun c => c = 125 ∨ c = 137
section
variable {h : zm_H} {N : zLv}
theorem rem_write {P : List zLv} (c : MI h N) (H : HP h P) (hl : P.length ≤ 5) : zTo vX6_remember rX6_remember (29, [some (.ref 125), some (.int 0)], [], h) (fun o => ∃ g, o = (.inl none, g) ∧ zFr rmA h g ∧ (∀ j, j ≠ 24 → zI g 125 j = zI h 125 j) ∧ HP g (N :: P)) := by
  obtain ⟨m, hm⟩ : ∃ m, m = P.length := ⟨_, rfl⟩
  have h24 := H.2.1
  rw [← hm] at h24 hl
  have key : ∀ d k g, k + d = 149 → zFr (fun c => c = 137) h g → (∀ i, i < 149 * m → zI g 137 i = zI h 137 i) → (∀ j, j < k → zI g 137 (149 * m + j) = mI N j) → zTo vX6_remember rX6_remember (29, [some (.ref 125), some (.int (nI k))], [], g) (fun o => ∃ g, o = (.inl none, g) ∧ zFr rmA h g ∧ (∀ j, j ≠ 24 → zI g 125 j = zI h 125 j) ∧ HP g (N :: P)) := by
    intro d
    induction d with
    | zero =>
      intro k g hk fr Y Z
      have hk : k = 149 := by omega
      subst hk
      have m1 := moS_fr fr c.1
      have g24 : zI g 125 24 = nI m := by rw [fr.I (by omega)]; exact h24
      refine zTo_of gX6_remember_29 ?_
      simp only [le149e, m1.1, g24, nI_1, zmp_s, zlt_s, zcV_s, zcI_s, zcJ_s, zcA_s, zcD_s, zcF_s, zth_n, zth_t, zrt_s, zQ_l, zQ_r, false_or, or_false, true_or, or_true, false_and, and_false, not_false_eq_true, not_true_eq_false, and_self, true_and, and_true, if_true, if_false, ite_true, ite_false, zgd_t]
      refine ⟨_, rfl, (fr.mono (fun q hq => Or.inr hq)).tr (zFr.sI (Or.inl rfl)), fun j hj => by rw [I_sIs, zput_ne _ _ hj, fr.I (by omega)], ?_⟩
      refine ⟨by simp; omega, by rw [I_sIs, zput_self]; simp [hm], fun i M hi => ?_⟩
      cases i with
      | zero =>
        simp at hi
        subst hi
        refine ⟨c.2.2, fun j hj => ?_⟩
        rw [I_sIn (by omega), show (N :: P).length - 1 - 0 = m by simp [hm]]
        exact Z j hj
      | succ i =>
        have hi : P[i]? = some M := by simpa using hi
        have hil : i < P.length := (List.getElem?_eq_some_iff.mp hi).1
        refine ⟨(H.2.2 i M hi).1, fun j hj => ?_⟩
        rw [I_sIn (by omega), show (N :: P).length - 1 - (i + 1) = P.length - 1 - i by simp; omega, Y _ (by
          have : 149 * (P.length - 1 - i) + 149 ≤ 149 * m := by rw [hm]; omega
          omega)]
        exact (H.2.2 i M hi).2 j hj
    | succ d ih =>
      intro k g hk fr Y Z
      have hk2 : k < 149 := by omega
      obtain ⟨f1, f2, f3, f4⟩ := nI_for hk2 (by omega)
      have m1 := moS_fr fr c.1
      have g24 : zI g 125 24 = nI m := by rw [fr.I (by omega)]; exact h24
      have lv : zI g 126 k = mI N k := by rw [fr.I (by omega)]; exact c.2.1 k hk2
      obtain ⟨t0, t3, tq, t1, t2, t4, t5, t6, t7, t8, t9, t10, t21, t22, t23, t25, n6, n7, n8, n9, n10, n11, n12, n13, n14, n15, n16, n17, n18⟩ := m1
      refine zTo_of gX6_remember_29 ?_
      simp only [le149 hk2, t0, t1, t23, n6, n17, f2, f3, f4, show ¬ 149 ≤ k by omega, g24, ix149, nI_clamp (show 149 * m + k < 2 ^ 31 by omega), nI_lt0 (show 149 * m + k < 2 ^ 31 by omega), show ¬ 894 ≤ 149 * m + k by omega, lv, zmp_s, zlt_s, zcV_s, zcI_s, zcJ_s, zcA_s, zcD_s, zcF_s, zth_n, zth_t, zrt_s, zQ_l, zQ_r, false_or, or_false, true_or, or_true, false_and, and_false, not_false_eq_true, not_true_eq_false, and_self, true_and, and_true, if_true, if_false, ite_true, ite_false, zgd_t]
      refine ih (k + 1) _ (by omega) (fr.tr (zFr.sI rfl)) (fun i hi => ?_) (fun j hj => ?_)
      · rw [I_sIs, zput_ne _ _ (by omega)]; exact Y i hi
      · rw [I_sIs]
        by_cases e : j = k
        · rw [e, zput_self]
        · rw [zput_ne _ _ (by omega)]; exact Z j (by omega)
  exact key 149 0 h (by omega) zFr.rf (fun i _ => rfl) (fun j hj => by omega)
theorem r_remember {P : List zLv} (c : MI h N) (H : HP h P) : ∃ g, sX6_remember [.ref 125] h = some (.inl none, g) ∧ zFr rmA h g ∧ (∀ j, j ≠ 24 → zI g 125 j = zI h 125 j) ∧ HP g (pst N P) := by
  have ps : pst N P = N :: P.take 5 := rfl
  have e6 : (nI P.length = 6) = (P.length = 6) := propext (nI_eq (b := 6) (by have := H.1; omega) (by omega))
  have hsim : zW (sX6_remember [.ref 125] h) (fun o => ∃ g, o = (.inl none, g) ∧ zFr rmA h g ∧ (∀ j, j ≠ 24 → zI g 125 j = zI h 125 j) ∧ HP g (pst N P)) := by
    refine zsem_to (Nat.le_of_ble_eq_true rfl) (zTo_of gX6_remember_0 ?_)
    simp only [c.1.1, H.2.1, e6, zmp_s, zlt_s, zcV_s, zcI_s, zcJ_s, zcA_s, zcD_s, zcF_s, zth_n, zth_t, zrt_s, zQ_l, zQ_r, false_or, or_false, true_or, or_true, false_and, and_false, not_false_eq_true, not_true_eq_false, and_self, true_and, and_true, if_true, if_false, ite_true, ite_false, zgd_t]
    by_cases hl : P.length = 6
    · rw [if_pos hl]
      simp only [zmp_s, zlt_s, zcV_s, zcI_s, zcJ_s, zcA_s, zcD_s, zcF_s, zth_n, zth_t, zrt_s, zQ_l, zQ_r]
      have key : ∀ d k g, k + d = 894 → 149 ≤ k → zFr (fun c => c = 137) h g → (∀ i, i < 894 → zI g 137 i = if i + 149 < k then zI h 137 (i + 149) else zI h 137 i) → zTo vX6_remember rX6_remember (6, [some (.ref 125), some (.int (nI k))], [], g) (fun o => ∃ g, o = (.inl none, g) ∧ zFr rmA h g ∧ (∀ j, j ≠ 24 → zI g 125 j = zI h 125 j) ∧ HP g (pst N P)) := by
        intro d
        induction d with
        | zero =>
          intro k g hk hk2 fr Y
          have hk : k = 894 := by omega
          subst hk
          have m1 := moS_fr fr c.1
          have g24 : zI g 125 24 = nI 6 := by rw [fr.I (by omega), H.2.1, hl]
          have le : ((894 : Int32) ≤ nI 894) = True := eq_true (nI_le (a := 894) (b := 894) (by omega) (by omega))
          have e5 : nI 6 - (1 : Int32) = nI 5 := pk_sub (b := 1) (by omega)
          refine zTo_of gX6_remember_6 ?_
          simp only [le, m1.1, g24, e5, zmp_s, zlt_s, zcV_s, zcI_s, zcJ_s, zcA_s, zcD_s, zcF_s, zth_n, zth_t, zrt_s, zQ_l, zQ_r, false_or, or_false, true_or, or_true, false_and, and_false, not_false_eq_true, not_true_eq_false, and_self, true_and, and_true, if_true, if_false, ite_true, ite_false, zgd_t]
          have fr2 : zFr rmA h (zsI g 125 24 (nI 5)) := (fr.mono (fun q hq => Or.inr hq)).tr (zFr.sI (Or.inl rfl))
          have c2 : MI (zsI g 125 24 (nI 5)) N := ⟨moS_fr fr2 c.1, ML_fr fr2 (by unfold rmA; omega) c.2.1, c.2.2⟩
          have lt5 : (P.take 5).length = 5 := by rw [List.length_take]; omega
          have H2 : HP (zsI g 125 24 (nI 5)) (P.take 5) := by
            refine ⟨by omega, by rw [I_sIs, zput_self, lt5], fun i M hi => ?_⟩
            have hil : i < 5 := by
              have := (List.getElem?_eq_some_iff.mp hi).1
              omega
            have hi2 : P[i]? = some M := by rw [List.getElem?_take_of_lt hil] at hi; exact hi
            obtain ⟨w1, w2⟩ := H.2.2 i M hi2
            refine ⟨w1, fun j hj => ?_⟩
            rw [I_sIn (by omega), lt5, Y _ (by omega), if_pos (by omega), ← w2 j hj, hl]
            congr 1
            omega
          have := rem_write c2 H2 (by omega)
          refine this.mono (fun o ho => ?_)
          obtain ⟨g2, q1, q2, q3, q4⟩ := ho
          exact ⟨g2, q1, fr2.tr q2, fun j hj => by rw [q3 j hj, I_sIs, zput_ne _ _ hj, fr.I (by omega)], by rw [ps]; exact q4⟩
        | succ d ih =>
          intro k g hk hk2 fr Y
          obtain ⟨f1, f2, f3, f4⟩ := nI_for (show k < 894 by omega) (by omega)
          have f1 : ((894 : Int32) ≤ nI k) = False := f1
          have es : nI k - (149 : Int32) = nI (k - 149) := pk_sub (b := 149) hk2
          have m1 := moS_fr fr c.1
          obtain ⟨t0, t3, tq, t1, t2, t4, t5, t6, t7, t8, t9, t10, t21, t22, t23, t25, n6, n7, n8, n9, n10, n11, n12, n13, n14, n15, n16, n17, n18⟩ := m1
          refine zTo_of gX6_remember_6 ?_
          simp only [f1, t0, t23, n17, f2, f3, f4, show ¬ 894 ≤ k by omega, es, nI_clamp (show k - 149 < 2 ^ 31 by omega), nI_lt0 (show k - 149 < 2 ^ 31 by omega), show ¬ 894 ≤ k - 149 by omega, zmp_s, zlt_s, zcV_s, zcI_s, zcJ_s, zcA_s, zcD_s, zcF_s, zth_n, zth_t, zrt_s, zQ_l, zQ_r, false_or, or_false, true_or, or_true, false_and, and_false, not_false_eq_true, not_true_eq_false, and_self, true_and, and_true, if_true, if_false, ite_true, ite_false, zgd_t]
          refine ih (k + 1) _ (by omega) (by omega) (fr.tr (zFr.sI rfl)) (fun i hi => ?_)
          rw [I_sIs]
          by_cases e : i = k - 149
          · rw [e, zput_self, if_pos (by omega), Y k (by omega), if_neg (by omega)]
            congr 1; omega
          · rw [zput_ne _ _ e, Y i hi]
            by_cases w : i + 149 < k
            · rw [if_pos w, if_pos (by omega)]
            · rw [if_neg w, if_neg (by omega)]
      exact key 745 149 h (by omega) (by omega) zFr.rf (fun i hi => by
        by_cases w : i + 149 < 149
        · omega
        · rw [if_neg w])
    · rw [if_neg hl]
      simp only [zmp_s, zlt_s, zcV_s, zcI_s, zcJ_s, zcA_s, zcD_s, zcF_s, zth_n, zth_t, zrt_s, zQ_l, zQ_r]
      have tk : P.take 5 = P := List.take_of_length_le (by have := H.1; omega)
      rw [ps, tk]
      exact rem_write c H (by have := H.1; omega)
  obtain ⟨o, e1, g, rfl, e2⟩ := hsim
  exact ⟨g, e1, e2⟩
end
def mcA : Nat → Prop := fun c => c = 125 ∨ c = 126 ∨ (128 ≤ c ∧ c ≤ 133) ∨ c = 137
/-- a change under way, and one that is done -/
def MD (h g : zm_H) (M : zLv) (P : List zLv) : Prop := zFr mcA h g ∧ (∀ j, j ≠ 0 → j ≠ 24 → zI g 125 j = zI h 125 j) ∧ zI g 125 0 = 0 ∧ moS g 126 ∧ ML g 126 M ∧ HP g P
def MC (h : zm_H) (M : zLv) (P : List zLv) (g : zm_H) : Prop := zFr mcA h g ∧ (∀ j, j ≠ 0 → j ≠ 24 → zI g 125 j = zI h 125 j) ∧ MI g M ∧ HP g P
theorem MD.mc {h g : zm_H} {M : zLv} {P : List zLv} (a : MD h g M P) (hF : WF M) : MC h M P g := ⟨a.1, a.2.1, ⟨a.2.2.2.1, a.2.2.2.2.1, hF⟩, a.2.2.2.2.2⟩
theorem MD.fr {h g k : zm_H} {M K : zLv} {P : List zLv} (a : MD h g M P) (fr : zFr (fun c => c = 126) g k) (hK : ML k 126 K) : MD h k K P :=
  ⟨a.1.tr (fr.mono (fun q hq => Or.inr (Or.inl hq))), fun j h0 h24 => by rw [fr.I (by omega)]; exact a.2.1 j h0 h24, by rw [fr.I (by omega)]; exact a.2.2.1, moS_fr fr a.2.2.2.1, hK, HP_fr fr (by omega) (by rw [fr.I (by omega)]) a.2.2.2.2.2⟩
theorem MD.put {h g : zm_H} {M : zLv} {P : List zLv} (a : MD h g M P) {i x : Nat} (h3 : i ≠ 3) : MD h (zsI g 126 i (nI x)) (zput M i x) P := a.fr (zFr.sI rfl) (ML_put a.2.2.2.2.1 h3)
theorem MD.pth {h g : zm_H} {M : zLv} {P : List zLv} (a : MD h g M P) (w : Nat → Int32) : MD h (zrI g 132 w) M P := by
  have fr : zFr (fun c => c = 132) g (zrI g 132 w) := zFr.rI rfl
  refine ⟨a.1.tr (fr.mono (fun q hq => by unfold mcA; omega)), fun j h0 h24 => by rw [fr.I (by omega)]; exact a.2.1 j h0 h24, by rw [fr.I (by omega)]; exact a.2.2.1, moS_fr fr a.2.2.2.1, ML_fr fr (by omega) a.2.2.2.2.1, HP_fr fr (by omega) (by rw [fr.I (by omega)]) a.2.2.2.2.2⟩
theorem MD.q {h g k : zm_H} {N M : zLv} {P : List zLv} (q : MZ N h g) (a : MD g k M P) : MD h k M P :=
  ⟨(q.1.mono (fun c hc => by unfold mqA at hc; unfold mcA; omega)).tr a.1, fun j h0 h24 => by rw [a.2.1 j h0 h24, q.2.1 j h0], a.2.2⟩
theorem MC.q {h g k : zm_H} {M : zLv} {P : List zLv} (a : MC h M P g) (q : MZ M g k) : MC h M P k :=
  ⟨a.1.tr (q.1.mono (fun c hc => by unfold mqA at hc; unfold mcA; omega)), fun j h0 h24 => by rw [q.2.1 j h0, a.2.1 j h0 h24], a.2.2.1.go q, HP_q q a.2.2.2⟩
/-- remembered, behind the test -/
theorem r_rem {h : zm_H} {N : zLv} {P : List zLv} (c : MI h N) (H : HP h P) : ∃ g, sX6_remember [.ref 125] (zsI h 125 0 0) = some (.inl none, g) ∧ MD h g N (pst N P) ∧ zFr rmA h g := by
  have c1 := c.go (MZ.th c 0)
  have H1 := HP_q (MZ.th c 0) H
  obtain ⟨g, e1, fr, e2, H2⟩ := r_remember c1 H1
  have fr2 : zFr rmA h g := (zFr.sI (h := h) (a := 125) (i := 0) (x := 0) (Or.inl rfl)).tr fr
  refine ⟨g, e1, ⟨fr2.mono (fun q hq => by unfold rmA at hq; unfold mcA; omega), fun j h0 h24 => by rw [e2 j h24, I_sIs, zput_ne _ _ h0], by rw [e2 0 (by omega), th_0], moS_fr fr2 c.1, ML_fr fr2 (by unfold rmA; omega) c.2.1, H2⟩, fr2⟩
section
variable {h : zm_H} {N : zLv} {P : List zLv}
theorem r_undoCount (c : MI h N) (H : HP h P) : MR (sX6_undoCount [.ref 125] h) (some (.int (nI P.length))) 0 (MZ N h) := by
  have c1 := c.go (MZ.th c 0)
  have H1 := HP_q (MZ.th c 0) H
  refine ⟨zsI h 125 0 0, ?_, MZ.th c 0, th_0⟩
  refine zsem_eq (Nat.le_of_ble_eq_true rfl) (zTo_of gX6_undoCount_0 ?_)
  simp only [c.1.1, c1.1.1, H1.2.1, zmp_s, zlt_s, zcV_s, zcI_s, zcJ_s, zcA_s, zcD_s, zcF_s, zth_n, zth_t, zrt_s, zQ_l, zQ_r, false_or, or_false, true_or, or_true, false_and, and_false, not_false_eq_true, not_true_eq_false, and_self, true_and, and_true, if_true, if_false, ite_true, ite_false, zgd_t]
theorem r_undoX (c : MI h N) (H : HP h []) : MR (sX6_undo [.ref 125] h) (some (.int 0)) 1 (MZ N h) := by
  refine ⟨zsI h 125 0 1, ?_, MZ.th c 1, th_0⟩
  have e : zI h 125 24 = 0 := H.2.1
  refine zsem_eq (Nat.le_of_ble_eq_true rfl) (zTo_of gX6_undo_0 ?_)
  simp only [c.1.1, e, show ((0 : Int32) ≤ 0) = True by decide +kernel, p1_f c.1, zmp_s, zlt_s, zcV_s, zcI_s, zcJ_s, zcA_s, zcD_s, zcF_s, zth_n, zth_t, zrt_s, zQ_l, zQ_r, false_or, or_false, true_or, or_true, false_and, and_false, not_false_eq_true, not_true_eq_false, and_self, true_and, and_true, if_true, if_false, ite_true, ite_false, zgd_t]
theorem r_undo {M : zLv} (c : MI h N) (H : HP h (M :: P)) : MR (sX6_undo [.ref 125] h) (some (.int (nI P.length))) 0 (MC h M P) := by
  have c1 := c.go (MZ.th c 0)
  have H1 := HP_q (MZ.th c 0) H
  have hl := H.1
  simp only [List.length_cons] at hl
  have e24 : zI h 125 24 = nI (P.length + 1) := by rw [H.2.1]; simp
  have g24 : zI (zsI h 125 0 0) 125 24 = nI (P.length + 1) := by rw [H1.2.1]; simp
  have n0 : (nI (P.length + 1) ≤ 0) = False := eq_false (nI_nle (by omega) (by omega))
  have em : nI (P.length + 1) - (1 : Int32) = nI P.length := nI_pred _
  obtain ⟨k0, hk0⟩ : ∃ k0, k0 = zsI (zsI h 125 0 0) 125 24 (nI P.length) := ⟨_, rfl⟩
  have fr0 : zFr (fun c => c = 125) h k0 := by rw [hk0]; exact zFr.tr (zFr.sI (A := fun c => c = 125) rfl) (zFr.sI (A := fun c => c = 125) rfl)
  have k24 : zI k0 125 24 = nI P.length := by rw [hk0, I_sIs, zput_self]
  have k00 : zI k0 125 0 = 0 := by rw [hk0, I_sIs, zput_ne _ _ (by omega), th_0]
  have kj : ∀ j, j ≠ 0 → j ≠ 24 → zI k0 125 j = zI h 125 j := fun j h0 h24 => by rw [hk0, I_sIs, zput_ne _ _ h24, I_sIs, zput_ne _ _ h0]
  obtain ⟨wM, bM⟩ := H.2.2 0 M (by simp)
  have hsim : zW (sX6_undo [.ref 125] h) (fun o => ∃ g, o = (.inl (some (.int (nI P.length))), g) ∧ MC h M P g ∧ zI g 125 0 = 0) := by
    refine zsem_to (Nat.le_of_ble_eq_true rfl) (zTo_of gX6_undo_0 ?_)
    simp only [c.1.1, e24, n0, p1_t c.1, i10, c1.1.1, g24, em, zmp_s, zlt_s, zcV_s, zcI_s, zcJ_s, zcA_s, zcD_s, zcF_s, zth_n, zth_t, zrt_s, zQ_l, zQ_r, false_or, or_false, true_or, or_true, false_and, and_false, not_false_eq_true, not_true_eq_false, and_self, true_and, and_true, if_true, if_false, ite_true, ite_false, zgd_t]
    rw [← hk0]
    have key : ∀ d k g, k + d = 149 → zFr (fun c => c = 126) k0 g → (∀ j, j < k → zI g 126 j = mI M j) → zTo vX6_undo rX6_undo (19, [some (.ref 125), some (.int (nI k))], [], g) (fun o => ∃ g, o = (.inl (some (.int (nI P.length))), g) ∧ MC h M P g ∧ zI g 125 0 = 0) := by
      intro d
      induction d with
      | zero =>
        intro k g hk fr Y
        have hk : k = 149 := by omega
        subst hk
        have m1 := moS_fr fr (moS_fr fr0 c.1)
        have q24 : zI g 125 24 = nI P.length := by rw [fr.I (by omega)]; exact k24
        refine zTo_of gX6_undo_19 ?_
        simp only [le149e, m1.1, q24, zmp_s, zlt_s, zcV_s, zcI_s, zcJ_s, zcA_s, zcD_s, zcF_s, zth_n, zth_t, zrt_s, zQ_l, zQ_r, false_or, or_false, true_or, or_true, false_and, and_false, not_false_eq_true, not_true_eq_false, and_self, true_and, and_true, if_true, if_false, ite_true, ite_false, zgd_t]
        refine ⟨g, rfl, ⟨(fr0.mono (fun q hq => Or.inl hq)).tr (fr.mono (fun q hq => Or.inr (Or.inl hq))), fun j h0 h24 => by rw [fr.I (by omega)]; exact kj j h0 h24, ⟨m1, fun i hi => Y i hi, wM⟩, by omega, q24, fun i K hi => ?_⟩, by rw [fr.I (by omega)]; exact k00⟩
        obtain ⟨w1, w2⟩ := H.2.2 (i + 1) K (by simpa using hi)
        refine ⟨w1, fun j hj => ?_⟩
        rw [fr.I (by omega), fr0.I (by omega), ← w2 j hj]
        congr 1
        simp only [List.length_cons]
        omega
      | succ d ih =>
        intro k g hk fr Y
        have hk2 : k < 149 := by omega
        obtain ⟨f1, f2, f3, f4⟩ := nI_for hk2 (by omega)
        have m1 := moS_fr fr (moS_fr fr0 c.1)
        have q24 : zI g 125 24 = nI P.length := by rw [fr.I (by omega)]; exact k24
        have pv : zI g 137 (149 * P.length + k) = mI M k := by
          rw [fr.I (by omega), fr0.I (by omega), ← bM k hk2]
          congr 1
        obtain ⟨t0, t3, tq, t1, t2, t4, t5, t6, t7, t8, t9, t10, t21, t22, t23, t25, n6, n7, n8, n9, n10, n11, n12, n13, n14, n15, n16, n17, n18⟩ := m1
        refine zTo_of gX6_undo_19 ?_
        simp only [le149 hk2, t0, t1, t23, n6, n17, f2, f3, f4, show ¬ 149 ≤ k by omega, q24, ix149, nI_clamp (show 149 * P.length + k < 2 ^ 31 by omega), nI_lt0 (show 149 * P.length + k < 2 ^ 31 by omega), show ¬ 894 ≤ 149 * P.length + k by omega, pv, zmp_s, zlt_s, zcV_s, zcI_s, zcJ_s, zcA_s, zcD_s, zcF_s, zth_n, zth_t, zrt_s, zQ_l, zQ_r, false_or, or_false, true_or, or_true, false_and, and_false, not_false_eq_true, not_true_eq_false, and_self, true_and, and_true, if_true, if_false, ite_true, ite_false, zgd_t]
        refine ih (k + 1) _ (by omega) (fr.tr (zFr.sI rfl)) (fun j hj => ?_)
        rw [I_sIs]
        by_cases e : j = k
        · rw [e, zput_self]
        · rw [zput_ne _ _ e]; exact Y j (by omega)
    exact key 149 0 k0 (by omega) zFr.rf (fun j hj => by omega)
  obtain ⟨o, e1, g, rfl, e2, e3⟩ := hsim
  exact ⟨g, e1, e2, e3⟩
/-- slots -/
def KS (h : zm_H) (K : Nat → Option zLv) : Prop := ∀ s, s < 2 → zI h 136 s = zb (K s).isSome ∧ ∀ M, K s = some M → WF M ∧ ∀ j, j < 149 → zI h 135 (149 * s + j) = mI M j
theorem KS_fr {A : Nat → Prop} {h g : zm_H} {K : Nat → Option zLv} (fr : zFr A h g) (h1 : ¬ A 135) (h2 : ¬ A 136) (H : KS h K) : KS g K := fun s hs => ⟨by rw [fr.I h2]; exact (H s hs).1, fun M hM => ⟨((H s hs).2 M hM).1, fun j hj => by rw [fr.I h1]; exact ((H s hs).2 M hM).2 j hj⟩⟩
theorem r_isSlot {k : Nat} (hk : k < 2) (h : zm_H) : sX6_isSlot [.int (nI k)] h = some (.inl (some (.int 1)), h) := by
  refine zsem_eq (Nat.le_of_ble_eq_true rfl) (zTo_of gX6_isSlot_0 ?_)
  simp only [in_l (hi := 1) (show k ≤ 1 by omega) (by omega) rfl, zmp_s, zlt_s, zcV_s, zcI_s, zcJ_s, zcA_s, zcD_s, zcF_s, zth_n, zth_t, zrt_s, zQ_l, zQ_r, false_or, or_false, true_or, or_true, false_and, and_false, not_false_eq_true, not_true_eq_false, and_self, true_and, and_true, if_true, if_false, ite_true, ite_false, zgd_t]
theorem r_isSlotX {x : Int32} (hx : x < 0 ∨ nI 2 ≤ x) (h : zm_H) : sX6_isSlot [.int x] h = some (.inl (some (.int 0)), h) := by
  refine zsem_eq (Nat.le_of_ble_eq_true rfl) (zTo_of gX6_isSlot_0 ?_)
  simp only [in_f (hi := 1) (show 2 < 2 ^ 31 by omega) hx rfl, zmp_s, zlt_s, zcV_s, zcI_s, zcJ_s, zcA_s, zcD_s, zcF_s, zth_n, zth_t, zrt_s, zQ_l, zQ_r, false_or, or_false, true_or, or_true, false_and, and_false, not_false_eq_true, not_true_eq_false, and_self, true_and, and_true, if_true, if_false, ite_true, ite_false, zgd_t]
def keA : Nat → Prop := fun c => c = 125 ∨ c = 135 ∨ c = 136
theorem r_keep {K : Nat → Option zLv} {s : Nat} (c : MI h N) (S : KS h K) (hs : s < 2) : MR (sX6_keep [.ref 125, .int (nI s)] h) (some (.int (nI (N 4)))) 0 (fun g => zFr keA h g ∧ (∀ j, j ≠ 0 → zI g 125 j = zI h 125 j) ∧ KS g (fun t => if t = s then some N else K t)) := by
  have c1 := c.go (MZ.th c 0)
  obtain ⟨k0, hk0⟩ : ∃ k0, k0 = zsI h 125 0 0 := ⟨_, rfl⟩
  have fr0 : zFr (fun c => c = 125) h k0 := by rw [hk0]; exact zFr.sI rfl
  have k00 : zI k0 125 0 = 0 := by rw [hk0, th_0]
  have kj : ∀ j, j ≠ 0 → zI k0 125 j = zI h 125 j := fun j h0 => by rw [hk0, I_sIs, zput_ne _ _ h0]
  have p := p1_t c.1
  rw [← hk0] at p c1
  obtain ⟨f1s, f2s, f3s, f4s⟩ := nI_for hs (by omega)
  have hsim : zW (sX6_keep [.ref 125, .int (nI s)] h) (fun o => ∃ g, o = (.inl (some (.int (nI (N 4)))), g) ∧ (zFr keA h g ∧ (∀ j, j ≠ 0 → zI g 125 j = zI h 125 j) ∧ KS g (fun t => if t = s then some N else K t)) ∧ zI g 125 0 = 0) := by
    refine zsem_to (Nat.le_of_ble_eq_true rfl) (zTo_of gX6_keep_0 ?_)
    simp only [r_isSlot hs, c.1.1, p, i10, zmp_s, zlt_s, zcV_s, zcI_s, zcJ_s, zcA_s, zcD_s, zcF_s, zth_n, zth_t, zrt_s, zQ_l, zQ_r, false_or, or_false, true_or, or_true, false_and, and_false, not_false_eq_true, not_true_eq_false, and_self, true_and, and_true, if_true, if_false, ite_true, ite_false, zgd_t]
    have key : ∀ d k g, k + d = 149 → zFr (fun c => c = 135) k0 g → (∀ i, i < 149 * s ∨ 149 * s + k ≤ i → zI g 135 i = zI k0 135 i) → (∀ j, j < k → zI g 135 (149 * s + j) = mI N j) → zTo vX6_keep rX6_keep (9, [some (.ref 125), some (.int (nI s)), some (.int (nI k))], [], g) (fun o => ∃ g, o = (.inl (some (.int (nI (N 4)))), g) ∧ (zFr keA h g ∧ (∀ j, j ≠ 0 → zI g 125 j = zI h 125 j) ∧ KS g (fun t => if t = s then some N else K t)) ∧ zI g 125 0 = 0) := by
      intro d
      induction d with
      | zero =>
        intro k g hk fr Y Z
        have hk : k = 149 := by omega
        subst hk
        have m1 := moS_fr fr c1.1
        have l4 : zI g 126 4 = nI (N 4) := by rw [fr.I (by omega)]; exact c1.2.1.at (by omega) (by omega)
        obtain ⟨t0, t3, tq, t1, t2, t4, t5, t6, t7, t8, t9, t10, t21, t22, t23, t25, n6, n7, n8, n9, n10, n11, n12, n13, n14, n15, n16, n17, n18⟩ := m1
        refine zTo_of gX6_keep_9 ?_
        simp only [le149e, t0, t22, n16, f2s, f3s, show ¬ 2 ≤ s by omega, K_sI, K_sJ, K_sD, K_sP, K_rI, K_rJ, P_sI, P_sJ, P_sD, P_rI, P_rJ, N_sI, N_sJ, N_sD, N_sP, N_rI, N_rJ, J_sI, J_sD, J_sP, J_rI, I_sJ, I_sD, I_sP, I_rJ, D_sI, D_sJ, D_sP, D_rI, D_rJ, t1, n6, c_4, p_4, I_sIn (show (126 : Nat) ≠ 136 by omega), l4, show ¬ 149 ≤ 4 by omega, zmp_s, zlt_s, zcV_s, zcI_s, zcJ_s, zcA_s, zcD_s, zcF_s, zth_n, zth_t, zrt_s, zQ_l, zQ_r, false_or, or_false, true_or, or_true, false_and, and_false, not_false_eq_true, not_true_eq_false, and_self, true_and, and_true, if_true, if_false, ite_true, ite_false, zgd_t]
        have fr2 : zFr keA h (zsI g 136 s 1) := ((fr0.mono (fun q hq => Or.inl hq)).tr (fr.mono (fun q hq => Or.inr (Or.inl hq)))).tr (zFr.sI (Or.inr (Or.inr rfl)))
        refine ⟨_, rfl, ⟨fr2, fun j h0 => by rw [I_sIn (by omega), fr.I (by omega)]; exact kj j h0, fun t ht => ?_⟩, by rw [I_sIn (by omega), fr.I (by omega)]; exact k00⟩
        by_cases e : t = s
        · subst e
          simp only [if_true]
          refine ⟨by rw [I_sIs, zput_self]; rfl, fun M hM => ?_⟩
          cases hM
          exact ⟨c.2.2, fun j hj => by rw [I_sIn (by omega)]; exact Z j hj⟩
        · simp only [e, if_false]
          obtain ⟨w1, w2⟩ := S t ht
          refine ⟨by rw [I_sIs, zput_ne _ _ e, fr.I (by omega), fr0.I (by omega)]; exact w1, fun M hM => ⟨(w2 M hM).1, fun j hj => ?_⟩⟩
          rw [I_sIn (by omega), Y _ (by omega), fr0.I (by omega)]
          exact (w2 M hM).2 j hj
      | succ d ih =>
        intro k g hk fr Y Z
        have hk2 : k < 149 := by omega
        obtain ⟨f1, f2, f3, f4⟩ := nI_for hk2 (by omega)
        have m1 := moS_fr fr c1.1
        have lv : zI g 126 k = mI N k := by rw [fr.I (by omega)]; exact c1.2.1 k hk2
        obtain ⟨t0, t3, tq, t1, t2, t4, t5, t6, t7, t8, t9, t10, t21, t22, t23, t25, n6, n7, n8, n9, n10, n11, n12, n13, n14, n15, n16, n17, n18⟩ := m1
        refine zTo_of gX6_keep_9 ?_
        simp only [le149 hk2, t0, t1, t21, n6, n15, f2, f3, f4, show ¬ 149 ≤ k by omega, ix149, nI_clamp (show 149 * s + k < 2 ^ 31 by omega), nI_lt0 (show 149 * s + k < 2 ^ 31 by omega), show ¬ 298 ≤ 149 * s + k by omega, lv, zmp_s, zlt_s, zcV_s, zcI_s, zcJ_s, zcA_s, zcD_s, zcF_s, zth_n, zth_t, zrt_s, zQ_l, zQ_r, false_or, or_false, true_or, or_true, false_and, and_false, not_false_eq_true, not_true_eq_false, and_self, true_and, and_true, if_true, if_false, ite_true, ite_false, zgd_t]
        refine ih (k + 1) _ (by omega) (fr.tr (zFr.sI rfl)) (fun i hi => ?_) (fun j hj => ?_)
        · rw [I_sIs, zput_ne _ _ (by omega)]; exact Y i (by omega)
        · rw [I_sIs]
          by_cases e : j = k
          · rw [e, zput_self]
          · rw [zput_ne _ _ (by omega)]; exact Z j (by omega)
    exact key 149 0 k0 (by omega) zFr.rf (fun i _ => rfl) (fun j hj => by omega)
  obtain ⟨o, e1, g, rfl, e2, e3⟩ := hsim
  exact ⟨g, e1, e2, e3⟩
theorem r_keepX (c : MI h N) {x : Int32} (hx : x < 0 ∨ nI 2 ≤ x) : MR (sX6_keep [.ref 125, .int x] h) (some (.int 0)) 1 (MZ N h) := by
  refine ⟨zsI h 125 0 1, ?_, MZ.th c 1, th_0⟩
  refine zsem_eq (Nat.le_of_ble_eq_true rfl) (zTo_of gX6_keep_0 ?_)
  simp only [r_isSlotX hx, c.1.1, p1_f c.1, zmp_s, zlt_s, zcV_s, zcI_s, zcJ_s, zcA_s, zcD_s, zcF_s, zth_n, zth_t, zrt_s, zQ_l, zQ_r, false_or, or_false, true_or, or_true, false_and, and_false, not_false_eq_true, not_true_eq_false, and_self, true_and, and_true, if_true, if_false, ite_true, ite_false, zgd_t]
theorem r_restoreX (c : MI h N) {x : Int32} (hx : x < 0 ∨ nI 2 ≤ x) : MR (sX6_restore [.ref 125, .int x] h) (some (.int 0)) 1 (MZ N h) := by
  refine ⟨zsI h 125 0 1, ?_, MZ.th c 1, th_0⟩
  refine zsem_eq (Nat.le_of_ble_eq_true rfl) (zTo_of gX6_restore_0 ?_)
  simp only [r_isSlotX hx, c.1.1, p2_1 c.1, zmp_s, zlt_s, zcV_s, zcI_s, zcJ_s, zcA_s, zcD_s, zcF_s, zth_n, zth_t, zrt_s, zQ_l, zQ_r, false_or, or_false, true_or, or_true, false_and, and_false, not_false_eq_true, not_true_eq_false, and_self, true_and, and_true, if_true, if_false, ite_true, ite_false, zgd_t]
theorem r_restoreE {K : Nat → Option zLv} {s : Nat} (c : MI h N) (S : KS h K) (hs : s < 2) (hK : K s = none) : MR (sX6_restore [.ref 125, .int (nI s)] h) (some (.int 0)) 2 (MZ N h) := by
  obtain ⟨f1s, f2s, f3s, f4s⟩ := nI_for hs (by omega)
  have w := (S s hs).1
  rw [hK] at w
  have w : zI h 136 s = 0 := w
  refine ⟨zsI h 125 0 2, ?_, MZ.th c 2, th_0⟩
  have p2 := p2_2 c.1
  obtain ⟨m0, mL, hF⟩ := c
  obtain ⟨t0, t3, tq, t1, t2, t4, t5, t6, t7, t8, t9, t10, t21, t22, t23, t25, n6, n7, n8, n9, n10, n11, n12, n13, n14, n15, n16, n17, n18⟩ := m0
  refine zsem_eq (Nat.le_of_ble_eq_true rfl) (zTo_of gX6_restore_0 ?_)
  simp only [r_isSlot hs, i10, t0, t22, n16, f2s, f3s, show ¬ 2 ≤ s by omega, w, p2, zmp_s, zlt_s, zcV_s, zcI_s, zcJ_s, zcA_s, zcD_s, zcF_s, zth_n, zth_t, zrt_s, zQ_l, zQ_r, false_or, or_false, true_or, or_true, false_and, and_false, not_false_eq_true, not_true_eq_false, and_self, true_and, and_true, if_true, if_false, ite_true, ite_false, zgd_t]
theorem r_restore {K : Nat → Option zLv} {s : Nat} {M : zLv} (c : MI h N) (H : HP h P) (S : KS h K) (hs : s < 2) (hK : K s = some M) : MR (sX6_restore [.ref 125, .int (nI s)] h) (some (.int (nI (M 4)))) 0 (MC h M (pst N P)) := by
  obtain ⟨f1s, f2s, f3s, f4s⟩ := nI_for hs (by omega)
  have w := (S s hs).1
  rw [hK] at w
  have w : zI h 136 s = 1 := w
  obtain ⟨wM, bM⟩ := (S s hs).2 M hK
  obtain ⟨k0, e0, D0, fr0⟩ := r_rem c H
  have p2 := p2_t c.1
  have m1 := (c.go (MZ.th c 0)).1
  have a1 := m1.1
  have a125 := c.1.1
  have a22 := c.1.2.2.2.2.2.2.2.2.2.2.2.2.2.1
  have a16 := c.1.2.2.2.2.2.2.2.2.2.2.2.2.2.2.2.2.2.2.2.2.2.2.2.2.2.2.1
  have hsim : zW (sX6_restore [.ref 125, .int (nI s)] h) (fun o => ∃ g, o = (.inl (some (.int (nI (M 4)))), g) ∧ MC h M (pst N P) g ∧ zI g 125 0 = 0) := by
    refine zsem_to (Nat.le_of_ble_eq_true rfl) (zTo_of gX6_restore_0 ?_)
    simp only [r_isSlot hs, i10, a125, a22, a16, f2s, f3s, show ¬ 2 ≤ s by omega, w, p2, a1, e0, zmp_s, zlt_s, zcV_s, zcI_s, zcJ_s, zcA_s, zcD_s, zcF_s, zth_n, zth_t, zrt_s, zQ_l, zQ_r, false_or, or_false, true_or, or_true, false_and, and_false, not_false_eq_true, not_true_eq_false, and_self, true_and, and_true, if_true, if_false, ite_true, ite_false, zgd_t]
    have key : ∀ d k g, k + d = 149 → zFr (fun c => c = 126) k0 g → (∀ j, j < k → zI g 126 j = mI M j) → zTo vX6_restore rX6_restore (22, [some (.ref 125), some (.int (nI s)), some (.int (nI k))], [], g) (fun o => ∃ g, o = (.inl (some (.int (nI (M 4)))), g) ∧ MC h M (pst N P) g ∧ zI g 125 0 = 0) := by
      intro d
      induction d with
      | zero =>
        intro k g hk fr Y
        have hk : k = 149 := by omega
        subst hk
        have D1 : MD h g M (pst N P) := D0.fr fr (fun i hi => Y i hi)
        have m1 := D1.2.2.2.1
        have l4 := D1.2.2.2.2.1.at (i := 4) (by omega) (by omega)
        refine zTo_of gX6_restore_22 ?_
        simp only [le149e, m1.1, m1.2.2.2.1, m1.2.2.2.2.2.2.2.2.2.2.2.2.2.2.2.2.1, c_4, p_4, l4, show ¬ 149 ≤ 4 by omega, zmp_s, zlt_s, zcV_s, zcI_s, zcJ_s, zcA_s, zcD_s, zcF_s, zth_n, zth_t, zrt_s, zQ_l, zQ_r, false_or, or_false, true_or, or_true, false_and, and_false, not_false_eq_true, not_true_eq_false, and_self, true_and, and_true, if_true, if_false, ite_true, ite_false, zgd_t]
        exact ⟨g, rfl, D1.mc wM, D1.2.2.1⟩
      | succ d ih =>
        intro k g hk fr Y
        have hk2 : k < 149 := by omega
        obtain ⟨f1, f2, f3, f4⟩ := nI_for hk2 (by omega)
        have m1 := moS_fr fr D0.2.2.2.1
        have pv : zI g 135 (149 * s + k) = mI M k := by
          rw [fr.I (by omega), fr0.I (by unfold rmA; omega)]
          exact bM k hk2
        obtain ⟨t0, t3, tq, t1, t2, t4, t5, t6, t7, t8, t9, t10, t21, t22, t23, t25, n6, n7, n8, n9, n10, n11, n12, n13, n14, n15, n16, n17, n18⟩ := m1
        refine zTo_of gX6_restore_22 ?_
        simp only [le149 hk2, t0, t1, t21, n6, n15, f2, f3, f4, show ¬ 149 ≤ k by omega, ix149, nI_clamp (show 149 * s + k < 2 ^ 31 by omega), nI_lt0 (show 149 * s + k < 2 ^ 31 by omega), show ¬ 298 ≤ 149 * s + k by omega, pv, zmp_s, zlt_s, zcV_s, zcI_s, zcJ_s, zcA_s, zcD_s, zcF_s, zth_n, zth_t, zrt_s, zQ_l, zQ_r, false_or, or_false, true_or, or_true, false_and, and_false, not_false_eq_true, not_true_eq_false, and_self, true_and, and_true, if_true, if_false, ite_true, ite_false, zgd_t]
        refine ih (k + 1) _ (by omega) (fr.tr (zFr.sI rfl)) (fun j hj => ?_)
        rw [I_sIs]
        by_cases e : j = k
        · rw [e, zput_self]
        · rw [zput_ne _ _ e]; exact Y j (by omega)
    exact key 149 0 k0 (by omega) zFr.rf (fun j hj => by omega)
  obtain ⟨o, e1, g, rfl, e2, e3⟩ := hsim
  exact ⟨g, e1, e2, e3⟩
end
end ZMO
