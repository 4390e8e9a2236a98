/-! THE MODEL: load. -/
section ZQG
section
variable {h : zm_H} {xs : List Int32} {N : zLv} {P : List zLv}
theorem c_4' : ((4 : Int32)).toNatClampNeg = 4 := by decide +kernel
theorem p_4' : ((4 : Int32) < 0) = False := eq_false (by decide +kernel)
theorem c_5' : ((5 : Int32)).toNatClampNeg = 5 := by decide +kernel
theorem p_5' : ((5 : Int32) < 0) = False := eq_false (by decide +kernel)
theorem r_plain {q : Nat} (m0 : moS h q) : ∃ g, sX6_layPlain [.ref 125] h = some (.inl none, g) ∧ zFr (fun c => c = q) h g ∧ ML g q N00 := by
  have key : ∀ d k g, k + d = 149 → zFr (fun c => c = q) h g → (∀ i, i < k → zI g q i = 0) → zTo vX6_layPlain rX6_layPlain (2, [some (.ref 125), some (.int (nI k))], [], g) (fun o => ∃ g, o = (.inl none, g) ∧ zFr (fun c => c = q) h g ∧ ML g q N00) := by
    intro d
    induction d with
    | zero =>
      intro k g hk fr Y
      have hk : k = 149 := by omega
      have m1 := moS_fr fr m0
      have t0 := m1.1
      have t3 := m1.2.1
      have tq := m1.2.2.1
      refine zTo_of gX6_layPlain_2 ?_
      simp only [hk, show ((149 : Int32) ≤ nI 149) = True from eq_true (nI_le (a := 149) (b := 149) (by omega) (by omega)), t0, t3, tq, K_sI, K_sJ, K_sD, K_sP, K_rI, K_rJ, P_sI, P_sJ, P_sD, P_rI, P_rJ, N_sI, N_sJ, N_sD, N_sP, N_rI, N_rJ, J_sI, J_sD, J_sP, J_rI, I_sJ, I_sD, I_sP, I_rJ, D_sI, D_sJ, D_sP, D_rI, D_rJ, c_3, p_3, c_4', p_4', show ¬ 149 ≤ 3 by omega, show ¬ 149 ≤ 4 by omega, zmp_s, zlt_s, zcV_s, zcI_s, zcJ_s, zcA_s, zcD_s, zcF_s, zth_n, zth_t, zrt_s, zQ_l, zQ_r, false_or, or_false, true_or, or_true, false_and, and_false, not_false_eq_true, not_true_eq_false, and_self, true_and, and_true, if_true, if_false, ite_true, ite_false, zgd_t]
      refine ⟨_, rfl, (fr.tr (zFr.sI rfl)).tr (zFr.sI rfl), fun i hi => ?_⟩
      rw [I_sIs]
      by_cases i4 : i = 4
      · subst i4; rw [zput_self]; rfl
      · rw [zput_ne _ _ i4, I_sIs]
        by_cases i3 : i = 3
        · subst i3; rw [zput_self]; exact eI_0.symm
        · rw [zput_ne _ _ i3, Y i (by omega), mI_n i3]
          show (0 : Int32) = nI (if i = 4 then 1 else 0)
          rw [if_neg i4]; rfl
    | succ d ih =>
      intro k g hk fr Y
      obtain ⟨f1, f2, f3, f4⟩ := nI_for (show k < 149 by omega) (by omega)
      have f1 : ((149 : Int32) ≤ nI k) = False := f1
      have m1 := moS_fr fr m0
      have t0 := m1.1
      have t3 := m1.2.1
      have tq := m1.2.2.1
      refine zTo_of gX6_layPlain_2 ?_
      simp only [f1, t0, t3, tq, f2, f3, f4, show ¬ 149 ≤ k by omega, zmp_s, zlt_s, zcV_s, zcI_s, zcJ_s, zcA_s, zcD_s, zcF_s, zth_n, zth_t, zrt_s, zQ_l, zQ_r, false_or, or_false, true_or, or_true, false_and, and_false, not_false_eq_true, not_true_eq_false, and_self, true_and, and_true, if_true, if_false, ite_true, ite_false, zgd_t]
      refine ih (k + 1) _ (by omega) (fr.tr (zFr.sI rfl)) (fun i hi => ?_)
      rw [I_sIs]
      by_cases e : i = k
      · rw [e, zput_self]
      · rw [zput_ne _ _ e]; exact Y i (by omega)
  have hsim : zW (sX6_layPlain [.ref 125] h) (fun o => ∃ g, o = (.inl none, g) ∧ zFr (fun c => c = q) h g ∧ ML g q N00) := zsem_to (Nat.le_of_ble_eq_true rfl) (zTo_of gX6_layPlain_0 (key 149 0 h (by omega) zFr.rf (fun i hi => by omega)))
  obtain ⟨o, e1, g, rfl, e2⟩ := hsim
  exact ⟨g, e1, e2⟩
/-- the row turned -/
theorem moS_row {g : zm_H} {q r : Nat} (m0 : moS h q) (hr : zK h r = (0, 149)) (hk : zK g = zK h) (hp : zP g = zP (zsP h 125 3 (some r))) : moS g r := by
  have o : ∀ j, j ≠ 3 → zP (zsP h 125 3 (some r)) 125 j = zP h 125 j := fun j hj => by
    show (zrow (zP h) 125 (zput (zP h 125) 3 (some r))) 125 j = _
    rw [zrow_self, zput_ne _ _ hj]
  have s3 : zP (zsP h 125 3 (some r)) 125 3 = some r := by
    show (zrow (zP h) 125 (zput (zP h 125) 3 (some r))) 125 3 = _
    rw [zrow_self, zput_self]
  unfold moS at m0 ⊢
  rw [hk, hp, o 1 (by omega), o 2 (by omega), o 4 (by omega), o 5 (by omega), o 6 (by omega), o 7 (by omega), o 8 (by omega), o 9 (by omega), o 10 (by omega), o 21 (by omega), o 22 (by omega), o 23 (by omega), o 25 (by omega), s3, hr]
  exact ⟨m0.1, rfl, rfl, m0.2.2.2⟩
def ldM : Nat → Prop := fun c => c = 125 ∨ c = 126 ∨ c = 127 ∨ c = 137
theorem r_load (c : MI h N) (H : HP h P) (B : MB h xs) (hb : BY xs) (hn : 141 ≤ zN h) : ∃ g, zFr ldM h g ∧ (∀ j, j ≠ 0 → (j < 11 ∨ 20 < j) → j ≠ 24 → zI g 125 j = zI h 125 j) ∧ zI g 125 0 = 0 ∧ MB g [] ∧
    ((∃ e, pLoad xs = .inl e ∧ sX6_load [.ref 125] h = some (.inl (some (.int (-4))), g) ∧ MI g N ∧ HP g P ∧ zI g 125 17 = nI e.1 ∧ zI g 125 18 = nI e.2) ∨
     (∃ M, pLoad xs = .inr M ∧ sX6_load [.ref 125] h = some (.inl (some (.int (nI (M 0)))), g) ∧ MI g (fW M) ∧ HP g (pst N P) ∧ zI g 125 17 = 0 ∧ zI g 125 18 = -1)) := by
  have m0 := c.1
  have hl := B.2.1
  have t0 := m0.1
  have t2 := m0.2.2.2.2.1
  have k127 : zK h 127 = (0, 149) := by
    have m1 := m0
    obtain ⟨t0, t3, tq, t1, t2, t4, t5, t6, t7, t8, t9, t10, t21, t22, t23, t25, n6, n7, n8, n9, n10, n11, n12, n13, n14, n15, n16, n17, n18⟩ := m0
    assumption
  have k126 : zK h 126 = (0, 149) := m0.2.2.1
  -- the fields laid
  obtain ⟨h8, hh8⟩ : ∃ h8, h8 = zsI (zsI (zsI (zsI (zsI (zsI (zsI (zsI h 125 0 0) 125 12 (nI xs.length)) 125 11 0) 125 13 0) 125 17 0) 125 18 (-1)) 125 19 0) 125 20 0 := ⟨_, rfl⟩
  have fr8 : zFr (fun c => c = 125) h h8 := by
    rw [hh8]; exact (((((((zFr.sI (A := fun c => c = 125) rfl).tr (zFr.sI rfl)).tr (zFr.sI rfl)).tr (zFr.sI rfl)).tr (zFr.sI rfl)).tr (zFr.sI rfl)).tr (zFr.sI rfl)).tr (zFr.sI rfl)
  have o8 : ∀ j, j ≠ 0 → (j < 11 ∨ 20 < j) → zI h8 125 j = zI h 125 j := fun j hj0 hj => by
    rw [hh8, I_sIs, zput_ne _ _ (by omega), I_sIs, zput_ne _ _ (by omega), I_sIs, zput_ne _ _ (by omega), I_sIs, zput_ne _ _ (by omega), I_sIs, zput_ne _ _ (by omega), I_sIs, zput_ne _ _ (by omega), I_sIs, zput_ne _ _ (by omega), I_sIs, zput_ne _ _ (by omega)]
  have f0 : zI h8 125 0 = 0 := by rw [hh8, I_sIs, zput_ne _ _ (by omega), I_sIs, zput_ne _ _ (by omega), I_sIs, zput_ne _ _ (by omega), I_sIs, zput_ne _ _ (by omega), I_sIs, zput_ne _ _ (by omega), I_sIs, zput_ne _ _ (by omega), I_sIs, zput_ne _ _ (by omega), I_sIs, zput_self]
  have f12 : zI h8 125 12 = nI xs.length := by rw [hh8, I_sIs, zput_ne _ _ (by omega), I_sIs, zput_ne _ _ (by omega), I_sIs, zput_ne _ _ (by omega), I_sIs, zput_ne _ _ (by omega), I_sIs, zput_ne _ _ (by omega), I_sIs, zput_ne _ _ (by omega), I_sIs, zput_self]
  have f11 : zI h8 125 11 = 0 := by rw [hh8, I_sIs, zput_ne _ _ (by omega), I_sIs, zput_ne _ _ (by omega), I_sIs, zput_ne _ _ (by omega), I_sIs, zput_ne _ _ (by omega), I_sIs, zput_ne _ _ (by omega), I_sIs, zput_self]
  have f13 : zI h8 125 13 = 0 := by rw [hh8, I_sIs, zput_ne _ _ (by omega), I_sIs, zput_ne _ _ (by omega), I_sIs, zput_ne _ _ (by omega), I_sIs, zput_ne _ _ (by omega), I_sIs, zput_self]
  have f17 : zI h8 125 17 = 0 := by rw [hh8, I_sIs, zput_ne _ _ (by omega), I_sIs, zput_ne _ _ (by omega), I_sIs, zput_ne _ _ (by omega), I_sIs, zput_self]
  have f18 : zI h8 125 18 = -1 := by rw [hh8, I_sIs, zput_ne _ _ (by omega), I_sIs, zput_ne _ _ (by omega), I_sIs, zput_self]
  have f19 : zI h8 125 19 = 0 := by rw [hh8, I_sIs, zput_ne _ _ (by omega), I_sIs, zput_self]
  have f20 : zI h8 125 20 = 0 := by rw [hh8, I_sIs, zput_self]
  -- the row turned
  obtain ⟨hA, hhA⟩ : ∃ hA, hA = zsP h8 125 3 (some 127) := ⟨_, rfl⟩
  have mA : moS hA 127 := moS_row (moS_fr fr8 m0) (by rw [fr8.K]; exact k127) (by rw [hhA]; rfl) (by rw [hhA])
  have iA : zI hA = zI h8 := by rw [hhA]; rfl
  obtain ⟨gB, eB, frB, mLB⟩ := r_plain mA
  have mB := moS_fr frB mA
  have r125 : zI gB 125 = zI h8 125 := by rw [frB.I (by omega), iA]
  have XB : MX gB xs := ⟨by rw [r125]; exact f12, hl, fun i hi => by rw [frB.I (by omega), iA, fr8.I (by omega)]; exact B.2.2 i hi, hb⟩
  obtain ⟨gC, eC, scC, TC⟩ := r_scan mB XB (e := 0) (by omega) (by rw [r125]; exact f13)
  have CB : CM gC xs N00 false false (skp xs 0) := ⟨moS_fr scC.1 mB, ML_fr scC.1 (by omega) mLB, MX_sc scC XB, TC, by rw [scC.2 17 (by omega), r125]; exact f17, by rw [scC.2 19 (by omega), r125]; exact f19, by rw [scC.2 20 (by omega), r125]; exact f20, by rw [scC.2 18 (by omega), r125]; exact f18⟩
  have PA : PF hA gC := (PF.row frB).tr scC.pf
  -- what is so at the end of the reading, the row turned back
  have back : ∀ g v, PF hA g → zFr (fun c => c = 125 ∨ c = 127) h (zsP (zsI g 127 5 v) 125 3 (some 126)) ∧ (∀ j, zI (zsP (zsI g 127 5 v) 125 3 (some 126)) 125 j = zI g 125 j) := by
    intro g v p
    refine ⟨⟨?_, ?_, ?_, fun b hb2 => ?_⟩, fun j => ?_⟩
    · show zN g = zN h
      rw [p.1.1, hhA]; exact fr8.1
    · show zK g = zK h
      rw [p.1.K, hhA]; exact fr8.K
    · have e1 : zP g = zP hA := p.1.P
      show zrow (zP g) 125 (zput (zP g 125) 3 (some 126)) = zP h
      rw [e1, hhA]
      show zrow (zrow (zP h8) 125 (zput (zP h8 125) 3 (some 127))) 125 (zput (zrow (zP h8) 125 (zput (zP h8 125) 3 (some 127)) 125) 3 (some 126)) = zP h
      rw [fr8.P, zrow_self]
      funext b
      by_cases w : b = 125
      · subst w
        rw [zrow_self]
        funext j
        by_cases w3 : j = 3
        · subst w3; rw [zput_self]; exact m0.2.1.symm
        · rw [zput_ne _ _ w3, zput_ne _ _ w3]
      · rw [zrow_ne _ _ w, zrow_ne _ _ w]
    · have n125 : b ≠ 125 := fun x => hb2 (Or.inl x)
      have n127 : b ≠ 127 := fun x => hb2 (Or.inr x)
      obtain ⟨a1, a2, a3⟩ := p.1.2.2.2 b hb2
      obtain ⟨b1, b2, b3⟩ := fr8.2.2.2 b (fun x => n125 x)
      refine ⟨?_, ?_, ?_⟩
      · show zI (zsI g 127 5 v) b = _
        rw [I_sIn n127, a1, hhA]; exact b1
      · show zJ g b = _
        rw [a2, hhA]; exact b2
      · show zD g b = _
        rw [a3, hhA]; exact b3
    · show zI (zsI g 127 5 v) 125 j = _
      rw [I_sIn (by omega)]
  have io : ∀ g v, PF hA g → (∀ j, j ≠ 0 → (j < 11 ∨ 20 < j) → zI (zsP (zsI g 127 5 v) 125 3 (some 126)) 125 j = zI h 125 j) ∧ zI (zsP (zsI g 127 5 v) 125 3 (some 126)) 125 0 = 0 ∧ zI (zsP (zsI g 127 5 v) 125 3 (some 126)) 125 11 = 0 := by
    intro g v p
    obtain ⟨-, b2⟩ := back g v p
    refine ⟨fun j h0 hj => ?_, ?_, ?_⟩
    · rw [b2, p.2 j (by omega), iA]; exact o8 j h0 hj
    · rw [b2, p.2 0 (by omega), iA]; exact f0
    · rw [b2, p.2 11 (by omega), iA]; exact f11
  obtain ⟨R, hR⟩ : ∃ R : PR zLv → zm_O → Prop, R = (fun u o => ∃ g, zFr ldM h g ∧ (∀ j, j ≠ 0 → (j < 11 ∨ 20 < j) → j ≠ 24 → zI g 125 j = zI h 125 j) ∧ zI g 125 0 = 0 ∧ MB g [] ∧ ((∃ e, u = .inl e ∧ o = (.inl (some (.int (-4))), g) ∧ MI g N ∧ HP g P ∧ zI g 125 17 = nI e.1 ∧ zI g 125 18 = nI e.2) ∨ (∃ M, u = .inr M ∧ o = (.inl (some (.int (nI (M 0)))), g) ∧ MI g (fW M) ∧ HP g (pst N P) ∧ zI g 125 17 = 0 ∧ zI g 125 18 = -1))) := ⟨_, rfl⟩
  have mb0 : ∀ g : zm_H, zI g 125 11 = 0 → MB g [] := fun g e => ⟨e, by show 0 ≤ 500; omega, fun i hi => absurd hi (Nat.not_lt_zero i)⟩
  have bad : ∀ g e, PF hA g → EE g e → zTo vX6_load rX6_load (42, [some (.ref 125), none], [], g) (R (.inl e)) := by
    intro g e p E
    have m1 := E.1
    have z0 := m1.1
    have z3 := m1.2.1
    have zq := m1.2.2.1
    have z1 := m1.2.2.2.1
    obtain ⟨b1, b2⟩ := back g (zI g 127 2) p
    obtain ⟨b3, b4, b5⟩ := io g (zI g 127 2) p
    have nn : (126 : Nat) < zN g := by
      have : zN g = zN h := b1.1
      omega
    have m2 := moS_fr b1 m0
    have ff : sX6_fine [.ref 125] (zsP (zsI g 127 5 (zI g 127 2)) 125 3 (some 126)) = some (.inl (some (.int 0)), zsP (zsI g 127 5 (zI g 127 2)) 125 3 (some 126)) := fine_f m2 (by rw [b2]; exact E.2.2.2.1)
    refine zTo_of gX6_load_42 ?_
    simp only [z0, fine_f m1 E.2.2.2.1, z3, zq, z1, c_2, p_2, c_5', p_5', show ¬ 149 ≤ 2 by omega, show ¬ 149 ≤ 5 by omega, K_sI, K_sJ, K_sD, K_sP, K_rI, K_rJ, P_sI, P_sJ, P_sD, P_rI, P_rJ, N_sI, N_sJ, N_sD, N_sP, N_rI, N_rJ, J_sI, J_sD, J_sP, J_rI, I_sJ, I_sD, I_sP, I_rJ, D_sI, D_sJ, D_sP, D_rI, D_rJ, nn, ff, zmp_s, zlt_s, zcV_s, zcI_s, zcJ_s, zcA_s, zcD_s, zcF_s, zth_n, zth_t, zrt_s, zQ_l, zQ_r, false_or, or_false, true_or, or_true, false_and, and_false, not_false_eq_true, not_true_eq_false, and_self, true_and, and_true, if_true, if_false, ite_true, ite_false, zgd_t]
    rw [hR]
    exact ⟨_, b1.mono (fun c hc => by unfold ldM; omega), fun j h0 hj _ => b3 j h0 hj, b4, mb0 _ b5, Or.inl ⟨e, rfl, rfl, ⟨m2, ML_fr b1 (by omega) c.2.1, c.2.2⟩, HP_fr b1 (by omega) (b3 24 (by omega) (by omega)) H, by rw [b2]; exact E.2.1, by rw [b2]; exact E.2.2.1⟩⟩
  have good : ∀ g M fl fe s, PF hA g → CM g xs M fl fe s → ty xs s = 0 → PI M → 1 ≤ M 0 → zTo vX6_load rX6_load (42, [some (.ref 125), none], [], g) (R (.inr M)) := by
    intro g M fl fe s p C ts hI h1
    have m1 := C.1
    have z0 := m1.1
    have z3 := m1.2.1
    have zq := m1.2.2.1
    have z1 := m1.2.2.2.1
    have l2 : zI g 127 2 = nI (M 2) := C.2.1.at (by omega) (by omega)
    obtain ⟨b1, b2⟩ := back g (zI g 127 2) p
    obtain ⟨b3, b4, b5⟩ := io g (zI g 127 2) p
    have nn : (126 : Nat) < zN g := by
      have : zN g = zN h := b1.1
      omega
    obtain ⟨gD, hgD⟩ : ∃ gD, gD = zsP (zsI g 127 5 (zI g 127 2)) 125 3 (some 126) := ⟨_, rfl⟩
    rw [← hgD] at b1 b2 b3 b4 b5
    have m2 := moS_fr b1 m0
    have ff : sX6_fine [.ref 125] gD = some (.inl (some (.int 1)), gD) := fine_t m2 (by rw [b2]; exact C.2.2.2.2.1)
    have cD : MI gD N := ⟨m2, ML_fr b1 (by omega) c.2.1, c.2.2⟩
    have HD : HP gD P := HP_fr b1 (by omega) (b3 24 (by omega) (by omega)) H
    have mLD : ML gD 127 (fW M) := by
      have a := ML_put (i := 5) (x := M 2) C.2.1 (by omega)
      rw [← l2] at a
      rw [hgD]
      exact a
    obtain ⟨gE, eE, frE, oE, HE⟩ := r_remember cD HD
    have mE := moS_fr frE m2
    have mLE := ML_fr frE (by unfold rmA; omega) mLD
    have e15 : (zI g 125 15 = 0) = True := eq_true (by rw [C.2.2.2.1.2.2.1, ts]; rfl)
    have wf := WF_fW hI h1
    refine zTo_of gX6_load_42 ?_
    simp only [z0, fine_t m1 C.2.2.2.2.1, i10, e15, z3, zq, z1, c_2, p_2, c_5', p_5', show ¬ 149 ≤ 2 by omega, show ¬ 149 ≤ 5 by omega, K_sI, K_sJ, K_sD, K_sP, K_rI, K_rJ, P_sI, P_sJ, P_sD, P_rI, P_rJ, N_sI, N_sJ, N_sD, N_sP, N_rI, N_rJ, J_sI, J_sD, J_sP, J_rI, I_sJ, I_sD, I_sP, I_rJ, D_sI, D_sJ, D_sP, D_rI, D_rJ, nn, ← hgD, ff, m2.1, eE, zmp_s, zlt_s, zcV_s, zcI_s, zcJ_s, zcA_s, zcD_s, zcF_s, zth_n, zth_t, zrt_s, zQ_l, zQ_r, false_or, or_false, true_or, or_true, false_and, and_false, not_false_eq_true, not_true_eq_false, and_self, true_and, and_true, if_true, if_false, ite_true, ite_false, zgd_t]
    have key : ∀ d k g2, k + d = 149 → zFr (fun c => c = 126) gE g2 → (∀ i, i < k → zI g2 126 i = mI (fW M) i) → zTo vX6_load rX6_load (72, [some (.ref 125), some (.int (nI k))], [], g2) (R (.inr M)) := by
      intro d
      induction d with
      | zero =>
        intro k g2 hk fr Y
        have hk : k = 149 := by omega
        have m3 := moS_fr fr mE
        have mL3 : ML g2 126 (fW M) := fun i hi => Y i (by omega)
        refine zTo_of gX6_load_72 ?_
        simp only [hk, show ((149 : Int32) ≤ nI 149) = True from eq_true (nI_le (a := 149) (b := 149) (by omega) (by omega)), m3.1, r_rooms m3 mL3, fW_ne (N := M) (show 0 ≠ 5 by omega), zmp_s, zlt_s, zcV_s, zcI_s, zcJ_s, zcA_s, zcD_s, zcF_s, zth_n, zth_t, zrt_s, zQ_l, zQ_r, false_or, or_false, true_or, or_true, false_and, and_false, not_false_eq_true, not_true_eq_false, and_self, true_and, and_true, if_true, if_false, ite_true, ite_false, zgd_t]
        rw [hR]
        have e125 : zI g2 125 = zI gE 125 := fr.I (by omega)
        refine ⟨g2, ((b1.mono (fun c hc => by unfold ldM; omega)).tr (frE.mono (fun c hc => by unfold rmA at hc; unfold ldM; omega))).tr (fr.mono (fun c hc => by unfold ldM; omega)), fun j h0 hj h24 => by rw [e125, oE j h24]; exact b3 j h0 hj, by rw [e125, oE 0 (by omega)]; exact b4, mb0 _ (by rw [e125, oE 11 (by omega)]; exact b5), Or.inr ⟨M, rfl, rfl, ⟨m3, mL3, wf⟩, HP_fr fr (by omega) (by rw [e125]) HE, ?_, ?_⟩⟩
        · rw [e125, oE 17 (by omega), b2]; exact C.2.2.2.2.1
        · rw [e125, oE 18 (by omega), b2]; exact C.2.2.2.2.2.2.2
      | succ d ih =>
        intro k g2 hk fr Y
        obtain ⟨f1, f2, f3, f4⟩ := nI_for (show k < 149 by omega) (by omega)
        have f1 : ((149 : Int32) ≤ nI k) = False := f1
        have m3 := moS_fr fr mE
        have x0 := m3.1
        have x1 := m3.2.2.2.1
        have x2 := m3.2.2.2.2.1
        have xq := m3.2.2.1
        have x127 : zK g2 127 = (0, 149) := by rw [fr.K, frE.K, b1.K]; exact k127
        refine zTo_of gX6_load_72 ?_
        simp only [f1, x0, x1, x2, xq, x127, f2, f3, f4, show ¬ 149 ≤ k by omega, zmp_s, zlt_s, zcV_s, zcI_s, zcJ_s, zcA_s, zcD_s, zcF_s, zth_n, zth_t, zrt_s, zQ_l, zQ_r, false_or, or_false, true_or, or_true, false_and, and_false, not_false_eq_true, not_true_eq_false, and_self, true_and, and_true, if_true, if_false, ite_true, ite_false, zgd_t]
        refine ih (k + 1) _ (by omega) (fr.tr (zFr.sI rfl)) (fun i hi => ?_)
        rw [I_sIs]
        by_cases e : i = k
        · rw [e, zput_self, fr.I (by omega)]; exact mLE k (by omega)
        · rw [zput_ne _ _ e]; exact Y i (by omega)
    exact key 149 0 gE (by omega) zFr.rf (fun i hi => by omega)
  have loop : ∀ f M fl s n g, n + f = 500 → n ≤ s → PF hA g → CM g xs M fl (decide (M 3 ≠ 0)) s → PI M → (1 ≤ M 0 ∨ ty xs s ≠ 0) → zTo vX6_load rX6_load (42, [some (.ref 125), none], [], g) (R (if ty xs s = 0 then .inr M else pAll xs f M fl s)) := by
    intro f
    induction f with
    | zero =>
      intro M fl s n g hnf hns p C hI h1
      have ts : ty xs s = 0 := ty_0.mpr (by omega)
      rw [if_pos ts]
      exact good g M fl _ s p C ts hI (h1.resolve_right (fun x => x ts))
    | succ f ih =>
      intro M fl s n g hnf hns p C hI h1
      by_cases ts : ty xs s = 0
      · rw [if_pos ts]
        exact good g M fl _ s p C ts hI (h1.resolve_right (fun x => x ts))
      · rw [if_neg ts]
        have m1 := C.1
        have z0 := m1.1
        have tl := ty_le xs s
        have e15 : (zI g 125 15 = 0) = False := eq_false (fun x => by
          rw [C.2.2.2.1.2.2.1] at x
          have := (nI_eq (b := 0) (by omega) (by omega)).mp x
          exact ts this)
        obtain ⟨g2, ef, p2, hh⟩ := r_stmt C hI
        refine zTo_of gX6_load_42 ?_
        simp only [z0, fine_t m1 C.2.2.2.2.1, i10, e15, ef, zmp_s, zlt_s, zcV_s, zcI_s, zcJ_s, zcA_s, zcD_s, zcF_s, zth_n, zth_t, zrt_s, zQ_l, zQ_r, false_or, or_false, true_or, or_true, false_and, and_false, not_false_eq_true, not_true_eq_false, and_self, true_and, and_true, if_true, if_false, ite_true, ite_false, zgd_t]
        rcases hh with ⟨e, hu, E⟩ | ⟨a, hu, C2, hI2, h12⟩
        · have e2 : pAll xs (f + 1) M fl s = .inl e := by rw [pAll, hu]; rfl
          rw [e2]
          exact bad g2 e (p.tr p2) E
        · have e2 : pAll xs (f + 1) M fl s = if ty xs a.2 = 0 then .inr a.1.1 else pAll xs f a.1.1 a.1.2 a.2 := by rw [pAll, hu]; rfl
          rw [e2]
          have adv := pStmt_s hu
          exact ih _ _ _ (n + 1) g2 (by omega) (by omega) (p.tr p2) C2 hI2 (Or.inl h12)
  have fe0 : decide (N00 3 ≠ 0) = false := by decide
  have hsim : zW (sX6_load [.ref 125] h) (R (pLoad xs)) := by
    refine zsem_to (Nat.le_of_ble_eq_true rfl) (zTo_of gX6_load_0 ?_)
    have l11 := B.1
    have k8 := fr8.K
    have n8 := fr8.1
    have p8 := fr8.P
    have tl := ty_le xs (skp xs 0)
    have zA := mA.1
    have zB := mB.1
    have zC := CB.1.1
    have e1 : zI (zsI h 125 0 0) 125 11 = nI xs.length := by rw [I_sIs, zput_ne _ _ (by omega)]; exact l11
    by_cases ts : ty xs (skp xs 0) = 0
    · have e15 : (zI gC 125 15 = 0) = True := eq_true (by rw [CB.2.2.2.1.2.2.1, ts]; rfl)
      obtain ⟨g2, er, p2, E⟩ := r_errsIf1 (c := 1) (x := 1) CB (by decide) rfl (by omega)
      simp only [t0, K_sI, K_sJ, K_sD, K_sP, K_rI, K_rJ, P_sI, P_sJ, P_sD, P_rI, P_rJ, N_sI, N_sJ, N_sD, N_sP, N_rI, N_rJ, J_sI, J_sD, J_sP, J_rI, I_sJ, I_sD, I_sP, I_rJ, D_sI, D_sJ, D_sP, D_rI, D_rJ, e1, ← hh8, k8, n8, p8, t2, show 127 < zN h by omega, ← hhA, zA, eB, zB, eC, zC, e15, er, zmp_s, zlt_s, zcV_s, zcI_s, zcJ_s, zcA_s, zcD_s, zcF_s, zth_n, zth_t, zrt_s, zQ_l, zQ_r, false_or, or_false, true_or, or_true, false_and, and_false, not_false_eq_true, not_true_eq_false, and_self, true_and, and_true, if_true, if_false, ite_true, ite_false, zgd_t]
      have np : pLoad xs = .inl (1, skp xs 0) := by
        unfold pLoad
        rw [show (500 : Nat) = 499 + 1 from rfl, pAll]
        have nw : ∀ K, isW xs (skp xs 0) K = false := fun K => by unfold isW; rw [decide_eq_false (by omega), Bool.false_and]
        unfold pStmt
        rw [nw, nw, nw, nw]
        rfl
      rw [np]
      exact bad g2 _ (PA.tr p2) E
    · have e15 : (zI gC 125 15 = 0) = False := eq_false (fun x => by
        rw [CB.2.2.2.1.2.2.1] at x
        exact ts ((nI_eq (b := 0) (by omega) (by omega)).mp x))
      simp only [t0, K_sI, K_sJ, K_sD, K_sP, K_rI, K_rJ, P_sI, P_sJ, P_sD, P_rI, P_rJ, N_sI, N_sJ, N_sD, N_sP, N_rI, N_rJ, J_sI, J_sD, J_sP, J_rI, I_sJ, I_sD, I_sP, I_rJ, D_sI, D_sJ, D_sP, D_rI, D_rJ, e1, ← hh8, k8, n8, p8, t2, show 127 < zN h by omega, ← hhA, zA, eB, zB, eC, zC, e15, r_errsIf0 CB, zmp_s, zlt_s, zcV_s, zcI_s, zcJ_s, zcA_s, zcD_s, zcF_s, zth_n, zth_t, zrt_s, zQ_l, zQ_r, false_or, or_false, true_or, or_true, false_and, and_false, not_false_eq_true, not_true_eq_false, and_self, true_and, and_true, if_true, if_false, ite_true, ite_false, zgd_t]
      have lp := loop 500 N00 false (skp xs 0) 0 gC (by omega) (by omega) PA (by rw [fe0]; exact CB) PI_00 (Or.inr ts)
      rw [if_neg ts] at lp
      exact lp
  rw [hR] at hsim
  obtain ⟨o, h1, g, q1, q2, q3, q4, ⟨e, a1, rfl, a2⟩ | ⟨M, a1, rfl, a2⟩⟩ := hsim
  · exact ⟨g, q1, q2, q3, q4, Or.inl ⟨e, a1, h1, a2⟩⟩
  · exact ⟨g, q1, q2, q3, q4, Or.inr ⟨M, a1, h1, a2⟩⟩
theorem r_errorCode (m0 : moS h 126) : sX6_errorCode [.ref 125] h = some (.inl (some (.int (zI h 125 17))), zsI h 125 0 0) := by
  have t0 := m0.1
  refine zsem_eq (Nat.le_of_ble_eq_true rfl) (zTo_of gX6_errorCode_0 ?_)
  simp only [t0, K_sI, K_sJ, K_sD, K_sP, K_rI, K_rJ, P_sI, P_sJ, P_sD, P_rI, P_rJ, N_sI, N_sJ, N_sD, N_sP, N_rI, N_rJ, J_sI, J_sD, J_sP, J_rI, I_sJ, I_sD, I_sP, I_rJ, D_sI, D_sJ, D_sP, D_rI, D_rJ, I_sIs, zput_ne _ _ (show (17 : Nat) ≠ 0 by omega), zmp_s, zlt_s, zcV_s, zcI_s, zcJ_s, zcA_s, zcD_s, zcF_s, zth_n, zth_t, zrt_s, zQ_l, zQ_r, false_or, or_false, true_or, or_true, false_and, and_false, not_false_eq_true, not_true_eq_false, and_self, true_and, and_true, if_true, if_false, ite_true, ite_false, zgd_t]
theorem r_errorPosition (m0 : moS h 126) : sX6_errorPosition [.ref 125] h = some (.inl (some (.int (zI h 125 18))), zsI h 125 0 0) := by
  have t0 := m0.1
  refine zsem_eq (Nat.le_of_ble_eq_true rfl) (zTo_of gX6_errorPosition_0 ?_)
  simp only [t0, K_sI, K_sJ, K_sD, K_sP, K_rI, K_rJ, P_sI, P_sJ, P_sD, P_rI, P_rJ, N_sI, N_sJ, N_sD, N_sP, N_rI, N_rJ, J_sI, J_sD, J_sP, J_rI, I_sJ, I_sD, I_sP, I_rJ, D_sI, D_sJ, D_sP, D_rI, D_rJ, I_sIs, zput_ne _ _ (show (18 : Nat) ≠ 0 by omega), zmp_s, zlt_s, zcV_s, zcI_s, zcJ_s, zcA_s, zcD_s, zcF_s, zth_n, zth_t, zrt_s, zQ_l, zQ_r, false_or, or_false, true_or, or_true, false_and, and_false, not_false_eq_true, not_true_eq_false, and_self, true_and, and_true, if_true, if_false, ite_true, ite_false, zgd_t]
end
end ZQG
