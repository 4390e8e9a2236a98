/-! THE MODEL: statements read. -/
section ZQE
theorem EE.s {h : zm_H} {e : Nat × Nat} {j : Nat} {x : Int32} (E : EE h e) (hj : j ≠ 17 ∧ j ≠ 18) : EE (zsI h 125 j x) e := by
  obtain ⟨m0, e1, e2, e3, n, hn, e4⟩ := E
  have a : zI (zsI h 125 j x) 125 17 = zI h 125 17 := by rw [I_sIs, zput_ne _ _ (by omega)]
  exact ⟨moS_kp rfl rfl m0, by rw [a]; exact e1, by rw [I_sIs, zput_ne _ _ (by omega)]; exact e2, by rw [a]; exact e3, n, hn, by rw [I_sIn (by omega)]; exact e4⟩
theorem EE.r {h : zm_H} {e : Nat × Nat} {j : Nat} {x : Int32} (E : EE h e) (hj : j ≠ 0) : EE (zsI h 127 j x) e := by
  obtain ⟨m0, e1, e2, e3, n, hn, e4⟩ := E
  exact ⟨moS_kp rfl rfl m0, by rw [I_sIn (by omega)]; exact e1, by rw [I_sIn (by omega)]; exact e2, by rw [I_sIn (by omega)]; exact e3, n, hn, by rw [I_sIs, zput_ne _ _ (by omega)]; exact e4⟩
/-- a routine that answers nothing, and what the text says -/
def QM {A : Type} (h : zm_H) (u : PR A) (f : Option zm_O) (K : A → zm_H → Prop) : Prop := ∃ g, f = some (.inl none, g) ∧ PF h g ∧ ((∃ e, u = .inl e ∧ EE g e) ∨ (∃ a, u = .inr a ∧ K a g))
section
variable {h : zm_H} {xs : List Int32} {N : zLv} {fl fe : Bool} {s : Nat} {e : Nat × Nat}
theorem CM.row {g : zm_H} {M : zLv} (C : CM h xs N fl fe s) (fr : zFr (fun c => c = 127) h g) (mL : ML g 127 M) : CM g xs M fl fe s := by
  have e : zI g 125 = zI h 125 := fr.I (by omega)
  obtain ⟨m0, _, X, T, f17, f19, f20⟩ := C
  refine ⟨moS_fr fr m0, mL, ⟨by rw [e]; exact X.1, X.2.1, fun i hi => by rw [fr.I (by omega)]; exact X.2.2.1 i hi, X.2.2.2⟩, ?_, by rw [e]; exact f17, by rw [e]; exact f19, by rw [e]; exact f20⟩
  unfold MT at T ⊢
  rw [e]; exact T
theorem PF.row {g : zm_H} (fr : zFr (fun c => c = 127) h g) : PF h g := ⟨fr.mono (fun c hc => Or.inr hc), fun j _ => by rw [fr.I (by omega)]⟩
theorem CM.f19 (C : CM h xs N fl fe s) : CM (zsI h 125 19 1) xs N true fe s := by
  obtain ⟨m0, mL, X, T, f17, f19, f20⟩ := C
  have fr : zFr (fun c => c = 125) h (zsI h 125 19 1) := zFr.sI rfl
  obtain ⟨b1, b2, b3, b4, b5, b6, b7⟩ := T
  refine ⟨moS_fr fr m0, ML_fr fr (by omega) mL, ⟨by rw [I_sIs, zput_ne _ _ (by omega)]; exact X.1, X.2.1, fun i hi => by rw [fr.I (by omega)]; exact X.2.2.1 i hi, X.2.2.2⟩, ⟨?_, ?_, ?_, ?_, ?_, b6, b7⟩, ?_, ?_, ?_⟩
  · rw [I_sIs, zput_ne _ _ (by omega)]; exact b1
  · rw [I_sIs, zput_ne _ _ (by omega)]; exact b2
  · rw [I_sIs, zput_ne _ _ (by omega)]; exact b3
  · rw [I_sIs, zput_ne _ _ (by omega)]; exact b4
  · rw [I_sIs, zput_ne _ _ (by omega)]; exact b5
  · rw [I_sIs, zput_ne _ _ (by omega)]; exact f17
  · rw [I_sIs, zput_self]; rfl
  · rw [I_sIs, zput_ne _ _ (by omega)]; exact ⟨f20.1, by rw [zput_ne _ _ (by omega)]; exact f20.2⟩
theorem CM.f20 (C : CM h xs N fl fe s) : CM (zsI h 125 20 1) xs N fl true s := by
  obtain ⟨m0, mL, X, T, f17, f19, f20⟩ := C
  have fr : zFr (fun c => c = 125) h (zsI h 125 20 1) := zFr.sI rfl
  obtain ⟨b1, b2, b3, b4, b5, b6, b7⟩ := T
  refine ⟨moS_fr fr m0, ML_fr fr (by omega) mL, ⟨by rw [I_sIs, zput_ne _ _ (by omega)]; exact X.1, X.2.1, fun i hi => by rw [fr.I (by omega)]; exact X.2.2.1 i hi, X.2.2.2⟩, ⟨?_, ?_, ?_, ?_, ?_, b6, b7⟩, ?_, ?_, ?_⟩
  · rw [I_sIs, zput_ne _ _ (by omega)]; exact b1
  · rw [I_sIs, zput_ne _ _ (by omega)]; exact b2
  · rw [I_sIs, zput_ne _ _ (by omega)]; exact b3
  · rw [I_sIs, zput_ne _ _ (by omega)]; exact b4
  · rw [I_sIs, zput_ne _ _ (by omega)]; exact b5
  · rw [I_sIs, zput_ne _ _ (by omega)]; exact f17
  · rw [I_sIs, zput_ne _ _ (by omega)]; exact f19
  · rw [I_sIs, zput_self]; exact ⟨rfl, by rw [zput_ne _ _ (by omega)]; exact f20.2⟩
theorem r_start (C : CM h xs N fl fe s) (hI : PI N) : QM h (pStart xs N fl s) (sX6_parseStart [.ref 125] h) (fun u g => CM g xs u.1 true fe u.2 ∧ PI u.1 ∧ 1 ≤ u.1 0 ∧ u.1 3 = N 3) := by
  have t0 := C.1.1
  have h0 := hI.1
  have f19 := C.2.2.2.2.2.1
  unfold pStart
  cases fl
  · rw [if_neg (by simp)]
    rw [zb_f] at f19
    have C1 := C.f19
    have p1 : PF h (zsI h 125 19 1) := PF.s (by omega)
    obtain ⟨g2, e2, p2, C2⟩ := r_goOn C1
    have z1 := C1.1.1
    have z2 := C2.1
    have z20 := z2.1
    have z23 := z2.2.1
    have z2q := z2.2.2.1
    have P2 := p1.tr p2
    rcases r_roomHere C2 hI with ⟨r, hu, er, hr⟩ | ⟨e, g3, hu, er, p3, E⟩
    · rw [hu]
      have mL3 := ML_put (i := 2) (x := r) C2.2.1 (by omega)
      have fr3 : zFr (fun c => c = 127) g2 (zsI g2 127 2 (nI r)) := zFr.sI rfl
      have C3 := C2.row fr3 mL3
      obtain ⟨g4, e4, p4, C4⟩ := r_goOn C3
      obtain ⟨g5, e5, p5, hh⟩ := r_semi C4 (by rw [zput_ne _ _ (by omega)]; exact h0)
      have z3 := C3.1.1
      have z4 := C4.1.1
      refine ⟨g5, ?_, ((P2.tr (PF.row fr3)).tr p4).tr p5, ?_⟩
      · refine zsem_eq (Nat.le_of_ble_eq_true rfl) (zTo_of gX6_parseStart_0 ?_)
        simp only [t0, f19, r_errsIf0 C, z1, e2, z20, z23, z2q, er, c_2, p_2, show ¬ 149 ≤ 2 by omega, z3, e4, z4, e5, zmp_s, zlt_s, zcV_s, zcI_s, zcJ_s, zcA_s, zcD_s, zcF_s, zth_n, zth_t, zrt_s, zQ_l, zQ_r, false_or, or_false, true_or, or_true, false_and, and_false, not_false_eq_true, not_true_eq_false, and_self, true_and, and_true, if_true, if_false, ite_true, ite_false, zgd_t]
      · show (∃ e, pb (pSemi xs (nxt xs (nxt xs s))) _ = .inl e ∧ _) ∨ (∃ a, pb (pSemi xs (nxt xs (nxt xs s))) _ = .inr a ∧ _)
        rcases hh with ⟨y, hy, C5⟩ | ⟨e, hy, E⟩
        · rw [hy]
          exact Or.inr ⟨_, rfl, C5, PI_2 hI hr, by show 1 ≤ zput N 2 r 0; rw [zput_ne _ _ (by omega)]; omega, (zput_ne _ _ (by omega) : zput N 2 r 3 = N 3)⟩
        · rw [hy]
          exact Or.inl ⟨_, rfl, E⟩
    · rw [hu]
      have E1 := E.r (j := 2) (x := 0) (by omega)
      have z3 := E1.1.1
      have z3q : zK g3 127 = (0, 149) := E.1.2.2.1
      refine ⟨zsI g3 127 2 0, ?_, (P2.tr p3).tr PF.r, Or.inl ⟨e, rfl, E1⟩⟩
      refine zsem_eq (Nat.le_of_ble_eq_true rfl) (zTo_of gX6_parseStart_0 ?_)
      simp only [t0, f19, r_errsIf0 C, z1, e2, z20, z23, z3q, er, c_2, p_2, show ¬ 149 ≤ 2 by omega, z3, x_goOn E1, x_semi E1, zmp_s, zlt_s, zcV_s, zcI_s, zcJ_s, zcA_s, zcD_s, zcF_s, zth_n, zth_t, zrt_s, zQ_l, zQ_r, false_or, or_false, true_or, or_true, false_and, and_false, not_false_eq_true, not_true_eq_false, and_self, true_and, and_true, if_true, if_false, ite_true, ite_false, zgd_t]
  · rw [if_pos rfl]
    rw [zb_t] at f19
    obtain ⟨g, er, p, E⟩ := r_errsIf1 (c := 5) (x := 5) C h0 rfl (by omega)
    have E1 := E.s (j := 19) (x := 1) (by omega)
    have E2 := E1.r (j := 2) (x := 0) (by omega)
    have z1 := E.1.1
    have z2 := E1.1
    have z20 := z2.1
    have z23 := z2.2.1
    have z2q := z2.2.2.1
    have z3 := E2.1.1
    refine ⟨zsI (zsI g 125 19 1) 127 2 0, ?_, (p.tr (PF.s (by omega))).tr PF.r, Or.inl ⟨_, rfl, E2⟩⟩
    refine zsem_eq (Nat.le_of_ble_eq_true rfl) (zTo_of gX6_parseStart_0 ?_)
    simp only [t0, f19, er, z1, x_goOn E1, z20, z23, z2q, x_room E1, c_2, p_2, show ¬ 149 ≤ 2 by omega, z3, x_goOn E2, x_semi E2, zmp_s, zlt_s, zcV_s, zcI_s, zcJ_s, zcA_s, zcD_s, zcF_s, zth_n, zth_t, zrt_s, zQ_l, zQ_r, false_or, or_false, true_or, or_true, false_and, and_false, not_false_eq_true, not_true_eq_false, and_self, true_and, and_true, if_true, if_false, ite_true, ite_false, zgd_t]
theorem r_end (C : CM h xs N fl fe s) (hI : PI N) (hfe : fe = decide (N 3 ≠ 0)) : QM h (pEnd xs N s) (sX6_parseEnd [.ref 125] h) (fun u g => CM g xs u.1 fl (decide (u.1 3 ≠ 0)) u.2 ∧ PI u.1 ∧ 1 ≤ u.1 0) := by
  have t0 := C.1.1
  have h0 := hI.1
  have f20 := C.2.2.2.2.2.2.1
  unfold pEnd
  by_cases w : N 3 = 0
  · rw [if_neg (by simp [w])]
    have : fe = false := by rw [hfe]; simp [w]
    rw [this, zb_f] at f20
    have C1 := C.f20
    have p1 : PF h (zsI h 125 20 1) := PF.s (by omega)
    obtain ⟨g2, e2, p2, C2⟩ := r_goOn C1
    have z1 := C1.1.1
    have z2 := C2.1
    have z20 := z2.1
    have z23 := z2.2.1
    have z2q := z2.2.2.1
    have P2 := p1.tr p2
    rcases r_roomHere C2 hI with ⟨r, hu, er, hr⟩ | ⟨e, g3, hu, er, p3, E⟩
    · rw [hu]
      have mL3 := eI_end (x := r + 1) C2.2.1
      rw [eI_s] at mL3
      have fr3 : zFr (fun c => c = 127) g2 (zsI g2 127 3 (nI r)) := zFr.sI rfl
      have C3 := C2.row fr3 mL3
      obtain ⟨g4, e4, p4, C4⟩ := r_goOn C3
      obtain ⟨g5, e5, p5, hh⟩ := r_semi C4 (by rw [zput_ne _ _ (by omega)]; exact h0)
      have z3 := C3.1.1
      have z4 := C4.1.1
      refine ⟨g5, ?_, ((P2.tr (PF.row fr3)).tr p4).tr p5, ?_⟩
      · refine zsem_eq (Nat.le_of_ble_eq_true rfl) (zTo_of gX6_parseEnd_0 ?_)
        simp only [t0, f20, r_errsIf0 C, z1, e2, z20, z23, z2q, er, c_3, p_3, show ¬ 149 ≤ 3 by omega, z3, e4, z4, e5, zmp_s, zlt_s, zcV_s, zcI_s, zcJ_s, zcA_s, zcD_s, zcF_s, zth_n, zth_t, zrt_s, zQ_l, zQ_r, false_or, or_false, true_or, or_true, false_and, and_false, not_false_eq_true, not_true_eq_false, and_self, true_and, and_true, if_true, if_false, ite_true, ite_false, zgd_t]
      · show (∃ e, pb (pSemi xs (nxt xs (nxt xs s))) _ = .inl e ∧ _) ∨ (∃ a, pb (pSemi xs (nxt xs (nxt xs s))) _ = .inr a ∧ _)
        rcases hh with ⟨y, hy, C5⟩ | ⟨e, hy, E⟩
        · rw [hy]
          refine Or.inr ⟨_, rfl, ?_, PI_3 (x := r + 1) hI (by omega), by show 1 ≤ zput N 3 (r + 1) 0; rw [zput_ne _ _ (by omega)]; omega⟩
          have : decide (zput N 3 (r + 1) 3 ≠ 0) = true := by rw [zput_self]; simp
          show CM g5 xs (zput N 3 (r + 1)) fl (decide (zput N 3 (r + 1) 3 ≠ 0)) y
          rw [this]; exact C5
        · rw [hy]
          exact Or.inl ⟨_, rfl, E⟩
    · rw [hu]
      have E1 := E.r (j := 3) (x := 0) (by omega)
      have z3 := E1.1.1
      have z3q : zK g3 127 = (0, 149) := E.1.2.2.1
      refine ⟨zsI g3 127 3 0, ?_, (P2.tr p3).tr PF.r, Or.inl ⟨e, rfl, E1⟩⟩
      refine zsem_eq (Nat.le_of_ble_eq_true rfl) (zTo_of gX6_parseEnd_0 ?_)
      simp only [t0, f20, r_errsIf0 C, z1, e2, z20, z23, z3q, er, c_3, p_3, show ¬ 149 ≤ 3 by omega, z3, x_goOn E1, x_semi E1, zmp_s, zlt_s, zcV_s, zcI_s, zcJ_s, zcA_s, zcD_s, zcF_s, zth_n, zth_t, zrt_s, zQ_l, zQ_r, false_or, or_false, true_or, or_true, false_and, and_false, not_false_eq_true, not_true_eq_false, and_self, true_and, and_true, if_true, if_false, ite_true, ite_false, zgd_t]
  · rw [if_pos w]
    have : fe = true := by rw [hfe]; simp [w]
    rw [this, zb_t] at f20
    obtain ⟨g, er, p, E⟩ := r_errsIf1 (c := 5) (x := 5) C h0 rfl (by omega)
    have E1 := E.s (j := 20) (x := 1) (by omega)
    have E2 := E1.r (j := 3) (x := 0) (by omega)
    have z1 := E.1.1
    have z2 := E1.1
    have z20 := z2.1
    have z23 := z2.2.1
    have z2q := z2.2.2.1
    have z3 := E2.1.1
    refine ⟨zsI (zsI g 125 20 1) 127 3 0, ?_, (p.tr (PF.s (by omega))).tr PF.r, Or.inl ⟨_, rfl, E2⟩⟩
    refine zsem_eq (Nat.le_of_ble_eq_true rfl) (zTo_of gX6_parseEnd_0 ?_)
    simp only [t0, f20, er, z1, x_goOn E1, z20, z23, z2q, x_room E1, c_3, p_3, show ¬ 149 ≤ 3 by omega, z3, x_goOn E2, x_semi E2, zmp_s, zlt_s, zcV_s, zcI_s, zcJ_s, zcA_s, zcD_s, zcF_s, zth_n, zth_t, zrt_s, zQ_l, zQ_r, false_or, or_false, true_or, or_true, false_and, and_false, not_false_eq_true, not_true_eq_false, and_self, true_and, and_true, if_true, if_false, ite_true, ite_false, zgd_t]
theorem CM_ra {c ks cs : Nat} (C : CM h xs N fl fe s) : PF h (zsI (zsI (zsI (zsI h 127 0 (nI (N 0 + 1))) 127 (16 + 3 * N 0) (nI ks)) 127 (17 + 3 * N 0) (nI cs)) 127 (18 + 3 * N 0) (nI c)) ∧ CM (zsI (zsI (zsI (zsI h 127 0 (nI (N 0 + 1))) 127 (16 + 3 * N 0) (nI ks)) 127 (17 + 3 * N 0) (nI cs)) 127 (18 + 3 * N 0) (nI c)) xs (nRa N c ks cs) fl fe s := by
  have a1 := ML_put (i := 0) (x := N 0 + 1) C.2.1 (by omega)
  have a2 := ML_put (i := 16 + 3 * N 0) (x := ks) a1 (by omega)
  have a3 := ML_put (i := 17 + 3 * N 0) (x := cs) a2 (by omega)
  have a4 := ML_put (i := 18 + 3 * N 0) (x := c) a3 (by omega)
  have fr : zFr (fun c => c = 127) h (zsI (zsI (zsI (zsI h 127 0 (nI (N 0 + 1))) 127 (16 + 3 * N 0) (nI ks)) 127 (17 + 3 * N 0) (nI cs)) 127 (18 + 3 * N 0) (nI c)) := (((zFr.sI (A := fun c => c = 127) rfl).tr (zFr.sI rfl)).tr (zFr.sI rfl)).tr (zFr.sI rfl)
  exact ⟨PF.row fr, C.row fr a4⟩
theorem r_room1 (C : CM h xs N fl fe s) (hI : PI N) : QM h (pRoom xs N s) (sX6_parseRoom [.ref 125] h) (fun u g => CM g xs u.1 fl fe u.2 ∧ PI u.1 ∧ 1 ≤ u.1 0 ∧ u.1 3 = N 3) := by
  have t0 := C.1.1
  have h0 := hI.1
  have rr := r_rooms C.1 C.2.1
  have e11 : (nI (N 0) = 11) = (N 0 = 11) := propext (nI_eq (b := 11) (by omega) (by omega))
  obtain ⟨R, hR⟩ : ∃ R : PR (zLv × Nat) → zm_O → Prop, R = (fun u o => ∃ g, o = (.inl none, g) ∧ PF h g ∧ ((∃ e, u = .inl e ∧ EE g e) ∨ (∃ a, u = .inr a ∧ CM g xs a.1 fl fe a.2 ∧ PI a.1 ∧ 1 ≤ a.1 0 ∧ a.1 3 = N 3))) := ⟨_, rfl⟩
  have bad24 : ∀ g e x w, PF h g → EE g e → zTo vX6_parseRoom rX6_parseRoom (24, [some (.ref 125), some (.int x), none, none, none], [.int w, .ref 125], g) (R (.inl e)) := by
    intro g e x w p E
    have z0 := E.1.1
    have w2 := x_word (k := 2) E (by omega)
    refine zTo_of gX6_parseRoom_24 ?_
    simp only [z0, x_errsIf E, x_goOn E, x_keys E, w2, x_semi E, fine_f E.1 E.2.2.2.1, zmp_s, zlt_s, zcV_s, zcI_s, zcJ_s, zcA_s, zcD_s, zcF_s, zth_n, zth_t, zrt_s, zQ_l, zQ_r, false_or, or_false, true_or, or_true, false_and, and_false, not_false_eq_true, not_true_eq_false, and_self, true_and, and_true, if_true, if_false, ite_true, ite_false, zgd_t]
    rw [hR]
    exact ⟨g, rfl, p, Or.inl ⟨e, rfl, E⟩⟩
  have hsim : zW (sX6_parseRoom [.ref 125] h) (R (pRoom xs N s)) := by
    refine zsem_to (Nat.le_of_ble_eq_true rfl) (zTo_of gX6_parseRoom_0 ?_)
    unfold pRoom
    by_cases w : N 0 = 11
    · rw [if_pos (by omega)]
      simp only [t0, rr, e11, eq_true w, zmp_s, zlt_s, zcV_s, zcI_s, zcJ_s, zcA_s, zcD_s, zcF_s, zth_n, zth_t, zrt_s, zQ_l, zQ_r, false_or, or_false, true_or, or_true, false_and, and_false, not_false_eq_true, not_true_eq_false, and_self, true_and, and_true, if_true, if_false, ite_true, ite_false, zgd_t]
      obtain ⟨g, er, p, E⟩ := r_errsIf1 (c := 5) (x := 5) C h0 rfl (by omega)
      have z0 := E.1.1
      refine zTo_of gX6_parseRoom_8 ?_
      simp only [t0, er, z0, x_goOn E, x_name E, x_named E, zmp_s, zlt_s, zcV_s, zcI_s, zcJ_s, zcA_s, zcD_s, zcF_s, zth_n, zth_t, zrt_s, zQ_l, zQ_r, false_or, or_false, true_or, or_true, false_and, and_false, not_false_eq_true, not_true_eq_false, and_self, true_and, and_true, if_true, if_false, ite_true, ite_false, zgd_t]
      exact bad24 g _ _ _ p E
    · rw [if_neg (by omega)]
      simp only [t0, rr, e11, eq_false w, zmp_s, zlt_s, zcV_s, zcI_s, zcJ_s, zcA_s, zcD_s, zcF_s, zth_n, zth_t, zrt_s, zQ_l, zQ_r, false_or, or_false, true_or, or_true, false_and, and_false, not_false_eq_true, not_true_eq_false, and_self, true_and, and_true, if_true, if_false, ite_true, ite_false, zgd_t]
      obtain ⟨g1, e1, p1, C1⟩ := r_goOn C
      have z1 := C1.1.1
      refine zTo_of gX6_parseRoom_8 ?_
      rcases r_nameHere C1 h0 with ⟨q, nm, c1, c2⟩ | ⟨q, g2, nm, p2, E⟩
      · rw [if_pos q]
        have rn := r_roomNamed (c := wcd xs (nxt xs s)) C1.1 C1.2.1 h0 hI.2.2.2.2.2.2.2 c1
        cases w2 : nRn N (wcd xs (nxt xs s)) with
        | some r =>
          rw [w2] at rn
          have rn : sX6_roomNamed [.ref 125, .int (nI (wcd xs (nxt xs s)))] g1 = some (.inl (some (.int (nI r))), g1) := rn
          have rl := nRn_lt w2
          simp only [t0, r_errsIf0 C, e1, z1, nm, rn, nI_m1f (show r < 2 ^ 31 by omega), zmp_s, zlt_s, zcV_s, zcI_s, zcJ_s, zcA_s, zcD_s, zcF_s, zth_n, zth_t, zrt_s, zQ_l, zQ_r, false_or, or_false, true_or, or_true, false_and, and_false, not_false_eq_true, not_true_eq_false, and_self, true_and, and_true, if_true, if_false, ite_true, ite_false, zgd_t]
          obtain ⟨g3, er, p3, E⟩ := r_errsIf1 (c := 3) (x := 3) C1 h0 rfl (by omega)
          have z0 := E.1.1
          have w2 := x_word (k := 2) E (by omega)
          refine zTo_of gX6_parseRoom_24 ?_
          simp only [z1, er, z0, x_goOn E, x_keys E, w2, x_semi E, fine_f E.1 E.2.2.2.1, zmp_s, zlt_s, zcV_s, zcI_s, zcJ_s, zcA_s, zcD_s, zcF_s, zth_n, zth_t, zrt_s, zQ_l, zQ_r, false_or, or_false, true_or, or_true, false_and, and_false, not_false_eq_true, not_true_eq_false, and_self, true_and, and_true, if_true, if_false, ite_true, ite_false, zgd_t]
          rw [hR]
          exact ⟨g3, rfl, p1.tr p3, Or.inl ⟨_, rfl, E⟩⟩
        | none =>
          rw [w2] at rn
          have rn : sX6_roomNamed [.ref 125, .int (nI (wcd xs (nxt xs s)))] g1 = some (.inl (some (.int (-1))), g1) := rn
          simp only [t0, r_errsIf0 C, e1, z1, nm, rn, zmp_s, zlt_s, zcV_s, zcI_s, zcJ_s, zcA_s, zcD_s, zcF_s, zth_n, zth_t, zrt_s, zQ_l, zQ_r, false_or, or_false, true_or, or_true, false_and, and_false, not_false_eq_true, not_true_eq_false, and_self, true_and, and_true, if_true, if_false, ite_true, ite_false, zgd_t]
          obtain ⟨g2, e2, p2, C2⟩ := r_goOn C1
          have z2 := C2.1.1
          refine zTo_of gX6_parseRoom_24 ?_
          show zQ vX6_parseRoom rX6_parseRoom (R (pb (pKeyO xs (nxt xs (nxt xs s))) _)) _
          obtain ⟨g3, p3, ⟨er, x, hu, hf, E⟩ | ⟨a, hu, hf, C3, hk⟩⟩ := r_keys C2 h0
          · rw [hu]
            have z0 := E.1.1
            have w2 := x_word (k := 2) E (by omega)
            simp only [z1, r_errsIf0 C1, e2, z2, hf, z0, w2, x_semi E, fine_f E.1 E.2.2.2.1, zmp_s, zlt_s, zcV_s, zcI_s, zcJ_s, zcA_s, zcD_s, zcF_s, zth_n, zth_t, zrt_s, zQ_l, zQ_r, false_or, or_false, true_or, or_true, false_and, and_false, not_false_eq_true, not_true_eq_false, and_self, true_and, and_true, if_true, if_false, ite_true, ite_false, zgd_t]
            rw [hR]
            exact ⟨g3, rfl, (p1.tr p2).tr p3, Or.inl ⟨_, rfl, E⟩⟩
          · rw [hu]
            have P3 := (p1.tr p2).tr p3
            have z3 := C3.1.1
            have w2 := r_word (k := 2) C3 (by omega) kcd_all.2.2.1
            show zQ vX6_parseRoom rX6_parseRoom (R (pb (pCoin xs a.2) _)) _
            unfold pCoin
            have fin : ∀ cs y, cs ≤ 99 → ∀ k, PF h k → CM k xs N fl fe y → ∃ g, g = zsI (zsI (zsI (zsI k 127 0 (nI (N 0 + 1))) 127 (16 + 3 * N 0) (nI a.1)) 127 (17 + 3 * N 0) (nI cs)) 127 (18 + 3 * N 0) (nI (wcd xs (nxt xs s))) ∧ R (.inr (nRa N (wcd xs (nxt xs s)) a.1 cs, y)) (.inl none, g) := by
              intro cs y hcs k pk Ck
              obtain ⟨q1, q2⟩ := CM_ra (c := wcd xs (nxt xs s)) (ks := a.1) (cs := cs) Ck
              obtain ⟨i1, i2⟩ := PI_ra (c := wcd xs (nxt xs s)) (ks := a.1) (cs := cs) hI (by omega) c1 hk hcs
              refine ⟨_, rfl, ?_⟩
              rw [hR]
              exact ⟨_, rfl, pk.tr q1, Or.inr ⟨_, rfl, q2, i1, i2, by show nRa N _ _ _ 3 = N 3; unfold nRa; rw [zput_ne _ _ (by omega), zput_ne _ _ (by omega), zput_ne _ _ (by omega), zput_ne _ _ (by omega)]⟩⟩
            cases q2 : isW xs a.2 1896526
            · rw [q2, zb_f] at w2
              rw [if_neg (by simp)]
              show zQ vX6_parseRoom rX6_parseRoom (R (pb (pSemi xs a.2) _)) _
              obtain ⟨g4, e4, p4, hh⟩ := r_semi C3 h0
              rcases hh with ⟨y, hy, C4⟩ | ⟨e, hy, E⟩
              · rw [hy]
                obtain ⟨g, hg, hRg⟩ := fin 0 y (by omega) g4 (P3.tr p4) C4
                have y0 := C4.1.1
                have y3 := C4.1.2.1
                have yq := C4.1.2.2.1
                have l0 : zI g4 127 0 = nI (N 0) := C4.2.1 0 (by omega)
                simp only [z1, r_errsIf0 C1, e2, z2, hf, z3, w2, e4, y0, fine_t C4.1 C4.2.2.2.2.1, i10, r_rooms C4.1 C4.2.1, y3, yq, K_sI, K_sJ, K_sD, K_sP, K_rI, K_rJ, P_sI, P_sJ, P_sD, P_rI, P_rJ, N_sI, N_sJ, N_sD, N_sP, N_rI, N_rJ, J_sI, J_sD, J_sP, J_rI, I_sJ, I_sD, I_sP, I_rJ, D_sI, D_sJ, D_sP, D_rI, D_rJ, c_0, p_0, show ¬ 149 ≤ 0 by omega, l0, nI_1, ix16_0, ix16_1, ix16_2, nI_clamp (show 16 + 3 * N 0 < 2 ^ 31 by omega), nI_lt0 (show 16 + 3 * N 0 < 2 ^ 31 by omega), show ¬ 149 ≤ 16 + 3 * N 0 by omega, nI_clamp (show 17 + 3 * N 0 < 2 ^ 31 by omega), nI_lt0 (show 17 + 3 * N 0 < 2 ^ 31 by omega), show ¬ 149 ≤ 17 + 3 * N 0 by omega, nI_clamp (show 18 + 3 * N 0 < 2 ^ 31 by omega), nI_lt0 (show 18 + 3 * N 0 < 2 ^ 31 by omega), show ¬ 149 ≤ 18 + 3 * N 0 by omega, zmp_s, zlt_s, zcV_s, zcI_s, zcJ_s, zcA_s, zcD_s, zcF_s, zth_n, zth_t, zrt_s, zQ_l, zQ_r, false_or, or_false, true_or, or_true, false_and, and_false, not_false_eq_true, not_true_eq_false, and_self, true_and, and_true, if_true, if_false, ite_true, ite_false, zgd_t]
                rw [nI_0] at hg
                rw [← hg]
                exact hRg
              · rw [hy]
                have y0 := E.1.1
                simp only [z1, r_errsIf0 C1, e2, z2, hf, z3, w2, e4, y0, fine_f E.1 E.2.2.2.1, zmp_s, zlt_s, zcV_s, zcI_s, zcJ_s, zcA_s, zcD_s, zcF_s, zth_n, zth_t, zrt_s, zQ_l, zQ_r, false_or, or_false, true_or, or_true, false_and, and_false, not_false_eq_true, not_true_eq_false, and_self, true_and, and_true, if_true, if_false, ite_true, ite_false, zgd_t]
                rw [hR]
                exact ⟨g4, rfl, P3.tr p4, Or.inl ⟨_, rfl, E⟩⟩
            · rw [q2, zb_t] at w2
              rw [if_pos rfl]
              obtain ⟨g4, e4, p4, C4⟩ := r_goOn C3
              have P4 := P3.tr p4
              have z4 := C4.1.1
              obtain ⟨g5, p5, ⟨v, hu5, hf5, hv, C5⟩ | ⟨er, hu5, hf5, E⟩⟩ := r_number (g := 99) (x := 99) C4 h0 rfl (by omega)
              · rw [hu5]
                have P5 := P4.tr p5
                have z5 := C5.1.1
                show zQ vX6_parseRoom rX6_parseRoom (R (pb (pSemi xs (nxt xs (nxt xs a.2))) _)) _
                obtain ⟨g6, e6, p6, hh⟩ := r_semi C5 h0
                rcases hh with ⟨y, hy, C6⟩ | ⟨e, hy, E⟩
                · rw [hy]
                  obtain ⟨g, hg, hRg⟩ := fin v y hv g6 (P5.tr p6) C6
                  have y0 := C6.1.1
                  have y3 := C6.1.2.1
                  have yq := C6.1.2.2.1
                  have l0 : zI g6 127 0 = nI (N 0) := C6.2.1 0 (by omega)
                  simp only [z1, r_errsIf0 C1, e2, z2, hf, z3, w2, i10, e4, z4, hf5, z5, e6, y0, fine_t C6.1 C6.2.2.2.2.1, r_rooms C6.1 C6.2.1, y3, yq, K_sI, K_sJ, K_sD, K_sP, K_rI, K_rJ, P_sI, P_sJ, P_sD, P_rI, P_rJ, N_sI, N_sJ, N_sD, N_sP, N_rI, N_rJ, J_sI, J_sD, J_sP, J_rI, I_sJ, I_sD, I_sP, I_rJ, D_sI, D_sJ, D_sP, D_rI, D_rJ, c_0, p_0, show ¬ 149 ≤ 0 by omega, l0, nI_1, ix16_0, ix16_1, ix16_2, nI_clamp (show 16 + 3 * N 0 < 2 ^ 31 by omega), nI_lt0 (show 16 + 3 * N 0 < 2 ^ 31 by omega), show ¬ 149 ≤ 16 + 3 * N 0 by omega, nI_clamp (show 17 + 3 * N 0 < 2 ^ 31 by omega), nI_lt0 (show 17 + 3 * N 0 < 2 ^ 31 by omega), show ¬ 149 ≤ 17 + 3 * N 0 by omega, nI_clamp (show 18 + 3 * N 0 < 2 ^ 31 by omega), nI_lt0 (show 18 + 3 * N 0 < 2 ^ 31 by omega), show ¬ 149 ≤ 18 + 3 * N 0 by omega, zmp_s, zlt_s, zcV_s, zcI_s, zcJ_s, zcA_s, zcD_s, zcF_s, zth_n, zth_t, zrt_s, zQ_l, zQ_r, false_or, or_false, true_or, or_true, false_and, and_false, not_false_eq_true, not_true_eq_false, and_self, true_and, and_true, if_true, if_false, ite_true, ite_false, zgd_t]
                  rw [← hg]
                  exact hRg
                · rw [hy]
                  have y0 := E.1.1
                  simp only [z1, r_errsIf0 C1, e2, z2, hf, z3, w2, i10, e4, z4, hf5, z5, e6, y0, fine_f E.1 E.2.2.2.1, zmp_s, zlt_s, zcV_s, zcI_s, zcJ_s, zcA_s, zcD_s, zcF_s, zth_n, zth_t, zrt_s, zQ_l, zQ_r, false_or, or_false, true_or, or_true, false_and, and_false, not_false_eq_true, not_true_eq_false, and_self, true_and, and_true, if_true, if_false, ite_true, ite_false, zgd_t]
                  rw [hR]
                  exact ⟨g6, rfl, P5.tr p6, Or.inl ⟨_, rfl, E⟩⟩
              · rw [hu5]
                have y0 := E.1.1
                simp only [z1, r_errsIf0 C1, e2, z2, hf, z3, w2, i10, e4, z4, hf5, y0, x_semi E, fine_f E.1 E.2.2.2.1, zmp_s, zlt_s, zcV_s, zcI_s, zcJ_s, zcA_s, zcD_s, zcF_s, zth_n, zth_t, zrt_s, zQ_l, zQ_r, false_or, or_false, true_or, or_true, false_and, and_false, not_false_eq_true, not_true_eq_false, and_self, true_and, and_true, if_true, if_false, ite_true, ite_false, zgd_t]
                rw [hR]
                exact ⟨g5, rfl, P4.tr p5, Or.inl ⟨_, rfl, E⟩⟩
      · rw [if_neg (by rw [q]; simp)]
        have z2 := E.1.1
        simp only [t0, r_errsIf0 C, e1, z1, nm, z2, x_named E, zmp_s, zlt_s, zcV_s, zcI_s, zcJ_s, zcA_s, zcD_s, zcF_s, zth_n, zth_t, zrt_s, zQ_l, zQ_r, false_or, or_false, true_or, or_true, false_and, and_false, not_false_eq_true, not_true_eq_false, and_self, true_and, and_true, if_true, if_false, ite_true, ite_false, zgd_t]
        exact bad24 g2 _ _ _ (p1.tr p2) E
  rw [hR] at hsim
  obtain ⟨o, h1, g, rfl, p, hh⟩ := hsim
  exact ⟨g, h1, p, hh⟩
end
end ZQE
