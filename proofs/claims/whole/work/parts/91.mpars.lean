/-! THE MODEL: what its parser asks for. -/
section ZQC
/-- the parser's changes -/
def PF (h g : zm_H) : Prop := zFr (fun c => c = 125 ∨ c = 127) h g ∧ ∀ j, (j < 13 ∨ 20 < j) → zI g 125 j = zI h 125 j
theorem PF.rf {h : zm_H} : PF h h := ⟨zFr.rf, fun _ _ => rfl⟩
theorem PF.tr {h g k : zm_H} (a : PF h g) (b : PF g k) : PF h k := ⟨a.1.tr b.1, fun j hj => (b.2 j hj).trans (a.2 j hj)⟩
theorem PF.s {h : zm_H} {j : Nat} {x : Int32} (hj : 13 ≤ j ∧ j ≤ 20) : PF h (zsI h 125 j x) := ⟨zFr.sI (Or.inl rfl), fun i hi => by rw [I_sIs, zput_ne _ _ (by omega)]⟩
theorem PF.r {h : zm_H} {j : Nat} {x : Int32} : PF h (zsI h 127 j x) := ⟨zFr.sI (Or.inr rfl), fun i _ => by rw [I_sIn (by omega)]⟩
theorem SC.pf {h g : zm_H} (a : SC h g) : PF h g := ⟨a.1.mono (fun c hc => Or.inl hc), fun j hj => a.2 j (by omega)⟩
theorem MX_pf {h g : zm_H} {xs : List Int32} (a : PF h g) (X : MX h xs) : MX g xs := ⟨by rw [a.2 12 (by omega)]; exact X.1, X.2.1, fun i hi => by rw [a.1.I (by omega)]; exact X.2.2.1 i hi, X.2.2.2⟩
/-- it reads, at s -/
def CM (h : zm_H) (xs : List Int32) (N : zLv) (fl fe : Bool) (s : Nat) : Prop := moS h 127 ∧ ML h 127 N ∧ MX h xs ∧ MT h xs s ∧ zI h 125 17 = 0 ∧ zI h 125 19 = zb fl ∧ zI h 125 20 = zb fe ∧ zI h 125 18 = -1
/-- it has found an error -/
def EE (h : zm_H) (e : Nat × Nat) : Prop := moS h 127 ∧ zI h 125 17 = nI e.1 ∧ zI h 125 18 = nI e.2 ∧ zI h 125 17 ≠ 0 ∧ ∃ n, n ≤ 11 ∧ zI h 127 0 = nI n
section
variable {h : zm_H} {xs : List Int32} {N : zLv} {fl fe : Bool} {s : Nat} {e : Nat × Nat}
-- behind an error nothing happens
theorem x_goOn (E : EE h e) : sX6_goOn [.ref 125] h = some (.inl none, h) := by
  have t0 := E.1.1
  refine zsem_eq (Nat.le_of_ble_eq_true rfl) (zTo_of gX6_goOn_0 ?_)
  simp only [t0, fine_f E.1 E.2.2.2.1, zmp_s, zlt_s, zcV_s, zcI_s, zcJ_s, zcA_s, zcD_s, zcF_s, zth_n, zth_t, zrt_s, zQ_l, zQ_r, false_or, or_false, true_or, or_true, false_and, and_false, not_false_eq_true, not_true_eq_false, and_self, true_and, and_true, if_true, if_false, ite_true, ite_false, zgd_t]
theorem x_errs (E : EE h e) (c : Int32) : sX6_errs [.ref 125, .int c] h = some (.inl none, h) := by
  have t0 := E.1.1
  refine zsem_eq (Nat.le_of_ble_eq_true rfl) (zTo_of gX6_errs_0 ?_)
  simp only [t0, fine_f E.1 E.2.2.2.1, zmp_s, zlt_s, zcV_s, zcI_s, zcJ_s, zcA_s, zcD_s, zcF_s, zth_n, zth_t, zrt_s, zQ_l, zQ_r, false_or, or_false, true_or, or_true, false_and, and_false, not_false_eq_true, not_true_eq_false, and_self, true_and, and_true, if_true, if_false, ite_true, ite_false, zgd_t]
theorem x_errsIf (E : EE h e) (b c : Int32) : sX6_errsIf [.ref 125, .int b, .int c] h = some (.inl none, h) := by
  have t0 := E.1.1
  refine zsem_eq (Nat.le_of_ble_eq_true rfl) (zTo_of gX6_errsIf_0 ?_)
  simp only [t0, fine_f E.1 E.2.2.2.1, zmp_s, zlt_s, zcV_s, zcI_s, zcJ_s, zcA_s, zcD_s, zcF_s, zth_n, zth_t, zrt_s, zQ_l, zQ_r, false_or, or_false, true_or, or_true, false_and, and_false, not_false_eq_true, not_true_eq_false, and_self, true_and, and_true, if_true, if_false, ite_true, ite_false, zgd_t]
theorem x_word {k : Nat} (E : EE h e) (hk : k < 8) : sX6_isWord [.ref 125, .ref (1000000 + k)] h = some (.inl (some (.int 0)), h) := r_isWordX E.1 hk E.2.2.2.1
theorem x_name (E : EE h e) : sX6_nameHere [.ref 125] h = some (.inl (some (.int 0)), h) := by
  have t0 := E.1.1
  refine zsem_eq (Nat.le_of_ble_eq_true rfl) (zTo_of gX6_nameHere_0 ?_)
  simp only [t0, fine_f E.1 E.2.2.2.1, x_errsIf E, zmp_s, zlt_s, zcV_s, zcI_s, zcJ_s, zcA_s, zcD_s, zcF_s, zth_n, zth_t, zrt_s, zQ_l, zQ_r, false_or, or_false, true_or, or_true, false_and, and_false, not_false_eq_true, not_true_eq_false, and_self, true_and, and_true, if_true, if_false, ite_true, ite_false, zgd_t]
theorem x_named (E : EE h e) : sX6_roomNamed [.ref 125, .int 0] h = some (.inl (some (.int (-1))), h) := by
  have t0 := E.1.1
  have t3 := E.1.2.1
  have tq := E.1.2.2.1
  obtain ⟨n, hn, e0⟩ := E.2.2.2.2
  have rr : sX6_rooms [.ref 125] h = some (.inl (some (.int (nI n))), h) := by
    refine zsem_eq (Nat.le_of_ble_eq_true rfl) (zTo_of gX6_rooms_0 ?_)
    simp only [t0, t3, tq, c_0, p_0, e0, show ¬ 149 ≤ 0 by omega, zmp_s, zlt_s, zcV_s, zcI_s, zcJ_s, zcA_s, zcD_s, zcF_s, zth_n, zth_t, zrt_s, zQ_l, zQ_r, false_or, or_false, true_or, or_true, false_and, and_false, not_false_eq_true, not_true_eq_false, and_self, true_and, and_true, if_true, if_false, ite_true, ite_false, zgd_t]
  refine zsem_eq (Nat.le_of_ble_eq_true rfl) (zTo_of gX6_roomNamed_0 ?_)
  have key : ∀ d k, k + d = n → zTo vX6_roomNamed rX6_roomNamed (2, [some (.ref 125), some (.int 0), some (.int (nI k))], [], h) (fun y => y = (.inl (some (.int (-1))), h)) := by
    intro d
    induction d with
    | zero =>
      intro k hk
      have hk : k = n := by omega
      subst hk
      refine zTo_of gX6_roomNamed_2 ?_
      simp only [t0, rr, nI_le (Nat.le_refl _) (show k < 2 ^ 31 by omega), zmp_s, zlt_s, zcV_s, zcI_s, zcJ_s, zcA_s, zcD_s, zcF_s, zth_n, zth_t, zrt_s, zQ_l, zQ_r, false_or, or_false, true_or, or_true, false_and, and_false, not_false_eq_true, not_true_eq_false, and_self, true_and, and_true, if_true, if_false, ite_true, ite_false, zgd_t]
    | succ d ih =>
      intro k hk
      have f1 : (nI n ≤ nI k) = False := eq_false (nI_ge (by omega) (by omega))
      have z0 : ((0 : Int32) ≤ 0) = True := eq_true (by decide)
      refine zTo_of gX6_roomNamed_2 ?_
      simp only [t0, rr, f1, z0, nI_1, zmp_s, zlt_s, zcV_s, zcI_s, zcJ_s, zcA_s, zcD_s, zcF_s, zth_n, zth_t, zrt_s, zQ_l, zQ_r, false_or, or_false, true_or, or_true, false_and, and_false, not_false_eq_true, not_true_eq_false, and_self, true_and, and_true, if_true, if_false, ite_true, ite_false, zgd_t]
      exact ih (k + 1) (by omega)
  exact key n 0 (by omega)
theorem x_room (E : EE h e) : sX6_roomHere [.ref 125] h = some (.inl (some (.int 0)), h) := by
  have t0 := E.1.1
  refine zsem_eq (Nat.le_of_ble_eq_true rfl) (zTo_of gX6_roomHere_0 ?_)
  simp only [t0, x_name E, x_named E, x_errsIf E, show ((0 : Int32) < -1) = False from by decide, zmp_s, zlt_s, zcV_s, zcI_s, zcJ_s, zcA_s, zcD_s, zcF_s, zth_n, zth_t, zrt_s, zQ_l, zQ_r, false_or, or_false, true_or, or_true, false_and, and_false, not_false_eq_true, not_true_eq_false, and_self, true_and, and_true, if_true, if_false, ite_true, ite_false, zgd_t]
theorem x_numHere (E : EE h e) (x : Int32) : sX6_numberHere [.ref 125, .int 0, .int x] h = some (.inl (some (.int 0)), h) := by
  have t0 := E.1.1
  refine zsem_eq (Nat.le_of_ble_eq_true rfl) (zTo_of gX6_numberHere_0 ?_)
  simp only [t0, fine_f E.1 E.2.2.2.1, zmp_s, zlt_s, zcV_s, zcI_s, zcJ_s, zcA_s, zcD_s, zcF_s, zth_n, zth_t, zrt_s, zQ_l, zQ_r, false_or, or_false, true_or, or_true, false_and, and_false, not_false_eq_true, not_true_eq_false, and_self, true_and, and_true, if_true, if_false, ite_true, ite_false, zgd_t]
theorem x_number (E : EE h e) (x : Int32) : sX6_number [.ref 125, .int 0, .int x] h = some (.inl (some (.int 0)), h) := by
  have t0 := E.1.1
  refine zsem_eq (Nat.le_of_ble_eq_true rfl) (zTo_of gX6_number_0 ?_)
  simp only [t0, x_numHere E, x_goOn E, zmp_s, zlt_s, zcV_s, zcI_s, zcJ_s, zcA_s, zcD_s, zcF_s, zth_n, zth_t, zrt_s, zQ_l, zQ_r, false_or, or_false, true_or, or_true, false_and, and_false, not_false_eq_true, not_true_eq_false, and_self, true_and, and_true, if_true, if_false, ite_true, ite_false, zgd_t]
theorem x_semi (E : EE h e) : sX6_semicolon [.ref 125] h = some (.inl none, h) := by
  have t0 := E.1.1
  refine zsem_eq (Nat.le_of_ble_eq_true rfl) (zTo_of gX6_semicolon_0 ?_)
  simp only [t0, fine_f E.1 E.2.2.2.1, x_errs E, x_goOn E, zmp_s, zlt_s, zcV_s, zcI_s, zcJ_s, zcA_s, zcD_s, zcF_s, zth_n, zth_t, zrt_s, zQ_l, zQ_r, false_or, or_false, true_or, or_true, false_and, and_false, not_false_eq_true, not_true_eq_false, and_self, true_and, and_true, if_true, if_false, ite_true, ite_false, zgd_t]
theorem x_comma (E : EE h e) : sX6_isComma [.ref 125] h = some (.inl (some (.int 0)), h) := by
  have t0 := E.1.1
  refine zsem_eq (Nat.le_of_ble_eq_true rfl) (zTo_of gX6_isComma_0 ?_)
  simp only [t0, fine_f E.1 E.2.2.2.1, zmp_s, zlt_s, zcV_s, zcI_s, zcJ_s, zcA_s, zcD_s, zcF_s, zth_n, zth_t, zrt_s, zQ_l, zQ_r, false_or, or_false, true_or, or_true, false_and, and_false, not_false_eq_true, not_true_eq_false, and_self, true_and, and_true, if_true, if_false, ite_true, ite_false, zgd_t]
theorem x_keys (E : EE h e) : sX6_parseKeys [.ref 125] h = some (.inl (some (.int 0)), h) := by
  have t0 := E.1.1
  have w1 := x_word (k := 1) E (by omega)
  refine zsem_eq (Nat.le_of_ble_eq_true rfl) (zTo_of gX6_parseKeys_0 ?_)
  simp only [t0, w1, zmp_s, zlt_s, zcV_s, zcI_s, zcJ_s, zcA_s, zcD_s, zcF_s, zth_n, zth_t, zrt_s, zQ_l, zQ_r, false_or, or_false, true_or, or_true, false_and, and_false, not_false_eq_true, not_true_eq_false, and_self, true_and, and_true, if_true, if_false, ite_true, ite_false, zgd_t]
  refine zTo_of gX6_parseKeys_6 ?_
  simp only [zmp_s, zlt_s, zcV_s, zcI_s, zcJ_s, zcA_s, zcD_s, zcF_s, zth_n, zth_t, zrt_s, zQ_l, zQ_r, false_or, or_false, true_or, or_true, false_and, and_false, not_false_eq_true, not_true_eq_false, and_self, true_and, and_true, if_true, if_false, ite_true, ite_false]
-- no error yet
theorem CM.sc {g : zm_H} (C : CM h xs N fl fe s) (a : SC h g) {u : Nat} (T : MT g xs u) : CM g xs N fl fe u :=
  ⟨moS_fr a.1 C.1, ML_fr a.1 (by omega) C.2.1, MX_sc a C.2.2.1, T, by rw [a.2 17 (by omega)]; exact C.2.2.2.2.1, by rw [a.2 19 (by omega)]; exact C.2.2.2.2.2.1, by rw [a.2 20 (by omega)]; exact C.2.2.2.2.2.2.1, by rw [a.2 18 (by omega)]; exact C.2.2.2.2.2.2.2⟩
theorem r_goOn (C : CM h xs N fl fe s) : ∃ g, sX6_goOn [.ref 125] h = some (.inl none, g) ∧ PF h g ∧ CM g xs N fl fe (nxt xs s) := by
  obtain ⟨m0, mL, X, T, f17, f19, f20⟩ := C
  have t0 := m0.1
  obtain ⟨g, e1, sc, T2⟩ := r_scan m0 X (e := tkE xs s) (tkE_hi T.2.2.2.2.2.2) T.1
  refine ⟨g, ?_, sc.pf, CM.sc ⟨m0, mL, X, T, f17, f19, f20⟩ sc T2⟩
  refine zsem_eq (Nat.le_of_ble_eq_true rfl) (zTo_of gX6_goOn_0 ?_)
  simp only [t0, fine_t m0 f17, i10, e1, zmp_s, zlt_s, zcV_s, zcI_s, zcJ_s, zcA_s, zcD_s, zcF_s, zth_n, zth_t, zrt_s, zQ_l, zQ_r, false_or, or_false, true_or, or_true, false_and, and_false, not_false_eq_true, not_true_eq_false, and_self, true_and, and_true, if_true, if_false, ite_true, ite_false, zgd_t]
theorem EE_of (C : CM h xs N fl fe s) (h0 : N 0 ≤ 11) {c : Nat} (hc : 1 ≤ c ∧ c ≤ 5) : PF h (zsI (zsI h 125 17 (nI c)) 125 18 (nI s)) ∧ EE (zsI (zsI h 125 17 (nI c)) 125 18 (nI s)) (c, s) := by
  obtain ⟨m0, mL, X, T, f17, f19, f20⟩ := C
  have a : PF h (zsI (zsI h 125 17 (nI c)) 125 18 (nI s)) := (PF.s (by omega)).tr (PF.s (by omega))
  have e17 : zI (zsI (zsI h 125 17 (nI c)) 125 18 (nI s)) 125 17 = nI c := by rw [I_sIs, zput_ne _ _ (by omega), I_sIs, zput_self]
  refine ⟨a, moS_fr a.1 m0, e17, by rw [I_sIs, zput_self], ?_, N 0, h0, ?_⟩
  · rw [e17]
    intro x
    have := (nI_eq (b := 0) (by omega) (by omega)).mp x
    omega
  · rw [I_sIn (by omega), I_sIn (by omega)]
    exact mL 0 (by omega)
theorem r_errs (C : CM h xs N fl fe s) (h0 : N 0 ≤ 11) {c : Nat} {x : Int32} (hx : x = nI c) (hc : 1 ≤ c ∧ c ≤ 5) : ∃ g, sX6_errs [.ref 125, .int x] h = some (.inl none, g) ∧ PF h g ∧ EE g (c, s) := by
  subst hx
  obtain ⟨p, q⟩ := EE_of C h0 hc
  refine ⟨_, ?_, p, q⟩
  obtain ⟨m0, mL, X, T, f17, f19, f20⟩ := C
  have t0 := m0.1
  have t14 := T.2.1
  refine zsem_eq (Nat.le_of_ble_eq_true rfl) (zTo_of gX6_errs_0 ?_)
  simp only [t0, fine_t m0 f17, i10, K_sI, K_sJ, K_sD, K_sP, K_rI, K_rJ, P_sI, P_sJ, P_sD, P_rI, P_rJ, N_sI, N_sJ, N_sD, N_sP, N_rI, N_rJ, J_sI, J_sD, J_sP, J_rI, I_sJ, I_sD, I_sP, I_rJ, D_sI, D_sJ, D_sP, D_rI, D_rJ, I_sIs, zput_ne _ _ (show (14 : Nat) ≠ 17 by omega), t14, zmp_s, zlt_s, zcV_s, zcI_s, zcJ_s, zcA_s, zcD_s, zcF_s, zth_n, zth_t, zrt_s, zQ_l, zQ_r, false_or, or_false, true_or, or_true, false_and, and_false, not_false_eq_true, not_true_eq_false, and_self, true_and, and_true, if_true, if_false, ite_true, ite_false, zgd_t]
theorem r_errsIf0 (C : CM h xs N fl fe s) (c : Int32) : sX6_errsIf [.ref 125, .int 0, .int c] h = some (.inl none, h) := by
  have t0 := C.1.1
  refine zsem_eq (Nat.le_of_ble_eq_true rfl) (zTo_of gX6_errsIf_0 ?_)
  simp only [t0, fine_t C.1 C.2.2.2.2.1, i10, zmp_s, zlt_s, zcV_s, zcI_s, zcJ_s, zcA_s, zcD_s, zcF_s, zth_n, zth_t, zrt_s, zQ_l, zQ_r, false_or, or_false, true_or, or_true, false_and, and_false, not_false_eq_true, not_true_eq_false, and_self, true_and, and_true, if_true, if_false, ite_true, ite_false, zgd_t]
theorem r_errsIf1 (C : CM h xs N fl fe s) (h0 : N 0 ≤ 11) {c : Nat} {x : Int32} (hx : x = nI c) (hc : 1 ≤ c ∧ c ≤ 5) : ∃ g, sX6_errsIf [.ref 125, .int 1, .int x] h = some (.inl none, g) ∧ PF h g ∧ EE g (c, s) := by
  obtain ⟨g, e1, p, q⟩ := r_errs C h0 hx hc
  have t0 := C.1.1
  refine ⟨g, ?_, p, q⟩
  refine zsem_eq (Nat.le_of_ble_eq_true rfl) (zTo_of gX6_errsIf_0 ?_)
  simp only [t0, fine_t C.1 C.2.2.2.2.1, i10, e1, zmp_s, zlt_s, zcV_s, zcI_s, zcJ_s, zcA_s, zcD_s, zcF_s, zth_n, zth_t, zrt_s, zQ_l, zQ_r, false_or, or_false, true_or, or_true, false_and, and_false, not_false_eq_true, not_true_eq_false, and_self, true_and, and_true, if_true, if_false, ite_true, ite_false, zgd_t]
theorem r_word (C : CM h xs N fl fe s) {k K : Nat} (hk : k < 8) (hK : kcd k = K) : sX6_isWord [.ref 125, .ref (1000000 + k)] h = some (.inl (some (.int (zb (isW xs s K)))), h) := by
  rw [← hK]; exact r_isWord C.1 C.2.2.1 C.2.2.2.1 C.2.2.2.2.1 hk
theorem r_keyword (C : CM h xs N fl fe s) (t1 : ty xs s = 1) (t6 : tkL xs s ≤ 6) : sX6_isKeyword [.ref 125] h = some (.inl (some (.int (zb (kwd (wcd xs s))))), h) := by
  have t0 := C.1.1
  obtain ⟨k0, k1, k2, k3, k4, k5, k6, k7⟩ := kcd_all
  have iw : ∀ K, isW xs s K = decide (wcd xs s = K) := fun K => by unfold isW; rw [decide_eq_true t1, decide_eq_true t6, Bool.true_and, Bool.true_and]
  have w0 := r_word C (by omega) k0
  have w1 := r_word C (by omega) k1
  have w2 := r_word C (by omega) k2
  have w3 := r_word C (by omega) k3
  have w4 := r_word C (by omega) k4
  have w5 := r_word C (by omega) k5
  have w6 := r_word C (by omega) k6
  have w7 := r_word C (by omega) k7
  rw [iw] at w0 w1 w2 w3 w4 w5 w6 w7
  unfold kwd
  refine zsem_eq (Nat.le_of_ble_eq_true rfl) (zTo_of gX6_isKeyword_0 ?_)
  generalize decide (wcd xs s = 365647) = b0 at *
  generalize decide (wcd xs s = 8179) = b1 at *
  generalize decide (wcd xs s = 1896526) = b2 at *
  generalize decide (wcd xs s = 90090) = b3 at *
  generalize decide (wcd xs s = 404931) = b4 at *
  generalize decide (wcd xs s = 222789013) = b5 at *
  generalize decide (wcd xs s = 10492274) = b6 at *
  generalize decide (wcd xs s = 4027) = b7 at *
  simp only [t0, w0, w1, w2, w3, w4, w5, w6, w7, i10, zmp_s, zlt_s, zcV_s, zcI_s, zcJ_s, zcA_s, zcD_s, zcF_s, zth_n, zth_t, zrt_s, zQ_l, zQ_r, false_or, or_false, true_or, or_true, false_and, and_false, not_false_eq_true, not_true_eq_false, and_self, true_and, and_true, if_true, if_false, ite_true, ite_false, zgd_t]
  cases b0 <;> cases b1 <;> cases b2 <;> cases b3 <;> cases b4 <;> cases b5 <;> cases b6 <;> cases b7 <;> rfl
end
end ZQC
