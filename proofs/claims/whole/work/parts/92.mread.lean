/-! THE MODEL: rooms, numbers, signs read. -/
section ZQD
section
variable {h : zm_H} {xs : List Int32} {N : zLv} {fl fe : Bool} {s : Nat} {e : Nat × Nat}
theorem CM.hb (C : CM h xs N fl fe s) : BY xs := C.2.2.1.2.2.2
theorem r_nameHere (C : CM h xs N fl fe s) (h0 : N 0 ≤ 11) : (isN xs s = true ∧ sX6_nameHere [.ref 125] h = some (.inl (some (.int (nI (wcd xs s)))), h) ∧ wcd xs s < 27 ^ 6 ∧ 0 < wcd xs s) ∨ (isN xs s = false ∧ ∃ g, sX6_nameHere [.ref 125] h = some (.inl (some (.int 0)), g) ∧ PF h g ∧ EE g (1, s)) := by
  have m0 := C.1
  have t0 := m0.1
  have t10 := m0.2.2.2.2.2.2.2.2.2.2.2.1
  have n14 := m0.2.2.2.2.2.2.2.2.2.2.2.2.2.2.2.2.2.2.2.2.2.2.2.2.1
  have hb := C.hb
  obtain ⟨b13, b14, b15, b16, b17, hn4, hs⟩ := C.2.2.2.1
  have xl := C.2.2.1.2.1
  have tE := tkE_hi hs
  have tE1 := (tkE_le xs s).1
  have tl := ty_le xs s
  have ft := fine_t m0 C.2.2.2.2.1
  have e1 : (nI (ty xs s) = 1) = (ty xs s = 1) := propext (nI_eq (b := 1) (by omega) (by omega))
  have dl : nI (tkE xs s) - nI s = nI (tkL xs s) := by
    have := pk_sub (a := tkE xs s) (b := s) (by omega)
    rw [this]; rfl
  have tl2 : tkL xs s ≤ 500 := by unfold tkL; omega
  have l6 : ((6 : Int32) < nI (tkL xs s)) = (6 < tkL xs s) := propext (nI_ltI (a := 6) (by omega) (by omega))
  obtain ⟨g, er, p, E⟩ := r_errsIf1 (c := 1) (x := 1) C h0 rfl (by omega)
  have z0 := E.1.1
  have ff := fine_f E.1 E.2.2.2.1
  by_cases t1 : ty xs s = 1
  · by_cases t6 : tkL xs s ≤ 6
    · have kw := r_keyword C t1 t6
      have iN : isN xs s = !kwd (wcd xs s) := by unfold isN; rw [decide_eq_true t1, decide_eq_true t6, Bool.true_and, Bool.true_and]
      have n6 : ¬ 6 < tkL xs s := by omega
      cases q : kwd (wcd xs s)
      · left
        rw [q] at kw iN
        obtain ⟨c1, c2⟩ := wcd_lt hb t1 t6
        have no := r_nameOf (a := s) (n := tkL xs s) n14 C.2.2.1.2.2.1 xl (by unfold tkL; omega) t6 (LT_tk hb t1)
        have sE : s + tkL xs s = tkE xs s := by unfold tkL; omega
        rw [sE] at no
        refine ⟨by rw [iN]; rfl, ?_, c1, c2⟩
        refine zsem_eq (Nat.le_of_ble_eq_true rfl) (zTo_of gX6_nameHere_0 ?_)
        simp only [t0, ft, i10, b13, b14, b15, e1, eq_true t1, dl, l6, eq_false n6, kw, zb_f, r_errsIf0 C, t10, no, zmp_s, zlt_s, zcV_s, zcI_s, zcJ_s, zcA_s, zcD_s, zcF_s, zth_n, zth_t, zrt_s, zQ_l, zQ_r, false_or, or_false, true_or, or_true, false_and, and_false, not_false_eq_true, not_true_eq_false, and_self, true_and, and_true, if_true, if_false, ite_true, ite_false, zgd_t]
        rfl
      · right
        rw [q] at kw iN
        refine ⟨by rw [iN]; rfl, g, ?_, p, E⟩
        refine zsem_eq (Nat.le_of_ble_eq_true rfl) (zTo_of gX6_nameHere_0 ?_)
        simp only [t0, ft, i10, b13, b14, b15, e1, eq_true t1, dl, l6, eq_false n6, kw, zb_t, er, z0, ff, zmp_s, zlt_s, zcV_s, zcI_s, zcJ_s, zcA_s, zcD_s, zcF_s, zth_n, zth_t, zrt_s, zQ_l, zQ_r, false_or, or_false, true_or, or_true, false_and, and_false, not_false_eq_true, not_true_eq_false, and_self, true_and, and_true, if_true, if_false, ite_true, ite_false, zgd_t]
    · right
      refine ⟨by unfold isN; rw [decide_eq_true t1, decide_eq_false t6]; rfl, g, ?_, p, E⟩
      have n6 : 6 < tkL xs s := by omega
      refine zsem_eq (Nat.le_of_ble_eq_true rfl) (zTo_of gX6_nameHere_0 ?_)
      simp only [t0, ft, i10, b13, b14, b15, e1, eq_true t1, dl, l6, eq_true n6, er, z0, ff, zmp_s, zlt_s, zcV_s, zcI_s, zcJ_s, zcA_s, zcD_s, zcF_s, zth_n, zth_t, zrt_s, zQ_l, zQ_r, false_or, or_false, true_or, or_true, false_and, and_false, not_false_eq_true, not_true_eq_false, and_self, true_and, and_true, if_true, if_false, ite_true, ite_false, zgd_t]
  · right
    refine ⟨by unfold isN; rw [decide_eq_false t1]; rfl, g, ?_, p, E⟩
    refine zsem_eq (Nat.le_of_ble_eq_true rfl) (zTo_of gX6_nameHere_0 ?_)
    simp only [t0, ft, i10, b13, b14, b15, e1, eq_false t1, er, z0, ff, zmp_s, zlt_s, zcV_s, zcI_s, zcJ_s, zcA_s, zcD_s, zcF_s, zth_n, zth_t, zrt_s, zQ_l, zQ_r, false_or, or_false, true_or, or_true, false_and, and_false, not_false_eq_true, not_true_eq_false, and_self, true_and, and_true, if_true, if_false, ite_true, ite_false, zgd_t]
theorem r_roomHere (C : CM h xs N fl fe s) (hI : PI N) : (∃ r, pTold xs N s = .inr r ∧ sX6_roomHere [.ref 125] h = some (.inl (some (.int (nI r))), h) ∧ r < N 0) ∨ (∃ e g, pTold xs N s = .inl e ∧ sX6_roomHere [.ref 125] h = some (.inl (some (.int 0)), g) ∧ PF h g ∧ EE g e) := by
  have t0 := C.1.1
  have h0 := hI.1
  unfold pTold
  rcases r_nameHere C h0 with ⟨q, nm, c1, c2⟩ | ⟨q, g, nm, p, E⟩
  · rw [if_pos q]
    have rn := r_roomNamed (c := wcd xs s) C.1 C.2.1 h0 hI.2.2.2.2.2.2.2 c1
    cases w : nRn N (wcd xs s) with
    | some r =>
      rw [w] at rn
      have rn : sX6_roomNamed [.ref 125, .int (nI (wcd xs s))] h = some (.inl (some (.int (nI r))), h) := rn
      have rl := nRn_lt w
      left
      refine ⟨r, rfl, ?_, rl⟩
      have mx : (if (0 : Int32) < nI r then nI r else 0) = nI r := by
        by_cases r0 : r = 0
        · subst r0; rfl
        · have lt : (0 : Int32) < nI r := (nI_ltI (a := 0) (b := r) (by omega) (by omega)).mpr (by omega)
          exact if_pos lt
      refine zsem_eq (Nat.le_of_ble_eq_true rfl) (zTo_of gX6_roomHere_0 ?_)
      simp only [t0, nm, rn, nI_m1f (show r < 2 ^ 31 by omega), r_errsIf0 C, mx, zmp_s, zlt_s, zcV_s, zcI_s, zcJ_s, zcA_s, zcD_s, zcF_s, zth_n, zth_t, zrt_s, zQ_l, zQ_r, false_or, or_false, true_or, or_true, false_and, and_false, not_false_eq_true, not_true_eq_false, and_self, true_and, and_true, if_true, if_false, ite_true, ite_false, zgd_t]
    | none =>
      rw [w] at rn
      have rn : sX6_roomNamed [.ref 125, .int (nI (wcd xs s))] h = some (.inl (some (.int (-1))), h) := rn
      right
      obtain ⟨g, er, p, E⟩ := r_errsIf1 (c := 4) (x := 4) C h0 rfl (by omega)
      refine ⟨(4, s), g, rfl, ?_, p, E⟩
      refine zsem_eq (Nat.le_of_ble_eq_true rfl) (zTo_of gX6_roomHere_0 ?_)
      simp only [t0, nm, rn, er, show ((0 : Int32) < -1) = False from by decide, zmp_s, zlt_s, zcV_s, zcI_s, zcJ_s, zcA_s, zcD_s, zcF_s, zth_n, zth_t, zrt_s, zQ_l, zQ_r, false_or, or_false, true_or, or_true, false_and, and_false, not_false_eq_true, not_true_eq_false, and_self, true_and, and_true, if_true, if_false, ite_true, ite_false, zgd_t]
  · rw [if_neg (by rw [q]; simp)]
    right
    refine ⟨(1, s), g, rfl, ?_, p, E⟩
    have z0 := E.1.1
    refine zsem_eq (Nat.le_of_ble_eq_true rfl) (zTo_of gX6_roomHere_0 ?_)
    simp only [t0, nm, z0, x_named E, x_errsIf E, show ((0 : Int32) < -1) = False from by decide, zmp_s, zlt_s, zcV_s, zcI_s, zcJ_s, zcA_s, zcD_s, zcF_s, zth_n, zth_t, zrt_s, zQ_l, zQ_r, false_or, or_false, true_or, or_true, false_and, and_false, not_false_eq_true, not_true_eq_false, and_self, true_and, and_true, if_true, if_false, ite_true, ite_false, zgd_t]
theorem in_le {v g : Nat} (hv : v < 2 ^ 31) (hg : g < 2 ^ 31) (h : zm_H) : sX6_in [.long (nI v).toInt64, .long ((0 : Int32)).toInt64, .long (nI g).toInt64] h = some (.inl (some (.int (zb (decide (v ≤ g))))), h) := by
  rw [in_G, nI_l hv, nI_l hg]
  have e1 : ((0 : Int32).toInt64 ≤ lN v) = True := eq_true ((pk_lLE (a := 0) (b := v) (by omega) (by omega)).mpr (Nat.zero_le _))
  have e2 : (lN v ≤ lN g) = (v ≤ g) := propext (pk_lLE (by omega) (by omega))
  simp only [e1, e2, decide_true, Bool.true_and]
theorem r_numHere {g : Nat} {x : Int32} (C : CM h xs N fl fe s) (h0 : N 0 ≤ 11) (hx : x = nI g) (hg : g ≤ 999) : (∃ v, pFits xs g s = .inr v ∧ sX6_numberHere [.ref 125, .int 0, .int x] h = some (.inl (some (.int (nI v))), h) ∧ v ≤ g) ∨ (∃ e k, pFits xs g s = .inl e ∧ sX6_numberHere [.ref 125, .int 0, .int x] h = some (.inl (some (.int 0)), k) ∧ PF h k ∧ EE k e) := by
  subst hx
  have m0 := C.1
  have t0 := m0.1
  obtain ⟨b13, b14, b15, b16, b17, hn4, hs⟩ := C.2.2.2.1
  have tl := ty_le xs s
  have ft := fine_t m0 C.2.2.2.2.1
  have e2 : (nI (ty xs s) = 2) = (ty xs s = 2) := propext (nI_eq (b := 2) (by omega) (by omega))
  unfold pFits
  by_cases t2 : ty xs s = 2
  · rw [if_pos t2]
    have b17 := b17 t2
    have vl := vb_le 9999 xs s (tkL xs s)
    obtain ⟨v1, v2⟩ := vb_g xs s (tkL xs s) (g := g) hg
    have iv := in_le (v := vb 9999 xs s (tkL xs s)) (g := g) (by omega) (by omega) h
    by_cases w : vb 1000 xs s (tkL xs s) ≤ g
    · rw [if_pos w]
      rw [decide_eq_true (v1.mp w), zb_t] at iv
      left
      refine ⟨_, rfl, ?_, w⟩
      rw [v2 w]
      refine zsem_eq (Nat.le_of_ble_eq_true rfl) (zTo_of gX6_numberHere_0 ?_)
      simp only [t0, ft, i10, b15, e2, eq_true t2, b17, iv, zmp_s, zlt_s, zcV_s, zcI_s, zcJ_s, zcA_s, zcD_s, zcF_s, zth_n, zth_t, zrt_s, zQ_l, zQ_r, false_or, or_false, true_or, or_true, false_and, and_false, not_false_eq_true, not_true_eq_false, and_self, true_and, and_true, if_true, if_false, ite_true, ite_false, zgd_t]
    · rw [if_neg w]
      rw [decide_eq_false (fun q => w (v1.mpr q)), zb_f] at iv
      right
      obtain ⟨k, er, p, E⟩ := r_errs (c := 2) (x := 2) C h0 rfl (by omega)
      refine ⟨_, k, rfl, ?_, p, E⟩
      have z0 := E.1.1
      refine zsem_eq (Nat.le_of_ble_eq_true rfl) (zTo_of gX6_numberHere_0 ?_)
      simp only [t0, ft, i10, b15, e2, eq_true t2, b17, iv, er, z0, fine_f E.1 E.2.2.2.1, zmp_s, zlt_s, zcV_s, zcI_s, zcJ_s, zcA_s, zcD_s, zcF_s, zth_n, zth_t, zrt_s, zQ_l, zQ_r, false_or, or_false, true_or, or_true, false_and, and_false, not_false_eq_true, not_true_eq_false, and_self, true_and, and_true, if_true, if_false, ite_true, ite_false, zgd_t]
  · rw [if_neg t2]
    right
    obtain ⟨k, er, p, E⟩ := r_errs (c := 1) (x := 1) C h0 rfl (by omega)
    refine ⟨_, k, rfl, ?_, p, E⟩
    have z0 := E.1.1
    refine zsem_eq (Nat.le_of_ble_eq_true rfl) (zTo_of gX6_numberHere_0 ?_)
    simp only [t0, ft, i10, b15, e2, eq_false t2, er, z0, fine_f E.1 E.2.2.2.1, zmp_s, zlt_s, zcV_s, zcI_s, zcJ_s, zcA_s, zcD_s, zcF_s, zth_n, zth_t, zrt_s, zQ_l, zQ_r, false_or, or_false, true_or, or_true, false_and, and_false, not_false_eq_true, not_true_eq_false, and_self, true_and, and_true, if_true, if_false, ite_true, ite_false, zgd_t]
theorem r_number {g : Nat} {x : Int32} (C : CM h xs N fl fe s) (h0 : N 0 ≤ 11) (hx : x = nI g) (hg : g ≤ 999) : ∃ k, PF h k ∧ ((∃ v, pFits xs g s = .inr v ∧ sX6_number [.ref 125, .int 0, .int x] h = some (.inl (some (.int (nI v))), k) ∧ v ≤ g ∧ CM k xs N fl fe (nxt xs s)) ∨ (∃ e, pFits xs g s = .inl e ∧ sX6_number [.ref 125, .int 0, .int x] h = some (.inl (some (.int 0)), k) ∧ EE k e)) := by
  have t0 := C.1.1
  rcases r_numHere C h0 hx hg with ⟨v, hu, en, hv⟩ | ⟨e, k, hu, en, p, E⟩
  · obtain ⟨k, eg, p, C2⟩ := r_goOn C
    refine ⟨k, p, Or.inl ⟨v, hu, ?_, hv, C2⟩⟩
    refine zsem_eq (Nat.le_of_ble_eq_true rfl) (zTo_of gX6_number_0 ?_)
    simp only [t0, en, eg, zmp_s, zlt_s, zcV_s, zcI_s, zcJ_s, zcA_s, zcD_s, zcF_s, zth_n, zth_t, zrt_s, zQ_l, zQ_r, false_or, or_false, true_or, or_true, false_and, and_false, not_false_eq_true, not_true_eq_false, and_self, true_and, and_true, if_true, if_false, ite_true, ite_false, zgd_t]
  · refine ⟨k, p, Or.inr ⟨e, hu, ?_, E⟩⟩
    have z0 := E.1.1
    refine zsem_eq (Nat.le_of_ble_eq_true rfl) (zTo_of gX6_number_0 ?_)
    simp only [t0, en, z0, x_goOn E, zmp_s, zlt_s, zcV_s, zcI_s, zcJ_s, zcA_s, zcD_s, zcF_s, zth_n, zth_t, zrt_s, zQ_l, zQ_r, false_or, or_false, true_or, or_true, false_and, and_false, not_false_eq_true, not_true_eq_false, and_self, true_and, and_true, if_true, if_false, ite_true, ite_false, zgd_t]
theorem m_sym (C : CM h xs N fl fe s) {c : Nat} (hc : c < 256) : ((zI h 125 15 = 3) = (ty xs s = 3)) ∧ (ty xs s = 3 → (zI h 125 16 = nI c) = (bv xs s = c)) := by
  obtain ⟨b13, b14, b15, b16, b17, hn4, hs⟩ := C.2.2.2.1
  have tl := ty_le xs s
  refine ⟨by rw [b15]; exact propext (nI_eq (b := 3) (by omega) (by omega)), fun t3 => ?_⟩
  rw [b16 t3]
  have := (C.hb.at (ty_in (show ty xs s ≠ 0 by omega))).2
  exact propext (nI_eq (by omega) (by omega))
theorem r_semi (C : CM h xs N fl fe s) (h0 : N 0 ≤ 11) : ∃ k, sX6_semicolon [.ref 125] h = some (.inl none, k) ∧ PF h k ∧ ((∃ y, pSemi xs s = .inr y ∧ CM k xs N fl fe y) ∨ (∃ e, pSemi xs s = .inl e ∧ EE k e)) := by
  have t0 := C.1.1
  have ft := fine_t C.1 C.2.2.2.2.1
  obtain ⟨y3, yc⟩ := m_sym C (c := 59) (by omega)
  unfold pSemi
  obtain ⟨k, er, p, E⟩ := r_errs (c := 1) (x := 1) C h0 rfl (by omega)
  have z0 := E.1.1
  by_cases t3 : ty xs s = 3
  · have yc : (zI h 125 16 = 59) = (bv xs s = 59) := yc t3
    by_cases b : bv xs s = 59
    · have q : isS xs s 59 = true := by unfold isS; rw [decide_eq_true t3, decide_eq_true b]; rfl
      rw [if_pos q]
      obtain ⟨k, eg, p, C2⟩ := r_goOn C
      refine ⟨k, ?_, p, Or.inl ⟨_, rfl, C2⟩⟩
      refine zsem_eq (Nat.le_of_ble_eq_true rfl) (zTo_of gX6_semicolon_0 ?_)
      simp only [t0, ft, i10, y3, eq_true t3, yc, eq_true b, eg, zmp_s, zlt_s, zcV_s, zcI_s, zcJ_s, zcA_s, zcD_s, zcF_s, zth_n, zth_t, zrt_s, zQ_l, zQ_r, false_or, or_false, true_or, or_true, false_and, and_false, not_false_eq_true, not_true_eq_false, and_self, true_and, and_true, if_true, if_false, ite_true, ite_false, zgd_t]
    · have q : ¬ isS xs s 59 = true := by unfold isS; rw [decide_eq_false b, Bool.and_false]; simp
      rw [if_neg q]
      refine ⟨k, ?_, p, Or.inr ⟨_, rfl, E⟩⟩
      refine zsem_eq (Nat.le_of_ble_eq_true rfl) (zTo_of gX6_semicolon_0 ?_)
      simp only [t0, ft, i10, y3, eq_true t3, yc, eq_false b, er, z0, x_goOn E, zmp_s, zlt_s, zcV_s, zcI_s, zcJ_s, zcA_s, zcD_s, zcF_s, zth_n, zth_t, zrt_s, zQ_l, zQ_r, false_or, or_false, true_or, or_true, false_and, and_false, not_false_eq_true, not_true_eq_false, and_self, true_and, and_true, if_true, if_false, ite_true, ite_false, zgd_t]
  · have q : ¬ isS xs s 59 = true := by unfold isS; rw [decide_eq_false t3, Bool.false_and]; simp
    rw [if_neg q]
    refine ⟨k, ?_, p, Or.inr ⟨_, rfl, E⟩⟩
    refine zsem_eq (Nat.le_of_ble_eq_true rfl) (zTo_of gX6_semicolon_0 ?_)
    simp only [t0, ft, i10, y3, eq_false t3, er, z0, x_goOn E, zmp_s, zlt_s, zcV_s, zcI_s, zcJ_s, zcA_s, zcD_s, zcF_s, zth_n, zth_t, zrt_s, zQ_l, zQ_r, false_or, or_false, true_or, or_true, false_and, and_false, not_false_eq_true, not_true_eq_false, and_self, true_and, and_true, if_true, if_false, ite_true, ite_false, zgd_t]
theorem r_comma (C : CM h xs N fl fe s) : sX6_isComma [.ref 125] h = some (.inl (some (.int (zb (isS xs s 44)))), h) := by
  have t0 := C.1.1
  have ft := fine_t C.1 C.2.2.2.2.1
  obtain ⟨y3, yc⟩ := m_sym C (c := 44) (by omega)
  unfold isS
  refine zsem_eq (Nat.le_of_ble_eq_true rfl) (zTo_of gX6_isComma_0 ?_)
  by_cases t3 : ty xs s = 3
  · have yc : (zI h 125 16 = 44) = (bv xs s = 44) := yc t3
    by_cases b : bv xs s = 44
    · rw [decide_eq_true t3, decide_eq_true b]
      simp only [t0, ft, i10, y3, eq_true t3, yc, eq_true b, zmp_s, zlt_s, zcV_s, zcI_s, zcJ_s, zcA_s, zcD_s, zcF_s, zth_n, zth_t, zrt_s, zQ_l, zQ_r, false_or, or_false, true_or, or_true, false_and, and_false, not_false_eq_true, not_true_eq_false, and_self, true_and, and_true, if_true, if_false, ite_true, ite_false, zgd_t]; rfl
    · rw [decide_eq_true t3, decide_eq_false b]
      simp only [t0, ft, i10, y3, eq_true t3, yc, eq_false b, zmp_s, zlt_s, zcV_s, zcI_s, zcJ_s, zcA_s, zcD_s, zcF_s, zth_n, zth_t, zrt_s, zQ_l, zQ_r, false_or, or_false, true_or, or_true, false_and, and_false, not_false_eq_true, not_true_eq_false, and_self, true_and, and_true, if_true, if_false, ite_true, ite_false, zgd_t]; rfl
  · rw [decide_eq_false t3, Bool.false_and]
    simp only [t0, ft, i10, y3, eq_false t3, zmp_s, zlt_s, zcV_s, zcI_s, zcJ_s, zcA_s, zcD_s, zcF_s, zth_n, zth_t, zrt_s, zQ_l, zQ_r, false_or, or_false, true_or, or_true, false_and, and_false, not_false_eq_true, not_true_eq_false, and_self, true_and, and_true, if_true, if_false, ite_true, ite_false, zgd_t]; rfl
theorem r_keys (C : CM h xs N fl fe s) (h0 : N 0 ≤ 11) : ∃ g, PF h g ∧ ((∃ e x, pKeyO xs s = .inl e ∧ sX6_parseKeys [.ref 125] h = some (.inl (some (.int x)), g) ∧ EE g e) ∨ (∃ a, pKeyO xs s = .inr a ∧ sX6_parseKeys [.ref 125] h = some (.inl (some (.int (nI a.1))), g) ∧ CM g xs N fl fe a.2 ∧ a.1 < 256)) := by
  have t0 := C.1.1
  have iw := r_word (k := 1) C (by omega) kcd_all.2.1
  obtain ⟨R, hR⟩ : ∃ R : PR (Nat × Nat) → zm_O → Prop, R = (fun u o => ∃ g, PF h g ∧ ((∃ e x, u = .inl e ∧ o = (.inl (some (.int x)), g) ∧ EE g e) ∨ (∃ a, u = .inr a ∧ o = (.inl (some (.int (nI a.1))), g) ∧ CM g xs N fl fe a.2 ∧ a.1 < 256))) := ⟨_, rfl⟩
  have bad : ∀ g e x, PF h g → EE g e → zTo vX6_parseKeys rX6_parseKeys (6, [some (.ref 125), some (.int x), some (.int 0), none], [], g) (R (.inl e)) := by
    intro g e x p E
    refine zTo_of gX6_parseKeys_6 ?_
    simp only [zmp_s, zlt_s, zcV_s, zcI_s, zcJ_s, zcA_s, zcD_s, zcF_s, zth_n, zth_t, zrt_s, zQ_l, zQ_r, false_or, or_false, true_or, or_true, false_and, and_false, not_false_eq_true, not_true_eq_false, and_self, true_and, and_true, if_true, if_false, ite_true, ite_false]
    rw [hR]
    exact ⟨g, p, Or.inl ⟨e, x, rfl, rfl, E⟩⟩
  have loop : ∀ f ks t n g, n + f = 9 → 1 ≤ f → npc ks 8 = n → ks < 256 → PF h g → CM g xs N fl fe t → zTo vX6_parseKeys rX6_parseKeys (6, [some (.ref 125), some (.int (nI ks)), some (.int 1), none], [], g) (R (pKeys xs f ks t)) := by
    intro f
    induction f with
    | zero => intro ks t n g _ h1; omega
    | succ f ih =>
      intro ks t n g hn hf hpc hks fr D
      obtain ⟨g1, e1, f1, D1⟩ := r_goOn D
      have b0 := D.1.1
      have b1 := D1.1.1
      have fr1 := fr.tr f1
      refine zTo_of gX6_parseKeys_6 ?_
      rw [pKeys]
      rcases r_numHere (g := 7) (x := 7) D1 h0 rfl (by omega) with ⟨v, hu, en, hv⟩ | ⟨e, k, hu, en, p, E⟩
      · have hh := r_has (s := ks) (k := v) (by omega) (by omega) g1
        rw [hu]
        show zQ vX6_parseKeys rX6_parseKeys (R (if ks.testBit v = true then .inl (3, nxt xs t) else if isS xs (nxt xs (nxt xs t)) 44 = true then pKeys xs f (ks ||| 2 ^ v) (nxt xs (nxt xs t)) else .inr (ks ||| 2 ^ v, nxt xs (nxt xs t)))) _
        cases tb : ks.testBit v
        · rw [tb, zb_f] at hh
          obtain ⟨g3, e3, f3, D3⟩ := r_goOn D1
          have b3 := D3.1.1
          have cm := r_comma D3
          have kle : ks ||| 2 ^ v < 256 := or_lt (n := 8) hks (Nat.pow_lt_pow_right (by omega) (by omega))
          simp only [i10, b0, e1, b1, en, hh, r_errsIf0 D1, e3, b3, cm, nx_shl1 (show v < 32 by omega), nx_or, Bool.false_eq_true, zmp_s, zlt_s, zcV_s, zcI_s, zcJ_s, zcA_s, zcD_s, zcF_s, zth_n, zth_t, zrt_s, zQ_l, zQ_r, false_or, or_false, true_or, or_true, false_and, and_false, not_false_eq_true, not_true_eq_false, and_self, true_and, and_true, if_true, if_false, ite_true, ite_false, zgd_t]
          have pc2 : npc (ks ||| 2 ^ v) 8 = n + 1 := by rw [npc_or 8 (by omega) tb, hpc]
          cases q : isS xs (nxt xs (nxt xs t)) 44
          · rw [zb_f]
            refine zTo_of gX6_parseKeys_6 ?_
            simp only [Bool.false_eq_true, zmp_s, zlt_s, zcV_s, zcI_s, zcJ_s, zcA_s, zcD_s, zcF_s, zth_n, zth_t, zrt_s, zQ_l, zQ_r, false_or, or_false, true_or, or_true, false_and, and_false, not_false_eq_true, not_true_eq_false, and_self, true_and, and_true, if_true, if_false, ite_true, ite_false]
            rw [hR]
            exact ⟨g3, fr1.tr f3, Or.inr ⟨_, rfl, rfl, D3, kle⟩⟩
          · rw [zb_t, if_pos rfl]
            have le8 := npc_le (ks ||| 2 ^ v) 8
            exact ih _ _ (n + 1) g3 (by omega) (by omega) pc2 kle (fr1.tr f3) D3
        · rw [tb, zb_t] at hh
          obtain ⟨k, er, p, E⟩ := r_errsIf1 (c := 3) (x := 3) D1 h0 rfl (by omega)
          have z0 := E.1.1
          simp only [i10, b0, e1, b1, en, hh, er, z0, x_goOn E, x_comma E, zmp_s, zlt_s, zcV_s, zcI_s, zcJ_s, zcA_s, zcD_s, zcF_s, zth_n, zth_t, zrt_s, zQ_l, zQ_r, false_or, or_false, true_or, or_true, false_and, and_false, not_false_eq_true, not_true_eq_false, and_self, true_and, and_true, if_true, if_false, ite_true, ite_false, zgd_t]
          exact bad k _ _ (fr1.tr p) E
      · have hh := r_has (s := ks) (k := 0) (by omega) (by omega) k
        rw [nI_0] at hh
        have z0 := E.1.1
        rw [hu]
        simp only [i10, b0, e1, b1, en, hh, x_errsIf E, z0, x_goOn E, x_comma E, zmp_s, zlt_s, zcV_s, zcI_s, zcJ_s, zcA_s, zcD_s, zcF_s, zth_n, zth_t, zrt_s, zQ_l, zQ_r, false_or, or_false, true_or, or_true, false_and, and_false, not_false_eq_true, not_true_eq_false, and_self, true_and, and_true, if_true, if_false, ite_true, ite_false, zgd_t]
        exact bad k _ _ (fr1.tr p) E
  have hsim : zW (sX6_parseKeys [.ref 125] h) (R (pKeyO xs s)) := by
    refine zsem_to (Nat.le_of_ble_eq_true rfl) (zTo_of gX6_parseKeys_0 ?_)
    simp only [t0, iw, zmp_s, zlt_s, zcV_s, zcI_s, zcJ_s, zcA_s, zcD_s, zcF_s, zth_n, zth_t, zrt_s, zQ_l, zQ_r, false_or, or_false, true_or, or_true, false_and, and_false, not_false_eq_true, not_true_eq_false, and_self, true_and, and_true, if_true, if_false, ite_true, ite_false, zgd_t]
    unfold pKeyO
    cases q : isW xs s 8179
    · rw [zb_f]
      refine zTo_of gX6_parseKeys_6 ?_
      simp only [Bool.false_eq_true, zmp_s, zlt_s, zcV_s, zcI_s, zcJ_s, zcA_s, zcD_s, zcF_s, zth_n, zth_t, zrt_s, zQ_l, zQ_r, false_or, or_false, true_or, or_true, false_and, and_false, not_false_eq_true, not_true_eq_false, and_self, true_and, and_true, if_true, if_false, ite_true, ite_false]
      rw [hR]
      exact ⟨h, PF.rf, Or.inr ⟨(0, s), rfl, rfl, C, by show 0 < 256; omega⟩⟩
    · rw [zb_t, if_pos rfl]
      exact loop 9 0 s 0 h (by omega) (by omega) (by decide +kernel) (by omega) PF.rf C
  rw [hR] at hsim
  obtain ⟨o, h1, g, p, ⟨e, x, e1, rfl, e2⟩ | ⟨a, e1, rfl, e2⟩⟩ := hsim
  · exact ⟨g, p, Or.inl ⟨e, x, e1, h1, e2⟩⟩
  · exact ⟨g, p, Or.inr ⟨a, e1, h1, e2⟩⟩
end
end ZQD
