/-! THE MODEL: doors and statements read. -/
section ZQF
section
variable {h : zm_H} {xs : List Int32} {N : zLv} {fl fe : Bool} {s : Nat} {e : Nat × Nat}
theorem CM_ao {f g k v : Nat} {b : Bool} {ki vi : Int32} (C : CM h xs N fl fe s) (h1 : N 1 < 20) (hk : ki = nI k) (hv : vi = nI v) : ∃ g4, sX6_addOne [.ref 125, .int (nI f), .int (nI g), .int ki, .int vi, .int (zb b)] h = some (.inl none, g4) ∧ PF h g4 ∧ CM g4 xs (nAo N f g k v (if b then 1 else 0)) fl fe s := by
  subst hk hv
  obtain ⟨g4, e4, fr, mL⟩ := r_addOne (b := b) (r := f) (s := g) (k := k) (v := v) C.1 C.2.1 h1
  exact ⟨g4, e4, PF.row fr, C.row fr mL⟩
theorem nAo_3 (f g k v o : Nat) : nAo N f g k v o 3 = N 3 := by unfold nAo; rw [zput_ne _ _ (by omega), zput_ne _ _ (by omega), zput_ne _ _ (by omega), zput_ne _ _ (by omega), zput_ne _ _ (by omega), zput_ne _ _ (by omega)]
theorem nAo_0 (f g k v o : Nat) : nAo N f g k v o 0 = N 0 := by unfold nAo; rw [zput_ne _ _ (by omega), zput_ne _ _ (by omega), zput_ne _ _ (by omega), zput_ne _ _ (by omega), zput_ne _ _ (by omega), zput_ne _ _ (by omega)]
/-- the rest of a door -/
theorem r_tail {f g k v : Nat} {ki vi : Int32} (C : CM h xs N fl fe s) (hI : PI N) (h1 : N 1 < 20) (hf : f < N 0) (hg : g < N 0) (hne : f ≠ g) (hk : ki = nI k) (hv : vi = nI v) (hk2 : k ≤ 2) (hv9 : v ≤ 999) (hkv : k = 1 → v < 8) : ∃ z g2 g3, sX6_isWord [.ref 125, .ref (1000000 + 5)] h = some (.inl (some (.int z)), h) ∧ ((z = 0 ∧ g2 = h) ∨ (z = 1 ∧ sX6_goOn [.ref 125] h = some (.inl none, g2))) ∧ zK g2 125 = (12, 27) ∧ sX6_semicolon [.ref 125] g2 = some (.inl none, g3) ∧ zK g3 125 = (12, 27) ∧
    ((∃ e, pSemi xs (pOw xs s).2 = .inl e ∧ sX6_fine [.ref 125] g3 = some (.inl (some (.int 0)), g3) ∧ PF h g3 ∧ EE g3 e) ∨
     (∃ y g4, pSemi xs (pOw xs s).2 = .inr y ∧ sX6_fine [.ref 125] g3 = some (.inl (some (.int 1)), g3) ∧ sX6_addOne [.ref 125, .int (nI f), .int (nI g), .int ki, .int vi, .int z] g3 = some (.inl none, g4) ∧ PF h g4 ∧ CM g4 xs (nAo N f g k v (pOw xs s).1) fl fe y ∧ PI (nAo N f g k v (pOw xs s).1))) := by
  have h0 := hI.1
  have w5 := r_word (k := 5) C (by omega) kcd_all.2.2.2.2.2.1
  unfold pOw
  cases q : isW xs s 222789013
  · rw [q, zb_f] at w5
    simp only [Bool.false_eq_true, if_false]
    obtain ⟨g3, e3, p3, hh⟩ := r_semi C h0
    rcases hh with ⟨y, hy, C3⟩ | ⟨e, hy, E⟩
    · obtain ⟨g4, e4, p4, C4⟩ := CM_ao (b := false) (f := f) (g := g) C3 h1 hk hv
      exact ⟨0, h, g3, w5, Or.inl ⟨rfl, rfl⟩, C.1.1, e3, C3.1.1, Or.inr ⟨y, g4, hy, fine_t C3.1 C3.2.2.2.2.1, e4, p3.tr p4, C4, PI_ao hI h1 hf hg hne hk2 hv9 hkv (by omega)⟩⟩
    · exact ⟨0, h, g3, w5, Or.inl ⟨rfl, rfl⟩, C.1.1, e3, E.1.1, Or.inl ⟨e, hy, fine_f E.1 E.2.2.2.1, p3, E⟩⟩
  · rw [q, zb_t] at w5
    simp only [if_true]
    obtain ⟨g2, e2, p2, C2⟩ := r_goOn C
    obtain ⟨g3, e3, p3, hh⟩ := r_semi C2 h0
    rcases hh with ⟨y, hy, C3⟩ | ⟨e, hy, E⟩
    · obtain ⟨g4, e4, p4, C4⟩ := CM_ao (b := true) (f := f) (g := g) C3 h1 hk hv
      exact ⟨1, g2, g3, w5, Or.inr ⟨rfl, e2⟩, C2.1.1, e3, C3.1.1, Or.inr ⟨y, g4, hy, fine_t C3.1 C3.2.2.2.2.1, e4, (p2.tr p3).tr p4, C4, PI_ao hI h1 hf hg hne hk2 hv9 hkv (by omega)⟩⟩
    · exact ⟨1, g2, g3, w5, Or.inr ⟨rfl, e2⟩, C2.1.1, e3, E.1.1, Or.inl ⟨e, hy, fine_f E.1 E.2.2.2.1, p2.tr p3, E⟩⟩
theorem r_door1 (C : CM h xs N fl fe s) (hI : PI N) : QM h (pDoor xs N s) (sX6_parseDoor [.ref 125] h) (fun u g => CM g xs u.1 fl fe u.2 ∧ PI u.1 ∧ 1 ≤ u.1 0 ∧ u.1 3 = N 3) := by
  have t0 := C.1.1
  have h0 := hI.1
  have hd1 := hI.2.1
  have rd := r_doors C.1 C.2.1
  have e20 : (nI (N 1) = 20) = (N 1 = 20) := propext (nI_eq (b := 20) (by omega) (by omega))
  obtain ⟨R, hR⟩ : ∃ R : PR (zLv × Nat) → zm_O → Prop, R = (fun u o => ∃ g, o = (.inl none, g) ∧ PF h g ∧ ((∃ e, u = .inl e ∧ EE g e) ∨ (∃ a, u = .inr a ∧ CM g xs a.1 fl fe a.2 ∧ PI a.1 ∧ 1 ≤ a.1 0 ∧ a.1 3 = N 3))) := ⟨_, rfl⟩
  have rbad : ∀ g e, PF h g → EE g e → R (.inl e) (.inl none, g) := fun g e p E => by
    rw [hR]; exact ⟨g, rfl, p, Or.inl ⟨e, rfl, E⟩⟩
  have bad44 : ∀ g e x1 x2, PF h g → EE g e → zTo vX6_parseDoor rX6_parseDoor (44, [some (.ref 125), some (.int x1), some (.int x2), none, none, none], [.int 0], g) (R (.inl e)) := by
    intro g e x1 x2 p E
    have z0 := E.1.1
    have w5 := x_word (k := 5) E (by omega)
    refine zTo_of gX6_parseDoor_44 ?_
    simp only [z0, w5, x_semi E, fine_f E.1 E.2.2.2.1, zmp_s, zlt_s, zcV_s, zcI_s, zcJ_s, zcA_s, zcD_s, zcF_s, zth_n, zth_t, zrt_s, zQ_l, zQ_r, false_or, or_false, true_or, or_true, false_and, and_false, not_false_eq_true, not_true_eq_false, and_self, true_and, and_true, if_true, if_false, ite_true, ite_false, zgd_t]
    exact rbad g e p E
  have bad27 : ∀ g e x1 x2 w, PF h g → EE g e → zTo vX6_parseDoor rX6_parseDoor (27, [some (.ref 125), some (.int x1), some (.int x2), none, none, none], [.int w, .ref 125], g) (R (.inl e)) := by
    intro g e x1 x2 w p E
    have z0 := E.1.1
    have w1 := x_word (k := 1) E (by omega)
    have w4 := x_word (k := 4) E (by omega)
    refine zTo_of gX6_parseDoor_27 ?_
    simp only [z0, x_errsIf E, x_goOn E, w1, w4, zmp_s, zlt_s, zcV_s, zcI_s, zcJ_s, zcA_s, zcD_s, zcF_s, zth_n, zth_t, zrt_s, zQ_l, zQ_r, false_or, or_false, true_or, or_true, false_and, and_false, not_false_eq_true, not_true_eq_false, and_self, true_and, and_true, if_true, if_false, ite_true, ite_false, zgd_t]
    exact bad44 g e x1 x2 p E
  have cmp27 : ∀ g e x1 x2, PF h g → EE g e → zQ vX6_parseDoor rX6_parseDoor (R (.inl e)) (if x1 = x2 then some (.inl (27, [some (.ref 125), some (.int x1), some (.int x2), none, none, none], [.int 1, .ref 125], g)) else some (.inl (27, [some (.ref 125), some (.int x1), some (.int x2), none, none, none], [.int 0, .ref 125], g))) := by
    intro g e x1 x2 p E
    by_cases q : x1 = x2
    · rw [if_pos q]; exact bad27 g e x1 x2 1 p E
    · rw [if_neg q]; exact bad27 g e x1 x2 0 p E
  have hsim : zW (sX6_parseDoor [.ref 125] h) (R (pDoor xs N s)) := by
    refine zsem_to (Nat.le_of_ble_eq_true rfl) (zTo_of gX6_parseDoor_0 ?_)
    unfold pDoor
    by_cases w : N 1 = 20
    · rw [if_pos (by omega)]
      simp only [t0, rd, e20, eq_true w, zmp_s, zlt_s, zcV_s, zcI_s, zcJ_s, zcA_s, zcD_s, zcF_s, zth_n, zth_t, zrt_s, zQ_l, zQ_r, false_or, or_false, true_or, or_true, false_and, and_false, not_false_eq_true, not_true_eq_false, and_self, true_and, and_true, if_true, if_false, ite_true, ite_false, zgd_t]
      obtain ⟨g, er, p, E⟩ := r_errsIf1 (c := 5) (x := 5) C h0 rfl (by omega)
      have z0 := E.1.1
      refine zTo_of gX6_parseDoor_8 ?_
      simp only [t0, er, z0, x_goOn E, x_room E, zmp_s, zlt_s, zcV_s, zcI_s, zcJ_s, zcA_s, zcD_s, zcF_s, zth_n, zth_t, zrt_s, zQ_l, zQ_r, false_or, or_false, true_or, or_true, false_and, and_false, not_false_eq_true, not_true_eq_false, and_self, true_and, and_true, if_true, if_false, ite_true, ite_false, zgd_t]
      exact bad27 g _ 0 0 1 p E
    · rw [if_neg (by omega)]
      have h1 : N 1 < 20 := by omega
      simp only [t0, rd, e20, eq_false w, zmp_s, zlt_s, zcV_s, zcI_s, zcJ_s, zcA_s, zcD_s, zcF_s, zth_n, zth_t, zrt_s, zQ_l, zQ_r, false_or, or_false, true_or, or_true, false_and, and_false, not_false_eq_true, not_true_eq_false, and_self, true_and, and_true, if_true, if_false, ite_true, ite_false, zgd_t]
      obtain ⟨g1, e1, p1, C1⟩ := r_goOn C
      have z1 := C1.1.1
      refine zTo_of gX6_parseDoor_8 ?_
      rcases r_roomHere C1 hI with ⟨f, hu, er, hf⟩ | ⟨e, g2, hu, er, p2, E⟩
      · rw [hu]
        obtain ⟨g2, e2, p2, C2⟩ := r_goOn C1
        have z2 := C2.1.1
        show zQ vX6_parseDoor rX6_parseDoor (R (pb (pTold xs N (nxt xs (nxt xs s))) _)) _
        rcases r_roomHere C2 hI with ⟨g, hu2, er2, hg⟩ | ⟨e, g3, hu2, er2, p3, E⟩
        · rw [hu2]
          have P2 := p1.tr p2
          have fg : (nI f = nI g) = (f = g) := propext (nI_eq (by omega) (by omega))
          show zQ vX6_parseDoor rX6_parseDoor (R (if g = f then .inl (3, nxt xs (nxt xs s)) else pDoor1 xs N f g (nxt xs (nxt xs (nxt xs s))))) _
          simp only [t0, r_errsIf0 C, e1, z1, er, e2, z2, er2, fg, zgd_t, zmp_s, zlt_s, zcV_s, zcI_s]
          by_cases q : f = g
          · rw [if_pos q, if_pos q.symm, zQ_l]
            obtain ⟨g3, er3, p3, E⟩ := r_errsIf1 (c := 3) (x := 3) C2 h0 rfl (by omega)
            have z0 := E.1.1
            have w1 := x_word (k := 1) E (by omega)
            have w4 := x_word (k := 4) E (by omega)
            refine zTo_of gX6_parseDoor_27 ?_
            simp only [z2, er3, z0, x_goOn E, w1, w4, zmp_s, zlt_s, zcV_s, zcI_s, zcJ_s, zcA_s, zcD_s, zcF_s, zth_n, zth_t, zrt_s, zQ_l, zQ_r, false_or, or_false, true_or, or_true, false_and, and_false, not_false_eq_true, not_true_eq_false, and_self, true_and, and_true, if_true, if_false, ite_true, ite_false, zgd_t]
            exact bad44 g3 _ _ _ (P2.tr p3) E
          · rw [if_neg q, if_neg (fun x => q x.symm), zQ_l, pDoor1_eq]
            obtain ⟨g3, e3, p3, C3⟩ := r_goOn C2
            have P3 := P2.tr p3
            have z3 := C3.1.1
            have w1 := r_word (k := 1) C3 (by omega) kcd_all.2.1
            have w4 := r_word (k := 4) C3 (by omega) kcd_all.2.2.2.2.1
            have good : ∀ (k v z : Nat) (u : PR (Nat × Nat)) g4 y, CM g4 xs (nAo N f g k v z) fl fe y → PI (nAo N f g k v z) → PF h g4 → R (.inr (nAo N f g k v z, y)) (.inl none, g4) := fun k v z u g4 y C4 hI4 p4 => by
              rw [hR]
              exact ⟨g4, rfl, p4, Or.inr ⟨_, rfl, C4, hI4, by show 1 ≤ nAo N f g k v z 0; rw [nAo_0]; omega, nAo_3 ..⟩⟩
            refine zTo_of gX6_parseDoor_27 ?_
            unfold pLk
            -- a lock with a number
            have lock : ∀ (k G : Nat) (ki Gi : Int32), ki = nI k → Gi = nI G → ki ≠ 0 → G ≤ 999 → k ≤ 2 → (∀ v, v ≤ G → k = 1 → v < 8) → (ki = 1 ∧ Gi = 7 ∨ (ki = 1) = False ∧ Gi = 999) → zTo vX6_parseDoor rX6_parseDoor (44, [some (.ref 125), some (.int (nI f)), some (.int (nI g)), none, none, none], [.int ki], g3) (R (pb (pb (pFits xs G (nxt xs (nxt xs (nxt xs (nxt xs s))))) (fun v => .inr ((k, v), nxt xs (nxt xs (nxt xs (nxt xs (nxt xs s))))))) fun u => pb (pSemi xs (pOw xs u.2).2) fun y => .inr (nAo N f g u.1.1 u.1.2 (pOw xs u.2).1, y))) := by
              intro k G ki Gi hki hGi hk0 hG hk2 hk8 hcase
              obtain ⟨g4, e4, p4, C4⟩ := r_goOn C3
              have P4 := P3.tr p4
              have z4 := C4.1.1
              have k0 : (ki = 0) = False := eq_false hk0
              refine zTo_of gX6_parseDoor_44 ?_
              obtain ⟨g5, p5, ⟨v, hu5, hf5, hv, C5⟩ | ⟨er, hu5, hf5, E⟩⟩ := r_number C4 h0 hGi hG
              · rw [hu5]
                have P5 := P4.tr p5
                have z5 := C5.1.1
                show zQ vX6_parseDoor rX6_parseDoor (R (pb (pSemi xs (pOw xs (nxt xs (nxt xs (nxt xs (nxt xs (nxt xs s)))))).2) fun y => .inr (nAo N f g k v (pOw xs (nxt xs (nxt xs (nxt xs (nxt xs (nxt xs s)))))).1, y))) _
                obtain ⟨z, k2, k3, w5, hz, zk2, e6, zk3, hh⟩ := r_tail (f := f) (g := g) C5 hI h1 hf hg q hki (rfl : nI v = nI v) hk2 (by omega) (hk8 v hv)
                rcases hcase with ⟨hc, hc2⟩ | ⟨hc, hc2⟩
                · rw [hc2] at hf5
                  rw [hc] at hh k0 ⊢
                  rcases hz with ⟨hz, hzg⟩ | ⟨hz, hzg⟩
                  · rw [hz] at w5 hh
                    rw [hzg] at e6
                    rcases hh with ⟨e, hy, ff, p6, E⟩ | ⟨y, k4, hy, ff, ea, p6, C6, hI6⟩
                    · rw [hy]
                      simp only [k0, z3, e4, z4, hf5, z5, w5, e6, zk3, ff, zmp_s, zlt_s, zcV_s, zcI_s, zcJ_s, zcA_s, zcD_s, zcF_s, zth_n, zth_t, zrt_s, zQ_l, zQ_r, false_or, or_false, true_or, or_true, false_and, and_false, not_false_eq_true, not_true_eq_false, and_self, true_and, and_true, if_true, if_false, ite_true, ite_false, zgd_t]
                      exact rbad _ _ (P5.tr p6) E
                    · rw [hy]
                      simp only [k0, z3, e4, z4, hf5, z5, w5, e6, zk3, ff, i10, ea, zmp_s, zlt_s, zcV_s, zcI_s, zcJ_s, zcA_s, zcD_s, zcF_s, zth_n, zth_t, zrt_s, zQ_l, zQ_r, false_or, or_false, true_or, or_true, false_and, and_false, not_false_eq_true, not_true_eq_false, and_self, true_and, and_true, if_true, if_false, ite_true, ite_false, zgd_t]
                      exact good _ _ _ (.inl (0, 0)) _ _ C6 hI6 (P5.tr p6)
                  · rw [hz] at w5 hh
                    rcases hh with ⟨e, hy, ff, p6, E⟩ | ⟨y, k4, hy, ff, ea, p6, C6, hI6⟩
                    · rw [hy]
                      simp only [k0, z3, e4, z4, hf5, z5, w5, i10, hzg, zk2, e6, zk3, ff, zmp_s, zlt_s, zcV_s, zcI_s, zcJ_s, zcA_s, zcD_s, zcF_s, zth_n, zth_t, zrt_s, zQ_l, zQ_r, false_or, or_false, true_or, or_true, false_and, and_false, not_false_eq_true, not_true_eq_false, and_self, true_and, and_true, if_true, if_false, ite_true, ite_false, zgd_t]
                      exact rbad _ _ (P5.tr p6) E
                    · rw [hy]
                      simp only [k0, z3, e4, z4, hf5, z5, w5, i10, hzg, zk2, e6, zk3, ff, ea, zmp_s, zlt_s, zcV_s, zcI_s, zcJ_s, zcA_s, zcD_s, zcF_s, zth_n, zth_t, zrt_s, zQ_l, zQ_r, false_or, or_false, true_or, or_true, false_and, and_false, not_false_eq_true, not_true_eq_false, and_self, true_and, and_true, if_true, if_false, ite_true, ite_false, zgd_t]
                      exact good _ _ _ (.inl (0, 0)) _ _ C6 hI6 (P5.tr p6)
                · rw [hc2] at hf5
                  rcases hz with ⟨hz, hzg⟩ | ⟨hz, hzg⟩
                  · rw [hz] at w5 hh
                    rw [hzg] at e6
                    rcases hh with ⟨e, hy, ff, p6, E⟩ | ⟨y, k4, hy, ff, ea, p6, C6, hI6⟩
                    · rw [hy]
                      simp only [k0, hc, z3, e4, z4, hf5, z5, w5, e6, zk3, ff, zmp_s, zlt_s, zcV_s, zcI_s, zcJ_s, zcA_s, zcD_s, zcF_s, zth_n, zth_t, zrt_s, zQ_l, zQ_r, false_or, or_false, true_or, or_true, false_and, and_false, not_false_eq_true, not_true_eq_false, and_self, true_and, and_true, if_true, if_false, ite_true, ite_false, zgd_t]
                      exact rbad _ _ (P5.tr p6) E
                    · rw [hy]
                      simp only [k0, hc, z3, e4, z4, hf5, z5, w5, e6, zk3, ff, i10, ea, zmp_s, zlt_s, zcV_s, zcI_s, zcJ_s, zcA_s, zcD_s, zcF_s, zth_n, zth_t, zrt_s, zQ_l, zQ_r, false_or, or_false, true_or, or_true, false_and, and_false, not_false_eq_true, not_true_eq_false, and_self, true_and, and_true, if_true, if_false, ite_true, ite_false, zgd_t]
                      exact good _ _ _ (.inl (0, 0)) _ _ C6 hI6 (P5.tr p6)
                  · rw [hz] at w5 hh
                    rcases hh with ⟨e, hy, ff, p6, E⟩ | ⟨y, k4, hy, ff, ea, p6, C6, hI6⟩
                    · rw [hy]
                      simp only [k0, hc, z3, e4, z4, hf5, z5, w5, i10, hzg, zk2, e6, zk3, ff, zmp_s, zlt_s, zcV_s, zcI_s, zcJ_s, zcA_s, zcD_s, zcF_s, zth_n, zth_t, zrt_s, zQ_l, zQ_r, false_or, or_false, true_or, or_true, false_and, and_false, not_false_eq_true, not_true_eq_false, and_self, true_and, and_true, if_true, if_false, ite_true, ite_false, zgd_t]
                      exact rbad _ _ (P5.tr p6) E
                    · rw [hy]
                      simp only [k0, hc, z3, e4, z4, hf5, z5, w5, i10, hzg, zk2, e6, zk3, ff, ea, zmp_s, zlt_s, zcV_s, zcI_s, zcJ_s, zcA_s, zcD_s, zcF_s, zth_n, zth_t, zrt_s, zQ_l, zQ_r, false_or, or_false, true_or, or_true, false_and, and_false, not_false_eq_true, not_true_eq_false, and_self, true_and, and_true, if_true, if_false, ite_true, ite_false, zgd_t]
                      exact good _ _ _ (.inl (0, 0)) _ _ C6 hI6 (P5.tr p6)
              · rw [hu5]
                have z5 := E.1.1
                have w5 := x_word (k := 5) E (by omega)
                rcases hcase with ⟨hc, hc2⟩ | ⟨hc, hc2⟩
                · rw [hc2] at hf5
                  rw [hc] at k0 ⊢
                  simp only [k0, z3, e4, z4, hf5, z5, w5, x_semi E, fine_f E.1 E.2.2.2.1, zmp_s, zlt_s, zcV_s, zcI_s, zcJ_s, zcA_s, zcD_s, zcF_s, zth_n, zth_t, zrt_s, zQ_l, zQ_r, false_or, or_false, true_or, or_true, false_and, and_false, not_false_eq_true, not_true_eq_false, and_self, true_and, and_true, if_true, if_false, ite_true, ite_false, zgd_t]
                  exact rbad _ _ (P4.tr p5) E
                · rw [hc2] at hf5
                  simp only [k0, hc, z3, e4, z4, hf5, z5, w5, x_semi E, fine_f E.1 E.2.2.2.1, zmp_s, zlt_s, zcV_s, zcI_s, zcJ_s, zcA_s, zcD_s, zcF_s, zth_n, zth_t, zrt_s, zQ_l, zQ_r, false_or, or_false, true_or, or_true, false_and, and_false, not_false_eq_true, not_true_eq_false, and_self, true_and, and_true, if_true, if_false, ite_true, ite_false, zgd_t]
                  exact rbad _ _ (P4.tr p5) E
            cases qk : isW xs (nxt xs (nxt xs (nxt xs s))) 8179
            · rw [qk, zb_f] at w1
              rw [if_neg (by simp)]
              cases qt : isW xs (nxt xs (nxt xs (nxt xs s))) 404931
              · rw [qt, zb_f] at w4
                rw [if_neg (by simp)]
                simp only [z2, r_errsIf0 C2, e3, z3, w1, w4, zmp_s, zlt_s, zcV_s, zcI_s, zcJ_s, zcA_s, zcD_s, zcF_s, zth_n, zth_t, zrt_s, zQ_l, zQ_r, false_or, or_false, true_or, or_true, false_and, and_false, not_false_eq_true, not_true_eq_false, and_self, true_and, and_true, if_true, if_false, ite_true, ite_false, zgd_t]
                refine zTo_of gX6_parseDoor_44 ?_
                show zQ vX6_parseDoor rX6_parseDoor (R (pb (pSemi xs (pOw xs (nxt xs (nxt xs (nxt xs s)))).2) fun y => .inr (nAo N f g 0 0 (pOw xs (nxt xs (nxt xs (nxt xs s)))).1, y))) _
                obtain ⟨z, k2, k3, w5, hz, zk2, e6, zk3, hh⟩ := r_tail (f := f) (g := g) (k := 0) (v := 0) (ki := 0) (vi := 0) C3 hI h1 hf hg q rfl rfl (by omega) (by omega) (fun x => by omega)
                rcases hz with ⟨hz, hzg⟩ | ⟨hz, hzg⟩
                · rw [hz] at w5 hh
                  rw [hzg] at e6
                  rcases hh with ⟨e, hy, ff, p6, E⟩ | ⟨y, k4, hy, ff, ea, p6, C6, hI6⟩
                  · rw [hy]
                    simp only [z3, w5, e6, zk3, ff, zmp_s, zlt_s, zcV_s, zcI_s, zcJ_s, zcA_s, zcD_s, zcF_s, zth_n, zth_t, zrt_s, zQ_l, zQ_r, false_or, or_false, true_or, or_true, false_and, and_false, not_false_eq_true, not_true_eq_false, and_self, true_and, and_true, if_true, if_false, ite_true, ite_false, zgd_t]
                    exact rbad _ _ (P3.tr p6) E
                  · rw [hy]
                    simp only [z3, w5, e6, zk3, ff, i10, ea, zmp_s, zlt_s, zcV_s, zcI_s, zcJ_s, zcA_s, zcD_s, zcF_s, zth_n, zth_t, zrt_s, zQ_l, zQ_r, false_or, or_false, true_or, or_true, false_and, and_false, not_false_eq_true, not_true_eq_false, and_self, true_and, and_true, if_true, if_false, ite_true, ite_false, zgd_t]
                    exact good _ _ _ (.inl (0, 0)) _ _ C6 hI6 (P3.tr p6)
                · rw [hz] at w5 hh
                  rcases hh with ⟨e, hy, ff, p6, E⟩ | ⟨y, k4, hy, ff, ea, p6, C6, hI6⟩
                  · rw [hy]
                    simp only [z3, w5, i10, hzg, zk2, e6, zk3, ff, zmp_s, zlt_s, zcV_s, zcI_s, zcJ_s, zcA_s, zcD_s, zcF_s, zth_n, zth_t, zrt_s, zQ_l, zQ_r, false_or, or_false, true_or, or_true, false_and, and_false, not_false_eq_true, not_true_eq_false, and_self, true_and, and_true, if_true, if_false, ite_true, ite_false, zgd_t]
                    exact rbad _ _ (P3.tr p6) E
                  · rw [hy]
                    simp only [z3, w5, i10, hzg, zk2, e6, zk3, ff, ea, zmp_s, zlt_s, zcV_s, zcI_s, zcJ_s, zcA_s, zcD_s, zcF_s, zth_n, zth_t, zrt_s, zQ_l, zQ_r, false_or, or_false, true_or, or_true, false_and, and_false, not_false_eq_true, not_true_eq_false, and_self, true_and, and_true, if_true, if_false, ite_true, ite_false, zgd_t]
                    exact good _ _ _ (.inl (0, 0)) _ _ C6 hI6 (P3.tr p6)
              · rw [qt, zb_t] at w4
                rw [if_pos rfl]
                simp only [z2, r_errsIf0 C2, e3, z3, w1, w4, i10, zmp_s, zlt_s, zcV_s, zcI_s, zcJ_s, zcA_s, zcD_s, zcF_s, zth_n, zth_t, zrt_s, zQ_l, zQ_r, false_or, or_false, true_or, or_true, false_and, and_false, not_false_eq_true, not_true_eq_false, and_self, true_and, and_true, if_true, if_false, ite_true, ite_false, zgd_t]
                exact lock 2 999 2 999 rfl rfl (by decide) (by omega) (by omega) (fun v hv x => by omega) (Or.inr ⟨eq_false (by decide), rfl⟩)
            · rw [qk, zb_t] at w1
              rw [if_pos rfl]
              simp only [z2, r_errsIf0 C2, e3, z3, w1, i10, zmp_s, zlt_s, zcV_s, zcI_s, zcJ_s, zcA_s, zcD_s, zcF_s, zth_n, zth_t, zrt_s, zQ_l, zQ_r, false_or, or_false, true_or, or_true, false_and, and_false, not_false_eq_true, not_true_eq_false, and_self, true_and, and_true, if_true, if_false, ite_true, ite_false, zgd_t]
              exact lock 1 7 1 7 rfl rfl (by decide) (by omega) (by omega) (fun v hv x => by omega) (Or.inl ⟨rfl, rfl⟩)
        · rw [hu2]
          have z3 := E.1.1
          simp only [t0, r_errsIf0 C, e1, z1, er, e2, z2, er2, zgd_t, zmp_s, zlt_s, zcV_s, zcI_s]
          exact cmp27 g3 _ _ _ ((p1.tr p2).tr p3) E
      · rw [hu]
        have z2 := E.1.1
        simp only [t0, r_errsIf0 C, e1, z1, er, z2, x_goOn E, x_room E, zgd_t, zmp_s, zlt_s, zcV_s, zcI_s]
        exact bad27 g2 _ 0 0 1 (p1.tr p2) E
  rw [hR] at hsim
  obtain ⟨o, h1, g, rfl, p, hh⟩ := hsim
  exact ⟨g, h1, p, hh⟩
theorem r_stmt (C : CM h xs N fl (decide (N 3 ≠ 0)) s) (hI : PI N) : QM h (pStmt xs N fl s) (sX6_parseStatement [.ref 125] h) (fun u g => CM g xs u.1.1 u.1.2 (decide (u.1.1 3 ≠ 0)) u.2 ∧ PI u.1.1 ∧ 1 ≤ u.1.1 0) := by
  have t0 := C.1.1
  have i1 := r_word (k := 0) C (by omega) kcd_all.1
  have i2 := r_word (k := 3) C (by omega) kcd_all.2.2.2.1
  have i3 := r_word (k := 6) C (by omega) kcd_all.2.2.2.2.2.2.1
  have i4 := r_word (k := 7) C (by omega) kcd_all.2.2.2.2.2.2.2
  unfold pStmt
  cases w1 : isW xs s 365647
  · rw [w1, zb_f] at i1
    rw [if_neg (by simp)]
    cases w2 : isW xs s 90090
    · rw [w2, zb_f] at i2
      rw [if_neg (by simp)]
      cases w3 : isW xs s 10492274
      · rw [w3, zb_f] at i3
        rw [if_neg (by simp)]
        cases w4 : isW xs s 4027
        · rw [w4, zb_f] at i4
          rw [if_neg (by simp)]
          obtain ⟨g, er, p, E⟩ := r_errs (c := 1) (x := 1) C hI.1 rfl (by omega)
          refine ⟨g, ?_, p, Or.inl ⟨_, rfl, E⟩⟩
          refine zsem_eq (Nat.le_of_ble_eq_true rfl) (zTo_of gX6_parseStatement_0 ?_)
          simp only [t0, i1, i2, i3, i4, er, zmp_s, zlt_s, zcV_s, zcI_s, zcJ_s, zcA_s, zcD_s, zcF_s, zth_n, zth_t, zrt_s, zQ_l, zQ_r, false_or, or_false, true_or, or_true, false_and, and_false, not_false_eq_true, not_true_eq_false, and_self, true_and, and_true, if_true, if_false, ite_true, ite_false, zgd_t]
        · rw [w4, zb_t] at i4
          rw [if_pos rfl]
          obtain ⟨g, ef, p, hh⟩ := r_end C hI rfl
          refine ⟨g, ?_, p, ?_⟩
          · refine zsem_eq (Nat.le_of_ble_eq_true rfl) (zTo_of gX6_parseStatement_0 ?_)
            simp only [t0, i1, i2, i3, i4, i10, ef, zmp_s, zlt_s, zcV_s, zcI_s, zcJ_s, zcA_s, zcD_s, zcF_s, zth_n, zth_t, zrt_s, zQ_l, zQ_r, false_or, or_false, true_or, or_true, false_and, and_false, not_false_eq_true, not_true_eq_false, and_self, true_and, and_true, if_true, if_false, ite_true, ite_false, zgd_t]
          · rcases hh with ⟨e, hu, E⟩ | ⟨a, hu, C2, hI2, h12⟩
            · rw [hu]; exact Or.inl ⟨e, rfl, E⟩
            · rw [hu]; exact Or.inr ⟨_, rfl, C2, hI2, h12⟩
      · rw [w3, zb_t] at i3
        rw [if_pos rfl]
        obtain ⟨g, ef, p, hh⟩ := r_start C hI
        refine ⟨g, ?_, p, ?_⟩
        · refine zsem_eq (Nat.le_of_ble_eq_true rfl) (zTo_of gX6_parseStatement_0 ?_)
          simp only [t0, i1, i2, i3, i10, ef, zmp_s, zlt_s, zcV_s, zcI_s, zcJ_s, zcA_s, zcD_s, zcF_s, zth_n, zth_t, zrt_s, zQ_l, zQ_r, false_or, or_false, true_or, or_true, false_and, and_false, not_false_eq_true, not_true_eq_false, and_self, true_and, and_true, if_true, if_false, ite_true, ite_false, zgd_t]
        · rcases hh with ⟨e, hu, E⟩ | ⟨a, hu, C2, hI2, h12, h3⟩
          · rw [hu]; exact Or.inl ⟨e, rfl, E⟩
          · rw [hu]; rw [← h3] at C2; exact Or.inr ⟨_, rfl, C2, hI2, h12⟩
    · rw [w2, zb_t] at i2
      rw [if_pos rfl]
      obtain ⟨g, ef, p, hh⟩ := r_door1 C hI
      refine ⟨g, ?_, p, ?_⟩
      · refine zsem_eq (Nat.le_of_ble_eq_true rfl) (zTo_of gX6_parseStatement_0 ?_)
        simp only [t0, i1, i2, i10, ef, zmp_s, zlt_s, zcV_s, zcI_s, zcJ_s, zcA_s, zcD_s, zcF_s, zth_n, zth_t, zrt_s, zQ_l, zQ_r, false_or, or_false, true_or, or_true, false_and, and_false, not_false_eq_true, not_true_eq_false, and_self, true_and, and_true, if_true, if_false, ite_true, ite_false, zgd_t]
      · rcases hh with ⟨e, hu, E⟩ | ⟨a, hu, C2, hI2, h12, h3⟩
        · rw [hu]; exact Or.inl ⟨e, rfl, E⟩
        · rw [hu]; rw [← h3] at C2; exact Or.inr ⟨_, rfl, C2, hI2, h12⟩
  · rw [w1, zb_t] at i1
    rw [if_pos rfl]
    obtain ⟨g, ef, p, hh⟩ := r_room1 C hI
    refine ⟨g, ?_, p, ?_⟩
    · refine zsem_eq (Nat.le_of_ble_eq_true rfl) (zTo_of gX6_parseStatement_0 ?_)
      simp only [t0, i1, i10, ef, zmp_s, zlt_s, zcV_s, zcI_s, zcJ_s, zcA_s, zcD_s, zcF_s, zth_n, zth_t, zrt_s, zQ_l, zQ_r, false_or, or_false, true_or, or_true, false_and, and_false, not_false_eq_true, not_true_eq_false, and_self, true_and, and_true, if_true, if_false, ite_true, ite_false, zgd_t]
    · rcases hh with ⟨e, hu, E⟩ | ⟨a, hu, C2, hI2, h12, h3⟩
      · rw [hu]; exact Or.inl ⟨e, rfl, E⟩
      · rw [hu]; rw [← h3] at C2; exact Or.inr ⟨_, rfl, C2, hI2, h12⟩
end
end ZQF
