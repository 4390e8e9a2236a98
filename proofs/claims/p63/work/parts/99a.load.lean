/-! THE LAW'S LEVEL: built row by row, and told. -/
section ZLE
section
variable {sc : Nat × (Nat → Int32)} {n : Nat} {b : Nat} {T : List Int32} {h0 : zm_H} {R : zm_O → Prop}
theorem w_drawA {a r m : Nat} (hs : sc.1 < 2 ^ 31) (ha : a + r < 2 ^ 31) (hm : 0 < m) (hm2 : m < 2 ^ 31) (h : zm_H) : sL_draw sc [.ref 2000000, .int (nI a + nI r), .int (nI m)] h = some (.inl (some (.int (nI (dwN sc (a + r) m)))), h) := by
  rw [nI_add]; exact w_draw h hs ha hm hm2
abbrev lT (sc : Nat × (Nat → Int32)) (k : Nat) (t : zm_T) (R : zm_O → Prop) : Prop := zTJ (vL_load sc) rL_load jL_load k t R
abbrev z13 (n b r : Nat) (h : zm_H) : zm_T := (13, [some (.ref 0), some (.ref 2000000), some (.int (nI n)), some (.ref b), some (.int (nI r)), none, none, none, none, none], [], h)
abbrev z79 (n b k my d : Nat) (h : zm_H) : zm_T := (79, [some (.ref 0), some (.ref 2000000), some (.int (nI n)), some (.ref b), some (.int (nI k)), some (.int (nI my)), some (.int (nI d)), none, none, none], [], h)
abbrev zXX (pc n b k : Nat) (h : zm_H) : zm_T := (pc, [some (.ref 0), some (.ref 2000000), some (.int (nI n)), some (.ref b), some (.int (nI k)), none, none, none, none, none], [], h)
theorem ld_rooms (hs : sc.1 < 2 ^ 31) (h6 : n ≤ 6) {K2 : Nat} {ys : List Nat} (fin : ∀ h, zUp h0 h → BX h b T ys → lT sc K2 (z13 n b n h) R) : ∀ m r h, r + m = n → zUp h0 h → BX h b T (RTX sc m r ys) → lT sc (m + K2) (z13 n b r h) R := by
  intro m
  induction m with
  | zero =>
    intro r h e u B
    have : r = n := by omega
    subst this
    rw [Nat.zero_add]; exact fin h u B
  | succ m ih =>
    intro r h e u B
    have f1 : (nI n ≤ nI r) = False := eq_false (nI_ge (by omega) (by omega))
    have r1 : nI r + (1 : Int32) = nI (r + 1) := nI_add r 1
    have wn := w_name (r := r) (by omega)
    have d1 : ∀ h, sL_draw sc [.ref 2000000, .int ((1 : Int32) + nI r), .int (2 : Int32)] h = some (.inl (some (.int (nI (dwN sc (1 + r) 2)))), h) := w_drawA (a := 1) (m := 2) hs (by omega) (by omega) (by omega)
    have d7 : ∀ h, sL_draw sc [.ref 2000000, .int ((7 : Int32) + nI r), .int (4 : Int32)] h = some (.inl (some (.int (nI (dwN sc (7 + r) 4)))), h) := w_drawA (a := 7) (m := 4) hs (by omega) (by omega) (by omega)
    have d13 : ∀ h, sL_draw sc [.ref 2000000, .int ((13 : Int32) + nI r), .int (2 : Int32)] h = some (.inl (some (.int (nI (dwN sc (13 + r) 2)))), h) := w_drawA (a := 13) (m := 2) hs (by omega) (by omega) (by omega)
    have d19 : ∀ h, sL_draw sc [.ref 2000000, .int ((19 : Int32) + nI r), .int (20 : Int32)] h = some (.inl (some (.int (nI (dwN sc (19 + r) 20)))), h) := w_drawA (a := 19) (m := 20) hs (by omega) (by omega) (by omega)
    have l1 := dwN_lt (sc := sc) (k := 1 + r) (n := 2) (by omega)
    have l7 := dwN_lt (sc := sc) (k := 7 + r) (n := 4) (by omega)
    have l13 := dwN_lt (sc := sc) (k := 13 + r) (n := 2) (by omega)
    have l19 := dwN_lt (sc := sc) (k := 19 + r) (n := 20) (by omega)
    have q1 := nI_eq0 (n := dwN sc (1 + r) 2) (by omega)
    have q13 := nI_eq0 (n := dwN sc (13 + r) 2) (by omega)
    have st41 : ∀ h, zUp h0 h → BX h b T (cp (lCo sc r) (59 :: RTX sc m (r + 1) ys)) → lT sc (m + 1 + K2) (zXX 41 n b r h) R := by
      intro h u B
      rw [show m + 1 + K2 = (m + K2) + 1 by omega]
      refine zTJ_of gL_load_41 ?_
      by_cases w : dwN sc (13 + r) 2 = 0
      · have w1 : (dwN sc (13 + r) 2 = 0) = True := eq_true w
        have ec : lCo sc r = some (dwN sc (19 + r) 20) := by unfold lCo; rw [if_pos w]
        rw [ec] at B
        have k0 := B.K
        obtain ⟨g1, s1, u1, B1⟩ := x_str (k := 2) (by omega) (show BX h b T (kn 2 ++ (dn (dwN sc (19 + r) 20) ++ (59 :: RTX sc m (r + 1) ys))) from B)
        have k1 := B1.K
        obtain ⟨g2, s2, u2, B2⟩ := x_num (by omega) B1
        have k2 := B2.K
        obtain ⟨g3, s3, u3, B3⟩ := x_str (k := 3) (by omega) (show BX g2 b T (kn 3 ++ RTX sc m (r + 1) ys) from B2)
        simp only [d13, q13, w1, k0, s1, d19, k1, s2, k2, s3, r1, zmp_s, zlt_s, zcV_s, zcI_s, zcJ_s, zcA_s, zcD_s, zcF_s, zth_n, zth_t, zrt_s, zQ_l, zQ_r, false_or, or_false, true_or, or_true, false_and, and_false, not_false_eq_true, not_true_eq_false, and_self, true_and, and_true, if_true, if_false, ite_true, ite_false, zgd_t]
        exact zQJ_b (hd := 13) rfl (ih (r + 1) g3 (by omega) (((u.tr u1).tr u2).tr u3) B3)
      · have w1 : (dwN sc (13 + r) 2 = 0) = False := eq_false w
        have ec : lCo sc r = none := by unfold lCo; rw [if_neg w]
        rw [ec] at B
        have k0 := B.K
        obtain ⟨g3, s3, u3, B3⟩ := x_str (k := 3) (by omega) (show BX h b T (kn 3 ++ RTX sc m (r + 1) ys) from B)
        simp only [d13, q13, w1, k0, s3, r1, zmp_s, zlt_s, zcV_s, zcI_s, zcJ_s, zcA_s, zcD_s, zcF_s, zth_n, zth_t, zrt_s, zQ_l, zQ_r, false_or, or_false, true_or, or_true, false_and, and_false, not_false_eq_true, not_true_eq_false, and_self, true_and, and_true, if_true, if_false, ite_true, ite_false, zgd_t]
        exact zQJ_b (hd := 13) rfl (ih (r + 1) g3 (by omega) (u.tr u3) B3)
    have k0 := B.K
    obtain ⟨g1, s1, u1, B1⟩ := x_str (k := 0) (by omega) (show BX h b T (kn 0 ++ ((97 + r) :: kp (lKo sc r) (cp (lCo sc r) (59 :: RTX sc m (r + 1) ys)))) from B)
    have k1 := B1.K
    obtain ⟨g2, s2, u2, B2⟩ := x_chr (by omega) B1
    have k2 := B2.K
    refine zTJ_of gL_load_13 ?_
    by_cases w : dwN sc (1 + r) 2 = 0
    · have w1 : (dwN sc (1 + r) 2 = 0) = True := eq_true w
      have ec : lKo sc r = some (dwN sc (7 + r) 4) := by unfold lKo; rw [if_pos w]
      rw [ec] at B2
      obtain ⟨g3, s3, u3, B3⟩ := x_str (k := 1) (by omega) (show BX g2 b T (kn 1 ++ (dn (dwN sc (7 + r) 4) ++ cp (lCo sc r) (59 :: RTX sc m (r + 1) ys))) from B2)
      have k3 := B3.K
      obtain ⟨g4, s4, u4, B4⟩ := x_num (by omega) B3
      simp only [f1, k0, s1, wn, k1, s2, d1, q1, w1, k2, s3, d7, k3, s4, zmp_s, zlt_s, zcV_s, zcI_s, zcJ_s, zcA_s, zcD_s, zcF_s, zth_n, zth_t, zrt_s, zQ_l, zQ_r, false_or, or_false, true_or, or_true, false_and, and_false, not_false_eq_true, not_true_eq_false, and_self, true_and, and_true, if_true, if_false, ite_true, ite_false, zgd_t]
      exact zQJ_l rfl (st41 g4 ((((u.tr u1).tr u2).tr u3).tr u4) B4)
    · have w1 : (dwN sc (1 + r) 2 = 0) = False := eq_false w
      have ec : lKo sc r = none := by unfold lKo; rw [if_neg w]
      rw [ec] at B2
      simp only [f1, k0, s1, wn, k1, s2, d1, q1, w1, zmp_s, zlt_s, zcV_s, zcI_s, zcJ_s, zcA_s, zcD_s, zcF_s, zth_n, zth_t, zrt_s, zQ_l, zQ_r, false_or, or_false, true_or, or_true, false_and, and_false, not_false_eq_true, not_true_eq_false, and_self, true_and, and_true, if_true, if_false, ite_true, ite_false, zgd_t]
      exact zQJ_l rfl (st41 g2 ((u.tr u1).tr u2) B2)
theorem ld_doors (hs : sc.1 < 2 ^ 31) (hn : 0 < n) (h6 : n ≤ 6) {K3 my kt : Nat} (hmy : my ≤ 11) {ys : List Nat} (fin : ∀ h, zUp h0 h → BX h b T ys → lT sc K3 (zXX 165 n b kt h) R) : ∀ m d k h, d + m = my → k + lCt sc n m d = kt → zUp h0 h → BX h b T (DTX sc n m d ys) → lT sc (m + K3) (z79 n b k my d h) R := by
  intro m
  induction m with
  | zero =>
    intro d k h e ek u B
    have : d = my := by omega
    subst this
    have : k = kt := by have : lCt sc n 0 d = 0 := rfl; omega
    subst this
    rw [Nat.zero_add]
    refine zTJ_of gL_load_79 ?_
    have f1 : (nI d ≤ nI d) = True := eq_true (nI_le (Nat.le_refl d) (by omega))
    simp only [f1, zmp_s, zlt_s, zcV_s, zcI_s, zcJ_s, zcA_s, zcD_s, zcF_s, zth_n, zth_t, zrt_s, zQ_l, zQ_r, false_or, or_false, true_or, or_true, false_and, and_false, not_false_eq_true, not_true_eq_false, and_self, true_and, and_true, if_true, if_false, ite_true, ite_false, zgd_t]
    exact zQJ_l rfl (fin h u B)
  | succ m ih =>
    intro d k h e ek u B
    have f1 : (nI my ≤ nI d) = False := eq_false (nI_ge (by omega) (by omega))
    have r1 : nI d + (1 : Int32) = nI (d + 1) := nI_add d 1
    have k1' : nI k + (1 : Int32) = nI (k + 1) := nI_add k 1
    have d26 : ∀ h, sL_draw sc [.ref 2000000, .int ((26 : Int32) + nI d), .int (nI n)] h = some (.inl (some (.int (nI (lFr sc n d)))), h) := w_drawA (a := 26) (m := n) hs (by omega) (by omega) (by omega)
    have d38 : ∀ h, sL_draw sc [.ref 2000000, .int ((38 : Int32) + nI d), .int (nI n)] h = some (.inl (some (.int (nI (lTo sc n d)))), h) := w_drawA (a := 38) (m := n) hs (by omega) (by omega) (by omega)
    have d50 : ∀ h, sL_draw sc [.ref 2000000, .int ((50 : Int32) + nI d), .int (5 : Int32)] h = some (.inl (some (.int (nI (dwN sc (50 + d) 5)))), h) := w_drawA (a := 50) (m := 5) hs (by omega) (by omega) (by omega)
    have d62 : ∀ h, sL_draw sc [.ref 2000000, .int ((62 : Int32) + nI d), .int (4 : Int32)] h = some (.inl (some (.int (nI (dwN sc (62 + d) 4)))), h) := w_drawA (a := 62) (m := 4) hs (by omega) (by omega) (by omega)
    have d62b : ∀ h, sL_draw sc [.ref 2000000, .int ((62 : Int32) + nI d), .int (30 : Int32)] h = some (.inl (some (.int (nI (dwN sc (62 + d) 30)))), h) := w_drawA (a := 62) (m := 30) hs (by omega) (by omega) (by omega)
    have d74 : ∀ h, sL_draw sc [.ref 2000000, .int ((74 : Int32) + nI d), .int (4 : Int32)] h = some (.inl (some (.int (nI (dwN sc (74 + d) 4)))), h) := w_drawA (a := 74) (m := 4) hs (by omega) (by omega) (by omega)
    have lf : lFr sc n d < n := dwN_lt hn
    have lt : lTo sc n d < n := dwN_lt hn
    have l50 := dwN_lt (sc := sc) (k := 50 + d) (n := 5) (by omega)
    have l62 := dwN_lt (sc := sc) (k := 62 + d) (n := 4) (by omega)
    have l62b := dwN_lt (sc := sc) (k := 62 + d) (n := 30) (by omega)
    have l74 := dwN_lt (sc := sc) (k := 74 + d) (n := 4) (by omega)
    have eq1 := nI_is (a := lFr sc n d) (b := lTo sc n d) (by omega) (by omega)
    rw [show m + 1 + K3 = (m + K3) + 1 by omega]
    by_cases w : lFr sc n d = lTo sc n d
    · have w1 : (lFr sc n d = lTo sc n d) = True := eq_true w
      have e1 : DTX sc n (m + 1) d ys = DTX sc n m (d + 1) ys := by rw [DTX, if_pos w]
      have e2 : lCt sc n (m + 1) d = lCt sc n m (d + 1) := by rw [lCt, if_pos w, Nat.zero_add]
      rw [e1] at B
      rw [e2] at ek
      refine zTJ_of gL_load_79 ?_
      simp only [f1, d26, d38, eq1, w1, r1, zmp_s, zlt_s, zcV_s, zcI_s, zcJ_s, zcA_s, zcD_s, zcF_s, zth_n, zth_t, zrt_s, zQ_l, zQ_r, false_or, or_false, true_or, or_true, false_and, and_false, not_false_eq_true, not_true_eq_false, and_self, true_and, and_true, if_true, if_false, ite_true, ite_false, zgd_t]
      exact zQJ_b (hd := 79) rfl (ih (d + 1) k h (by omega) ek u B)
    · have w1 : (lFr sc n d = lTo sc n d) = False := eq_false w
      have e1 : DTX sc n (m + 1) d ys = dtx (lFr sc n d) (lTo sc n d) (lKd sc d) (lVd sc d) (lOw sc d) (DTX sc n m (d + 1) ys) := by rw [DTX, if_neg w]
      have e2 : lCt sc n (m + 1) d = 1 + lCt sc n m (d + 1) := by rw [lCt, if_neg w]
      rw [e1] at B
      rw [e2] at ek
      -- the end of a door
      have st147 : ∀ h, zUp h0 h → BX h b T (owp (lOw sc d) (59 :: DTX sc n m (d + 1) ys)) → lT sc (m + K3 + 1) (147, [some (.ref 0), some (.ref 2000000), some (.int (nI n)), some (.ref b), some (.int (nI k)), some (.int (nI my)), some (.int (nI d)), none, none, none], [], h) R := by
        intro h u B
        refine zTJ_of gL_load_147 ?_
        have q74 := nI_eq0 (n := dwN sc (74 + d) 4) (by omega)
        have k0 := B.K
        by_cases v : dwN sc (74 + d) 4 = 0
        · have v1 : (dwN sc (74 + d) 4 = 0) = True := eq_true v
          have eo : lOw sc d = 1 := by unfold lOw; rw [if_pos v]
          rw [eo] at B
          obtain ⟨g1, s1, u1, B1⟩ := x_str (k := 7) (by omega) (show BX h b T (kn 7 ++ (59 :: DTX sc n m (d + 1) ys)) from B)
          have k1 := B1.K
          obtain ⟨g2, s2, u2, B2⟩ := x_str (k := 3) (by omega) (show BX g1 b T (kn 3 ++ DTX sc n m (d + 1) ys) from B1)
          simp only [d74, q74, v1, k0, s1, k1, s2, k1', r1, zmp_s, zlt_s, zcV_s, zcI_s, zcJ_s, zcA_s, zcD_s, zcF_s, zth_n, zth_t, zrt_s, zQ_l, zQ_r, false_or, or_false, true_or, or_true, false_and, and_false, not_false_eq_true, not_true_eq_false, and_self, true_and, and_true, if_true, if_false, ite_true, ite_false, zgd_t]
          exact zQJ_b (hd := 79) rfl (ih (d + 1) (k + 1) g2 (by omega) (by omega) ((u.tr u1).tr u2) B2)
        · have v1 : (dwN sc (74 + d) 4 = 0) = False := eq_false v
          have eo : lOw sc d = 0 := by unfold lOw; rw [if_neg v]
          rw [eo] at B
          obtain ⟨g2, s2, u2, B2⟩ := x_str (k := 3) (by omega) (show BX h b T (kn 3 ++ DTX sc n m (d + 1) ys) from B)
          simp only [d74, q74, v1, k0, s2, k1', r1, zmp_s, zlt_s, zcV_s, zcI_s, zcJ_s, zcA_s, zcD_s, zcF_s, zth_n, zth_t, zrt_s, zQ_l, zQ_r, false_or, or_false, true_or, or_true, false_and, and_false, not_false_eq_true, not_true_eq_false, and_self, true_and, and_true, if_true, if_false, ite_true, ite_false, zgd_t]
          exact zQJ_b (hd := 79) rfl (ih (d + 1) (k + 1) g2 (by omega) (by omega) (u.tr u2) B2)
      -- its lock
      have st119 : ∀ h, zUp h0 h → BX h b T (lkp (lKd sc d) (lVd sc d) (owp (lOw sc d) (59 :: DTX sc n m (d + 1) ys))) → lT sc (m + K3 + 1) (119, [some (.ref 0), some (.ref 2000000), some (.int (nI n)), some (.ref b), some (.int (nI k)), some (.int (nI my)), some (.int (nI d)), none, none, some (.int (nI (dwN sc (50 + d) 5)))], [], h) R := by
        intro h u B
        refine zTJ_of gL_load_119 ?_
        have q1 : (nI (dwN sc (50 + d) 5) = (1 : Int32)) = (dwN sc (50 + d) 5 = 1) := nI_is (b := 1) (by omega) (by omega)
        have q2 : (nI (dwN sc (50 + d) 5) = (2 : Int32)) = (dwN sc (50 + d) 5 = 2) := nI_is (b := 2) (by omega) (by omega)
        have k0 := B.K
        by_cases v : dwN sc (50 + d) 5 = 1
        · have v1 : (dwN sc (50 + d) 5 = 1) = True := eq_true v
          have v2 : (dwN sc (50 + d) 5 = 2) = False := eq_false (by omega)
          have e1 : lKd sc d = 1 := by unfold lKd; rw [if_pos v]
          have e2 : lVd sc d = dwN sc (62 + d) 4 := by unfold lVd; rw [if_pos v]
          rw [e1, e2] at B
          obtain ⟨g1, s1, u1, B1⟩ := x_str (k := 1) (by omega) (show BX h b T (kn 1 ++ (dn (dwN sc (62 + d) 4) ++ owp (lOw sc d) (59 :: DTX sc n m (d + 1) ys))) from B)
          have k1 := B1.K
          obtain ⟨g2, s2, u2, B2⟩ := x_num (by omega) B1
          simp only [q1, v1, k0, s1, d62, k1, s2, q2, v2, zmp_s, zlt_s, zcV_s, zcI_s, zcJ_s, zcA_s, zcD_s, zcF_s, zth_n, zth_t, zrt_s, zQ_l, zQ_r, false_or, or_false, true_or, or_true, false_and, and_false, not_false_eq_true, not_true_eq_false, and_self, true_and, and_true, if_true, if_false, ite_true, ite_false, zgd_t]
          exact zQJ_l rfl (st147 g2 ((u.tr u1).tr u2) B2)
        · have v1 : (dwN sc (50 + d) 5 = 1) = False := eq_false v
          by_cases v' : dwN sc (50 + d) 5 = 2
          · have v2 : (dwN sc (50 + d) 5 = 2) = True := eq_true v'
            have e1 : lKd sc d = 2 := by unfold lKd; rw [if_neg v, if_pos v']
            have e2 : lVd sc d = dwN sc (62 + d) 30 := by unfold lVd; rw [if_neg v, if_pos v']
            rw [e1, e2] at B
            obtain ⟨g1, s1, u1, B1⟩ := x_str (k := 6) (by omega) (show BX h b T (kn 6 ++ (dn (dwN sc (62 + d) 30) ++ owp (lOw sc d) (59 :: DTX sc n m (d + 1) ys))) from B)
            have k1 := B1.K
            obtain ⟨g2, s2, u2, B2⟩ := x_num (by omega) B1
            simp only [q1, v1, q2, v2, k0, s1, d62b, k1, s2, zmp_s, zlt_s, zcV_s, zcI_s, zcJ_s, zcA_s, zcD_s, zcF_s, zth_n, zth_t, zrt_s, zQ_l, zQ_r, false_or, or_false, true_or, or_true, false_and, and_false, not_false_eq_true, not_true_eq_false, and_self, true_and, and_true, if_true, if_false, ite_true, ite_false, zgd_t]
            exact zQJ_l rfl (st147 g2 ((u.tr u1).tr u2) B2)
          · have v2 : (dwN sc (50 + d) 5 = 2) = False := eq_false v'
            have e1 : lKd sc d = 0 := by unfold lKd; rw [if_neg v, if_neg v']
            rw [e1] at B
            simp only [q1, v1, q2, v2, zmp_s, zlt_s, zcV_s, zcI_s, zcJ_s, zcA_s, zcD_s, zcF_s, zth_n, zth_t, zrt_s, zQ_l, zQ_r, false_or, or_false, true_or, or_true, false_and, and_false, not_false_eq_true, not_true_eq_false, and_self, true_and, and_true, if_true, if_false, ite_true, ite_false, zgd_t]
            exact zQJ_l rfl (st147 h u B)
      refine zTJ_of gL_load_79 ?_
      simp only [f1, d26, d38, eq1, w1, zmp_s, zlt_s, zcV_s, zcI_s, zcJ_s, zcA_s, zcD_s, zcF_s, zth_n, zth_t, zrt_s, zQ_l, zQ_r, false_or, or_false, true_or, or_true, false_and, and_false, not_false_eq_true, not_true_eq_false, and_self, true_and, and_true, if_true, if_false, ite_true, ite_false, zgd_t]
      refine zQJ_l rfl (zTJ_of gL_load_100 ?_)
      have wf := w_name (r := lFr sc n d) (by omega)
      have wt := w_name (r := lTo sc n d) (by omega)
      have k0 := B.K
      obtain ⟨g1, s1, u1, B1⟩ := x_str (k := 4) (by omega) (show BX h b T (kn 4 ++ ((97 + lFr sc n d) :: 32 :: 114 :: (97 + lTo sc n d) :: lkp (lKd sc d) (lVd sc d) (owp (lOw sc d) (59 :: DTX sc n m (d + 1) ys)))) from B)
      have k1 := B1.K
      obtain ⟨g2, s2, u2, B2⟩ := x_chr (by omega) B1
      have k2 := B2.K
      obtain ⟨g3, s3, u3, B3⟩ := x_str (k := 5) (by omega) (show BX g2 b T (kn 5 ++ ((97 + lTo sc n d) :: lkp (lKd sc d) (lVd sc d) (owp (lOw sc d) (59 :: DTX sc n m (d + 1) ys)))) from B2)
      have k3 := B3.K
      obtain ⟨g4, s4, u4, B4⟩ := x_chr (by omega) B3
      simp only [k0, s1, wf, k1, s2, k2, s3, wt, k3, s4, d50, zmp_s, zlt_s, zcV_s, zcI_s, zcJ_s, zcA_s, zcD_s, zcF_s, zth_n, zth_t, zrt_s, zQ_l, zQ_r, false_or, or_false, true_or, or_true, false_and, and_false, not_false_eq_true, not_true_eq_false, and_self, true_and, and_true, if_true, if_false, ite_true, ite_false, zgd_t]
      exact zQJ_l rfl (st119 g4 ((((u.tr u1).tr u2).tr u3).tr u4) B4)
theorem ld_start (hs : sc.1 < 2 ^ 31) (hn : 0 < n) (h6 : n ≤ 6) {K kt : Nat} (fin : ∀ h, zUp h0 h → BX h b T [] → lT sc K (zXX 199 n b kt h) R) : ∀ h, zUp h0 h → BX h b T (STX sc n) → lT sc K (zXX 165 n b kt h) R := by
  have st182 : ∀ h, zUp h0 h → BX h b T (ETX sc n) → lT sc K (zXX 182 n b kt h) R := by
    intro h u B
    have d88 : ∀ h, sL_draw sc [.ref 2000000, .int (88 : Int32), .int (4 : Int32)] h = some (.inl (some (.int (nI (dwN sc 88 4)))), h) := fun h => w_draw (k := 88) (n := 4) h hs (by omega) (by omega) (by omega)
    have d89 : ∀ h, sL_draw sc [.ref 2000000, .int (89 : Int32), .int (nI n)] h = some (.inl (some (.int (nI (dwN sc 89 n)))), h) := fun h => w_draw (k := 89) (n := n) h hs (by omega) (by omega) (by omega)
    have l88 := dwN_lt (sc := sc) (k := 88) (n := 4) (by omega)
    have l89 := dwN_lt (sc := sc) (k := 89) hn
    have q := nI_eq0 (n := dwN sc 88 4) (by omega)
    have wn := w_name (r := dwN sc 89 n) (by omega)
    have k0 := B.K
    refine zTJ_of gL_load_182 ?_
    by_cases v : dwN sc 88 4 = 0
    · have v1 : (dwN sc 88 4 = 0) = True := eq_true v
      have e : ETX sc n = etx (dwN sc 89 n) [] := by unfold ETX; rw [if_pos v]
      rw [e] at B
      obtain ⟨g1, s1, u1, B1⟩ := x_str (k := 9) (by omega) (show BX h b T (kn 9 ++ ((97 + dwN sc 89 n) :: 59 :: [])) from B)
      have k1 := B1.K
      obtain ⟨g2, s2, u2, B2⟩ := x_chr (by omega) B1
      have k2 := B2.K
      obtain ⟨g3, s3, u3, B3⟩ := x_str (k := 3) (by omega) (show BX g2 b T (kn 3 ++ []) from B2)
      simp only [d88, q, v1, k0, s1, d89, wn, k1, s2, k2, s3, zmp_s, zlt_s, zcV_s, zcI_s, zcJ_s, zcA_s, zcD_s, zcF_s, zth_n, zth_t, zrt_s, zQ_l, zQ_r, false_or, or_false, true_or, or_true, false_and, and_false, not_false_eq_true, not_true_eq_false, and_self, true_and, and_true, if_true, if_false, ite_true, ite_false, zgd_t]
      exact zQJ_l rfl (fin g3 (((u.tr u1).tr u2).tr u3) B3)
    · have v1 : (dwN sc 88 4 = 0) = False := eq_false v
      have e : ETX sc n = [] := by unfold ETX; rw [if_neg v]
      rw [e] at B
      simp only [d88, q, v1, zmp_s, zlt_s, zcV_s, zcI_s, zcJ_s, zcA_s, zcD_s, zcF_s, zth_n, zth_t, zrt_s, zQ_l, zQ_r, false_or, or_false, true_or, or_true, false_and, and_false, not_false_eq_true, not_true_eq_false, and_self, true_and, and_true, if_true, if_false, ite_true, ite_false, zgd_t]
      exact zQJ_l rfl (fin h u B)
  intro h u B
  have d86 : ∀ h, sL_draw sc [.ref 2000000, .int (86 : Int32), .int (3 : Int32)] h = some (.inl (some (.int (nI (dwN sc 86 3)))), h) := fun h => w_draw (k := 86) (n := 3) h hs (by omega) (by omega) (by omega)
  have d87 : ∀ h, sL_draw sc [.ref 2000000, .int (87 : Int32), .int (nI n)] h = some (.inl (some (.int (nI (dwN sc 87 n)))), h) := fun h => w_draw (k := 87) (n := n) h hs (by omega) (by omega) (by omega)
  have l86 := dwN_lt (sc := sc) (k := 86) (n := 3) (by omega)
  have l87 := dwN_lt (sc := sc) (k := 87) hn
  have q := nI_eq0 (n := dwN sc 86 3) (by omega)
  have wn := w_name (r := dwN sc 87 n) (by omega)
  have k0 := B.K
  refine zTJ_of gL_load_165 ?_
  by_cases v : dwN sc 86 3 = 0
  · have v1 : (dwN sc 86 3 = 0) = True := eq_true v
    have e : STX sc n = stx (dwN sc 87 n) (ETX sc n) := by unfold STX; rw [if_pos v]
    rw [e] at B
    obtain ⟨g1, s1, u1, B1⟩ := x_str (k := 8) (by omega) (show BX h b T (kn 8 ++ ((97 + dwN sc 87 n) :: 59 :: ETX sc n)) from B)
    have k1 := B1.K
    obtain ⟨g2, s2, u2, B2⟩ := x_chr (by omega) B1
    have k2 := B2.K
    obtain ⟨g3, s3, u3, B3⟩ := x_str (k := 3) (by omega) (show BX g2 b T (kn 3 ++ ETX sc n) from B2)
    simp only [d86, q, v1, k0, s1, d87, wn, k1, s2, k2, s3, zmp_s, zlt_s, zcV_s, zcI_s, zcJ_s, zcA_s, zcD_s, zcF_s, zth_n, zth_t, zrt_s, zQ_l, zQ_r, false_or, or_false, true_or, or_true, false_and, and_false, not_false_eq_true, not_true_eq_false, and_self, true_and, and_true, if_true, if_false, ite_true, ite_false, zgd_t]
    exact zQJ_l rfl (st182 g3 (((u.tr u1).tr u2).tr u3) B3)
  · have v1 : (dwN sc 86 3 = 0) = False := eq_false v
    have e : STX sc n = ETX sc n := by unfold STX; rw [if_neg v]
    rw [e] at B
    simp only [d86, q, v1, zmp_s, zlt_s, zcV_s, zcI_s, zcJ_s, zcA_s, zcD_s, zcF_s, zth_n, zth_t, zrt_s, zQ_l, zQ_r, false_or, or_false, true_or, or_true, false_and, and_false, not_false_eq_true, not_true_eq_false, and_self, true_and, and_true, if_true, if_false, ite_true, ite_false, zgd_t]
    exact zQJ_l rfl (st182 h u B)
def LR (g : zm_H) : Prop := ∃ N P, CI g N ∧ HH g P ∧ N 0 ≤ 6
theorem ld_tell (hs : sc.1 < 2 ^ 31) (hn : 0 < n) (h6 : n ≤ 6) {K : Nat} {N : zLv} {P : List zLv} (c : CI h0 N) (H : HH h0 P) (B0 : BL h0 1 2 500 []) : ∀ h, zUp h0 h → BX h b ((LTX sc n).map nI) [] → lT sc K (zXX 199 n b (lCt sc n (lMy sc n) 0) h) (fun y => ∃ g, y = (.inl (some (.int 1)), g) ∧ LR g) := by
  intro h u B
  have k0 := B.K
  obtain ⟨A, S, eA, lA⟩ := B
  obtain ⟨T, hT⟩ : ∃ T, T = (LTX sc n).map nI := ⟨_, rfl⟩
  rw [List.map_nil, List.append_nil, ← hT] at eA
  subst eA
  rw [← hT] at lA
  obtain ⟨M, eM, lM, m2, m3⟩ := p_text (sc := sc) hn h6
  rw [← hT] at eM
  have a128 := L_LTX (sc := sc) hn h6
  have tl : A.length = (LTX sc n).length := by rw [hT, List.length_map]
  have A7' : A7 A := by
    intro i hi
    rw [tl] at hi
    refine ⟨(LTX sc n)[i], a128 _ (List.getElem_mem hi), ?_⟩
    rw [hT, List.getD_eq_getElem?_getD, List.getElem?_map, List.getElem?_eq_getElem hi]; rfl
  have BY' : BY A := by
    intro i hi
    obtain ⟨v, hv, e⟩ := A7' i hi
    exact ⟨v, by omega, e⟩
  have t0 : 0 < A.length := by
    rw [tl]
    obtain ⟨m, rfl⟩ : ∃ m, n = m + 1 := ⟨n - 1, by omega⟩
    show 0 < (rtx _ _ _ _).length
    unfold rtx
    simp only [List.length_cons]; omega
  have hN := S.2
  obtain ⟨g, s, q, e1, u1, ST, kq, s1, q1, s2, q2, n2⟩ := b_text S (by omega) (by omega) (fun i hi => by
    obtain ⟨v, hv, e⟩ := A7' i hi
    rw [e]; exact b8_fit v hv)
  have ug := u.tr u1
  have s9 : s < 900000 := Nat.lt_trans s2 (by omega)
  have q9 : q < 900000 := Nat.lt_trans q2 (by omega)
  obtain ⟨g2, e2, fr2, c2, B2⟩ := w_feed (CI_up ug c) ST kq ⟨s1, s9⟩ ⟨q1, q9⟩ A7' t0 (by omega) (BL_up ug (by omega) (by omega) B0)
  have H2 := HH_fr fr2 (fun c h1 h2 => by omega) (HH_up ug H)
  obtain ⟨k, g3, u3, n3, fr3, B3, r⟩ := m_load c2 H2 B2 BY' (by rw [fr2.1]; omega) (by rw [fr2.1]; omega)
  rcases r with ⟨er, ee, -⟩ | ⟨M2, ee, e3, c3, H3, i10', -⟩
  · rw [eM] at ee; cases ee
  · rw [eM] at ee
    injection ee with ee
    subst ee
    obtain ⟨M0, M1, M4, nm⟩ := lM
    have x0 : fW M 0 = n := by rw [fW_ne (by omega)]; exact M0
    have x1 : fW M 1 = lCt sc n (lMy sc n) 0 := by rw [fW_ne (by omega)]; exact M1
    have x2 : fW M 2 = if dwN sc 86 3 = 0 then dwN sc 87 n else 0 := by rw [fW_ne (by omega)]; exact m2
    have x3 : fW M 3 = if dwN sc 88 4 = 0 then dwN sc 89 n + 1 else 0 := by rw [fW_ne (by omega)]; exact m3
    have x4 : fW M 4 = 1 := by rw [fW_ne (by omega)]; exact M4
    have ec := m_errorCode c3
    rw [i10'] at ec
    have p0 := w_p0 c3
    have p1 := w_p1 c3
    have p2 := w_p2 c3
    have p3 := w_p3 c3
    have p4 := w_p4 c3
    rw [x0] at p0
    rw [x1] at p1
    rw [x4] at p4
    have q02 := c2.1.1
    have q03 := c3.1.1
    have i00 : ((0 : Int32) = 0) = True := eq_true rfl
    have i11 : (nI 1 = (1 : Int32)) = True := eq_true rfl
    have rf : ∀ x : Int32, (x = x) = True := fun x => eq_true rfl
    have d86 : ∀ h, sL_draw sc [.ref 2000000, .int (86 : Int32), .int (3 : Int32)] h = some (.inl (some (.int (nI (dwN sc 86 3)))), h) := fun h => w_draw (k := 86) (n := 3) h hs (by omega) (by omega) (by omega)
    have d87 : ∀ h, sL_draw sc [.ref 2000000, .int (87 : Int32), .int (nI n)] h = some (.inl (some (.int (nI (dwN sc 87 n)))), h) := fun h => w_draw (k := 87) (n := n) h hs (by omega) (by omega) (by omega)
    have d88 : ∀ h, sL_draw sc [.ref 2000000, .int (88 : Int32), .int (4 : Int32)] h = some (.inl (some (.int (nI (dwN sc 88 4)))), h) := fun h => w_draw (k := 88) (n := 4) h hs (by omega) (by omega) (by omega)
    have d89 : ∀ h, sL_draw sc [.ref 2000000, .int (89 : Int32), .int (nI n)] h = some (.inl (some (.int (nI (dwN sc 89 n)))), h) := fun h => w_draw (k := 89) (n := n) h hs (by omega) (by omega) (by omega)
    have l86 := dwN_lt (sc := sc) (k := 86) (n := 3) (by omega)
    have l88 := dwN_lt (sc := sc) (k := 88) (n := 4) (by omega)
    have q86 := nI_eq0 (n := dwN sc 86 3) (by omega)
    have q88 := nI_eq0 (n := dwN sc 88 4) (by omega)
    rw [M0] at e3
    have st234 : ∀ w, lT sc K (234, [some (.ref 0), some (.ref 2000000), some (.int (nI n)), none, none, none, none, none, none, none], [.int w, .int w], g3) (fun y => ∃ g, y = (.inl (some (.int 1)), g) ∧ LR g) := by
      intro w
      refine zTJ_of gL_load_234 ?_
      by_cases v : dwN sc 88 4 = 0
      · have v1 : (dwN sc 88 4 = 0) = True := eq_true v
        rw [if_pos v] at x3
        rw [x3, eI_s] at p3
        simp only [rf, q03, p3, d88, q88, v1, d89, p4, i11, zmp_s, zlt_s, zcV_s, zcI_s, zcJ_s, zcA_s, zcD_s, zcF_s, zth_n, zth_t, zrt_s, zQ_l, zQ_r, false_or, or_false, true_or, or_true, false_and, and_false, not_false_eq_true, not_true_eq_false, and_self, true_and, and_true, if_true, if_false, ite_true, ite_false, zgd_t]
        exact ⟨g3, rfl, fW M, pst N P, c3, H3, by omega⟩
      · have v1 : (dwN sc 88 4 = 0) = False := eq_false v
        rw [if_neg v] at x3
        rw [x3, eI_0] at p3
        simp only [rf, q03, p3, d88, q88, v1, p4, i11, zmp_s, zlt_s, zcV_s, zcI_s, zcJ_s, zcA_s, zcD_s, zcF_s, zth_n, zth_t, zrt_s, zQ_l, zQ_r, false_or, or_false, true_or, or_true, false_and, and_false, not_false_eq_true, not_true_eq_false, and_self, true_and, and_true, if_true, if_false, ite_true, ite_false, zgd_t]
        exact ⟨g3, rfl, fW M, pst N P, c3, H3, by omega⟩
    refine zTJ_of gL_load_199 ?_
    by_cases v : dwN sc 86 3 = 0
    · have v1 : (dwN sc 86 3 = 0) = True := eq_true v
      rw [if_pos v] at x2
      rw [x2] at p2
      simp only [k0, e1, e2, q02, e3, rf, q03, ec, i00, p0, p1, p2, d86, q86, v1, d87, zmp_s, zlt_s, zcV_s, zcI_s, zcJ_s, zcA_s, zcD_s, zcF_s, zth_n, zth_t, zrt_s, zQ_l, zQ_r, false_or, or_false, true_or, or_true, false_and, and_false, not_false_eq_true, not_true_eq_false, and_self, true_and, and_true, if_true, if_false, ite_true, ite_false, zgd_t]
      exact zQJ_l rfl (st234 _)
    · have v1 : (dwN sc 86 3 = 0) = False := eq_false v
      rw [if_neg v] at x2
      rw [x2] at p2
      simp only [k0, e1, e2, q02, e3, rf, q03, ec, i00, p0, p1, p2, d86, q86, v1, zmp_s, zlt_s, zcV_s, zcI_s, zcJ_s, zcA_s, zcD_s, zcF_s, zth_n, zth_t, zrt_s, zQ_l, zQ_r, false_or, or_false, true_or, or_true, false_and, and_false, not_false_eq_true, not_true_eq_false, and_self, true_and, and_true, if_true, if_false, ite_true, ite_false, zgd_t]
      exact zQJ_l rfl (st234 _)
theorem w_load {h : zm_H} {N : zLv} {P : List zLv} (hs : sc.1 < 2 ^ 31) (c : CI h N) (H : HH h P) (B : BL h 1 2 500 []) (hN : zN h = 125) : ∃ g, sL_load sc [.ref 0, .ref 2000000] h = some (.inl (some (.int 1)), g) ∧ LR g := by
  obtain ⟨n, hn⟩ : ∃ n, n = 1 + dwN sc 0 6 := ⟨_, rfl⟩
  have l0 := dwN_lt (sc := sc) (k := 0) (n := 6) (by omega)
  have n0 : 0 < n := by omega
  have h6 : n ≤ 6 := by omega
  obtain ⟨g0, e0, u0, S0⟩ := b_new (h := h) (by omega) (by omega)
  have my := lMy_lt (sc := sc) (n := n)
  have B0 : BX g0 125 ((LTX sc n).map nI) (LTX sc n) := ⟨[], by rw [hN] at S0; exact S0, rfl, by rw [List.length_map]; exact LTX_len h6⟩
  have d0 : ∀ h, sL_draw sc [.ref 2000000, .int (0 : Int32), .int (6 : Int32)] h = some (.inl (some (.int (nI (dwN sc 0 6)))), h) := fun h => w_draw (k := 0) (n := 6) h hs (by omega) (by omega) (by omega)
  have d25 : ∀ h, sL_draw sc [.ref 2000000, .int (25 : Int32), .int (12 : Int32)] h = some (.inl (some (.int (nI (dwN sc 25 12)))), h) := fun h => w_draw (k := 25) (n := 12) h hs (by omega) (by omega) (by omega)
  have n1 : (1 : Int32) + nI (dwN sc 0 6) = nI n := by rw [hn]; exact nI_add 1 _
  rw [hN] at e0
  have t : lT sc 17 (0, zlok 10 [.ref 0, .ref 2000000], [], h) (fun y => ∃ g, y = (.inl (some (.int 1)), g) ∧ LR g) := by
    refine zTJ_of gL_load_0 ?_
    simp only [d0, hN, show 125 < 900000 by omega, e0, n1, zmp_s, zlt_s, zcV_s, zcI_s, zcJ_s, zcA_s, zcD_s, zcF_s, zth_n, zth_t, zrt_s, zQ_l, zQ_r, false_or, or_false, true_or, or_true, false_and, and_false, not_false_eq_true, not_true_eq_false, and_self, true_and, and_true, if_true, if_false, ite_true, ite_false, zgd_t]
    refine zQJ_l rfl ?_
    have r := ld_rooms (R := fun y => ∃ g, y = (.inl (some (.int 1)), g) ∧ LR g) (sc := sc) (n := n) (b := 125) (T := (LTX sc n).map nI) (h0 := h) (K2 := 17 - n) (ys := DTX sc n (lMy sc n) 0 (STX sc n)) hs h6 (fun h1 u1 B1 => by
      have dd := ld_doors (R := fun y => ∃ g, y = (.inl (some (.int 1)), g) ∧ LR g) (sc := sc) (n := n) (b := 125) (T := (LTX sc n).map nI) (h0 := h) (K3 := 17 - n - lMy sc n) (my := lMy sc n) (kt := lCt sc n (lMy sc n) 0) (ys := STX sc n) hs n0 h6 my (ld_start hs n0 h6 (ld_tell hs n0 h6 c H B)) (lMy sc n) 0 0 h1 (by omega) (by omega) u1 B1
      rw [show lMy sc n + (17 - n - lMy sc n) = 17 - n by omega] at dd
      refine zTJ_of gL_load_13 ?_
      have f1 : (nI n ≤ nI n) = True := eq_true (nI_le (Nat.le_refl n) (by omega))
      have qn : (nI n = (1 : Int32)) = (n = 1) := nI_is (b := 1) (by omega) (by omega)
      by_cases w : n = 1
      · have w1 : (n = 1) = True := eq_true w
        have em : lMy sc n = 0 := by unfold lMy; rw [if_pos w]
        rw [em] at dd
        simp only [f1, qn, w1, zmp_s, zlt_s, zcV_s, zcI_s, zcJ_s, zcA_s, zcD_s, zcF_s, zth_n, zth_t, zrt_s, zQ_l, zQ_r, false_or, or_false, true_or, or_true, false_and, and_false, not_false_eq_true, not_true_eq_false, and_self, true_and, and_true, if_true, if_false, ite_true, ite_false, zgd_t]
        exact zQJ_l rfl dd
      · have w1 : (n = 1) = False := eq_false w
        have em : lMy sc n = dwN sc 25 12 := by unfold lMy; rw [if_neg w]
        rw [em] at dd
        simp only [f1, qn, w1, d25, zmp_s, zlt_s, zcV_s, zcI_s, zcJ_s, zcA_s, zcD_s, zcF_s, zth_n, zth_t, zrt_s, zQ_l, zQ_r, false_or, or_false, true_or, or_true, false_and, and_false, not_false_eq_true, not_true_eq_false, and_self, true_and, and_true, if_true, if_false, ite_true, ite_false, zgd_t]
        exact zQJ_l rfl dd) n 0 g0 (by omega) u0 B0
    rw [show n + (17 - n) = 17 by omega] at r
    exact r
  obtain ⟨o, r, g, rfl, L⟩ := t
  exact ⟨g, zsemJ_of (Nat.le_of_ble_eq_true rfl) r, L⟩
end
end ZLE
