/-! THE LAW: the sums. -/
section ZLU
section
variable {h : zm_H} {N : zLv}
theorem zsu_ge {f : Nat → Nat} {n k : Nat} (hk : k < n) : f k ≤ zsu f n := by
  induction n with
  | zero => omega
  | succ n ih =>
    rw [zsu_s]
    by_cases e : k = n
    · subst e; omega
    · have := ih (by omega); omega
theorem nTt_lt (hF : WF N) {r : Nat} (hr : r < N 0) (hm : nme N r = true) : nTt N r < 2 ^ 40 := by
  have a := zsu_ge (f := fun r => if nme N r = true then nTt N r else 0) hr
  rw [ends_sum hF] at a
  have a : (if nme N r = true then nTt N r else 0) ≤ nTo N := a
  rw [if_pos hm] at a
  have := nTo_lt hF
  omega
abbrev z50 (N : zLv) (s e r : Nat) (h : zm_H) : zm_T := (50, [some (.ref 0), some (.int (nI (N 0))), some (.long (lN (nTo N))), none, some (.long (lN s)), none, some (.int (nI e)), some (.int (nI r)), none, none, none, none], [], h)
def fEn (N : zLv) (r : Nat) : Nat := if nme N r = true then nTt N r else 0
def fEm (N : zLv) (r : Nat) : Bool := decide (0 < nTt N r) && nme N r
theorem w_sums (c : CI h N) (h6 : N 0 ≤ 6) : ∃ g, sL_sums [.ref 0] h = some (.inl (some (.int 1)), g) ∧ CQ N h g := by
  have hF := c.2.2.1
  have hW := hF.1
  have n11 := hW.1
  have n2 := hF.2.2.1
  have n3 := hF.2.2.2.1
  have q0 := c.1.1
  have pw := pow_le n11
  have to40 := nTo_lt hF
  have rl : ∀ x, (lg_cmp (lN x) (lN x) = 0) = True := fun x => by rw [lg0]; exact eq_true rfl
  have rf : ∀ x : Int32, (x = x) = True := fun x => eq_true rfl
  have l00 : (0 : Int64) = lN 0 := by decide +kernel
  have r0 : ((0 : Int32) = 0) = True := eq_true rfl
  have i1 := i10
  have i01 : ((0 : Int32) = 1) = False := eq_false (by decide)
  have lgt := lgle (x := nTo N) (by omega)
  have zt : (zb true = 0) = False := eq_false (by decide)
  have zf : (zb false = 0) = True := eq_true rfl
  have zt1 : (zb true = (1 : Int32)) = True := eq_true rfl
  -- at the end
  have fin : ∀ g, CQ N h g → zTo vL_sums rL_sums (z50 N (zsu (fEn N) (N 0)) (nmask (fEm N) (N 0)) (N 0) g) (fun y => ∃ g, y = (.inl (some (.int 1)), g) ∧ CQ N h g) := by
    intro g Q
    have c' := c.go Q
    obtain ⟨g1, x1, Q1, -⟩ := m_endings c'
    have c1 := c'.go Q1
    obtain ⟨g2, x2, Q2⟩ := m_wrong c1
    have QQ := (Q.tr Q1).tr Q2
    have f1 : (nI (N 0) ≤ nI (N 0)) = True := eq_true (nI_le (Nat.le_refl _) (by omega))
    have es : zsu (fEn N) (N 0) = nTo N := ends_sum hF
    have x1' : sX5_endings [.ref 0] g = some (.inl (some (.int (nI (nmask (fEm N) (N 0))))), g1) := x1
    have wp := wr_pos hF
    refine zTo_of gL_sums_50 ?_
    by_cases w : nTo N = 0
    · have w1 : (nTo N = 0) = True := eq_true w
      have wn : (nWr N < 0) = True := eq_true (by
        have : ¬ 0 ≤ nWr N := by rw [wp]; omega
        exact Int32.not_le.mp this)
      simp only [f1, es, rl, c'.1.1, x1', rf, c1.1.1, x2, wn, lgt, w1, r0, zmp_s, zlt_s, zcV_s, zcI_s, zcJ_s, zcA_s, zcD_s, zcF_s, zth_n, zth_t, zrt_s, zQ_l, zQ_r, false_or, or_false, true_or, or_true, false_and, and_false, not_false_eq_true, not_true_eq_false, and_self, true_and, and_true, if_true, if_false, ite_true, ite_false, zgd_t]
      exact ⟨g2, rfl, QQ⟩
    · have w1 : (nTo N = 0) = False := eq_false w
      have wn : (nWr N < 0) = False := eq_false (by
        have : 0 ≤ nWr N := by rw [wp]; omega
        exact Int32.not_lt.mpr this)
      simp only [f1, es, rl, c'.1.1, x1', rf, c1.1.1, x2, wn, lgt, w1, zmp_s, zlt_s, zcV_s, zcI_s, zcJ_s, zcA_s, zcD_s, zcF_s, zth_n, zth_t, zrt_s, zQ_l, zQ_r, false_or, or_false, true_or, or_true, false_and, and_false, not_false_eq_true, not_true_eq_false, and_self, true_and, and_true, if_true, if_false, ite_true, ite_false, zgd_t]
      exact ⟨g2, rfl, QQ⟩
  -- at each room
  have key : ∀ m r g, r + m = N 0 → CQ N h g → zTo vL_sums rL_sums (z50 N (zsu (fEn N) r) (nmask (fEm N) r) r g) (fun y => ∃ g, y = (.inl (some (.int 1)), g) ∧ CQ N h g) := by
    intro m
    induction m with
    | zero =>
      intro r g e Q
      have : r = N 0 := by omega
      subst this
      exact fin g Q
    | succ m ih =>
      intro r g e Q
      have hr : r < N 0 := by omega
      obtain ⟨f1, -, -, f4⟩ := nI_for hr (show N 0 < 2 ^ 31 by omega)
      -- the pairs
      have s130 : ∀ j q s em g, q + j = r → CQ N h g → (∀ g, CQ N h g → zTo vL_sums rL_sums (z50 N s em (r + 1) g) (fun y => ∃ g, y = (.inl (some (.int 1)), g) ∧ CQ N h g)) → zTo vL_sums rL_sums (130, [some (.ref 0), some (.int (nI (N 0))), some (.long (lN (nTo N))), none, some (.long (lN s)), none, some (.int (nI em)), some (.int (nI r)), none, none, none, some (.int (nI q))], [], g) (fun y => ∃ g, y = (.inl (some (.int 1)), g) ∧ CQ N h g) := by
        intro j
        induction j with
        | zero =>
          intro q s em g e Q z
          have : q = r := by omega
          subst this
          have f2 : (nI q ≤ nI q) = True := eq_true (nI_le (Nat.le_refl _) (by omega))
          refine zTo_of gL_sums_130 ?_
          simp only [f2, f4, zmp_s, zlt_s, zcV_s, zcI_s, zcJ_s, zcA_s, zcD_s, zcF_s, zth_n, zth_t, zrt_s, zQ_l, zQ_r, false_or, or_false, true_or, or_true, false_and, and_false, not_false_eq_true, not_true_eq_false, and_self, true_and, and_true, if_true, if_false, ite_true, ite_false, zgd_t]
          exact z g Q
        | succ j ihj =>
          intro q s em g e Q z
          have c' := c.go Q
          have f2 : (nI r ≤ nI q) = False := eq_false (nI_ge (by omega) (by omega))
          have q1 : nI q + (1 : Int32) = nI (q + 1) := nI_add q 1
          obtain ⟨g1, x1, Q1⟩ := m_ahead c' hr (show q < N 0 by omega) (by omega)
          have c1 := c'.go Q1
          obtain ⟨g2, x2, Q2⟩ := m_ahead c1 (show q < N 0 by omega) hr (by omega)
          have sm := ahead_sum hF hr (show q < N 0 by omega) (by omega)
          refine zTo_of gL_sums_130 ?_
          simp only [f2, c'.1.1, x1, c1.1.1, x2, lN_add, sm, rl, q1, zmp_s, zlt_s, zcV_s, zcI_s, zcJ_s, zcA_s, zcD_s, zcF_s, zth_n, zth_t, zrt_s, zQ_l, zQ_r, false_or, or_false, true_or, or_true, false_and, and_false, not_false_eq_true, not_true_eq_false, and_self, true_and, and_true, if_true, if_false, ite_true, ite_false, zgd_t]
          exact ihj (q + 1) s em g2 (by omega) ((Q.tr Q1).tr Q2) z
      -- the places
      have s96 : ∀ j p s em g, p + j = N 0 → CQ N h g → (∀ g, CQ N h g → zTo vL_sums rL_sums (z50 N s em (r + 1) g) (fun y => ∃ g, y = (.inl (some (.int 1)), g) ∧ CQ N h g)) → zTo vL_sums rL_sums (96, [some (.ref 0), some (.int (nI (N 0))), some (.long (lN (nTo N))), none, some (.long (lN s)), none, some (.int (nI em)), some (.int (nI r)), none, some (.long (lN (zsu (nAt N r) p))), none, some (.int (nI p))], [], g) (fun y => ∃ g, y = (.inl (some (.int 1)), g) ∧ CQ N h g) := by
        intro j
        induction j with
        | zero =>
          intro p s em g e Q z
          have : p = N 0 := by omega
          subst this
          have c' := c.go Q
          have f2 : (nI (N 0) ≤ nI (N 0)) = True := eq_true (nI_le (Nat.le_refl _) (by omega))
          have sm := place_sum hF hr
          obtain ⟨g1, x1, Q1⟩ := m_atPlace (p := 0) c' hr (by omega)
          have x1' : sX5_atPlace [.ref 0, .int (nI r), .int (0 : Int32)] g = some (.inl (some (.long (lN (nAt N r 0)))), g1) := x1
          have c1 := c'.go Q1
          have er := nI_is (a := r) (b := N 2) (by omega) (by omega)
          have p0 := place_0 hF hr
          refine zTo_of gL_sums_96 ?_
          simp only [f2, zmp_s, zlt_s, zcV_s, zcI_s, zcJ_s, zcA_s, zcD_s, zcF_s, zth_n, zth_t, zrt_s, zQ_l, zQ_r, false_or, or_false, true_or, or_true, false_and, and_false, not_false_eq_true, not_true_eq_false, and_self, true_and, and_true, if_true, if_false, ite_true, ite_false, zgd_t]
          refine zTo_of gL_sums_108 ?_
          have s128 : zTo vL_sums rL_sums (128, [some (.ref 0), some (.int (nI (N 0))), some (.long (lN (nTo N))), none, some (.long (lN s)), none, some (.int (nI em)), some (.int (nI r)), none, none, none, none], [], g1) (fun y => ∃ g, y = (.inl (some (.int 1)), g) ∧ CQ N h g) := by
            refine zTo_of gL_sums_128 ?_
            exact s130 r 0 s em g1 (by omega) (Q.tr Q1) z
          by_cases w : r = N 2
          · have w1 : (r = N 2) = True := eq_true w
            rw [if_pos w] at p0
            rw [p0] at x1'
            simp only [sm, rl, c'.1.1, x1', c1.1.1, w_p2 c1, er, w1, zmp_s, zlt_s, zcV_s, zcI_s, zcJ_s, zcA_s, zcD_s, zcF_s, zth_n, zth_t, zrt_s, zQ_l, zQ_r, false_or, or_false, true_or, or_true, false_and, and_false, not_false_eq_true, not_true_eq_false, and_self, true_and, and_true, if_true, if_false, ite_true, ite_false, zgd_t]
            exact s128
          · have w1 : (r = N 2) = False := eq_false w
            rw [if_neg w] at p0
            rw [p0] at x1'
            have r00 : (lg_cmp (lN 0) (0 : Int64) = 0) = True := by rw [l00]; exact rl 0
            simp only [sm, rl, c'.1.1, x1', c1.1.1, w_p2 c1, er, w1, r00, zmp_s, zlt_s, zcV_s, zcI_s, zcJ_s, zcA_s, zcD_s, zcF_s, zth_n, zth_t, zrt_s, zQ_l, zQ_r, false_or, or_false, true_or, or_true, false_and, and_false, not_false_eq_true, not_true_eq_false, and_self, true_and, and_true, if_true, if_false, ite_true, ite_false, zgd_t]
            exact s128
        | succ j ihj =>
          intro p s em g e Q z
          have c' := c.go Q
          obtain ⟨f2, -, -, f5⟩ := nI_for (show p < N 0 by omega) (show N 0 < 2 ^ 31 by omega)
          obtain ⟨g1, x1, Q1⟩ := m_atPlace (p := p) c' hr (by omega)
          have ihj := ihj (p + 1) s em g1 (by omega) (Q.tr Q1) z
          rw [zsu_s] at ihj
          refine zTo_of gL_sums_96 ?_
          simp only [f2, c'.1.1, x1, lN_add, f5, zmp_s, zlt_s, zcV_s, zcI_s, zcJ_s, zcA_s, zcD_s, zcF_s, zth_n, zth_t, zrt_s, zQ_l, zQ_r, false_or, or_false, true_or, or_true, false_and, and_false, not_false_eq_true, not_true_eq_false, and_self, true_and, and_true, if_true, if_false, ite_true, ite_false, zgd_t]
          exact ihj
      have s92 : ∀ s em g, CQ N h g → (∀ g, CQ N h g → zTo vL_sums rL_sums (z50 N s em (r + 1) g) (fun y => ∃ g, y = (.inl (some (.int 1)), g) ∧ CQ N h g)) → zTo vL_sums rL_sums (92, [some (.ref 0), some (.int (nI (N 0))), some (.long (lN (nTo N))), none, some (.long (lN s)), none, some (.int (nI em)), some (.int (nI r)), none, none, none, none], [], g) (fun y => ∃ g, y = (.inl (some (.int 1)), g) ∧ CQ N h g) := by
        intro s em g Q z
        refine zTo_of gL_sums_92 ?_
        have := s96 (N 0) 0 s em g (by omega) Q z
        rw [show zsu (nAt N r) 0 = 0 from rfl, ← l00] at this
        exact this
      have ih : ∀ g, CQ N h g → zTo vL_sums rL_sums (z50 N (zsu (fEn N) r + fEn N r) (if fEm N r then nmask (fEm N) r ||| 2 ^ r else nmask (fEm N) r) (r + 1) g) (fun y => ∃ g, y = (.inl (some (.int 1)), g) ∧ CQ N h g) := fun g Q => ih (r + 1) g (by omega) Q
      have c' := c.go Q
      have s66 : zTo vL_sums rL_sums (66, [some (.ref 0), some (.int (nI (N 0))), some (.long (lN (nTo N))), none, some (.long (lN (zsu (fEn N) r))), none, some (.int (nI (nmask (fEm N) r))), some (.int (nI r)), some (.int (zb (nme N r))), none, none, none], [], g) (fun y => ∃ g, y = (.inl (some (.int 1)), g) ∧ CQ N h g) := by
        refine zTo_of gL_sums_66 ?_
        cases em : nme N r with
        | false =>
          have a1 : fEn N r = 0 := by unfold fEn; rw [if_neg (by rw [em]; simp)]
          have a2 : fEm N r = false := by unfold fEm; rw [em]; simp
          rw [a1, a2, Nat.add_zero] at ih
          simp only [zf, Int64.add_zero, zmp_s, zlt_s, zcV_s, zcI_s, zcJ_s, zcA_s, zcD_s, zcF_s, zth_n, zth_t, zrt_s, zQ_l, zQ_r, false_or, or_false, true_or, or_true, false_and, and_false, not_false_eq_true, not_true_eq_false, and_self, true_and, and_true, if_true, if_false, ite_true, ite_false, zgd_t]
          refine zTo_of gL_sums_76 ?_
          simp only [zf, Int32.or_zero, zmp_s, zlt_s, zcV_s, zcI_s, zcJ_s, zcA_s, zcD_s, zcF_s, zth_n, zth_t, zrt_s, zQ_l, zQ_r, false_or, or_false, true_or, or_true, false_and, and_false, not_false_eq_true, not_true_eq_false, and_self, true_and, and_true, if_true, if_false, ite_true, ite_false, zgd_t]
          exact s92 _ _ g Q ih
        | true =>
          have a1 : fEn N r = nTt N r := by unfold fEn; rw [if_pos em]
          rw [a1] at ih
          obtain ⟨g1, x1, Q1⟩ := m_toursTo c' hr
          have c1 := c'.go Q1
          obtain ⟨g2, x2, Q2⟩ := m_toursTo c1 hr
          have QQ := (Q.tr Q1).tr Q2
          have b40 := nTt_lt hF hr em
          have lg := lgle (x := nTt N r) (by omega)
          simp only [zt, c'.1.1, x1, lN_add, zmp_s, zlt_s, zcV_s, zcI_s, zcJ_s, zcA_s, zcD_s, zcF_s, zth_n, zth_t, zrt_s, zQ_l, zQ_r, false_or, or_false, true_or, or_true, false_and, and_false, not_false_eq_true, not_true_eq_false, and_self, true_and, and_true, if_true, if_false, ite_true, ite_false, zgd_t]
          refine zTo_of gL_sums_76 ?_
          by_cases w : nTt N r = 0
          · have w1 : (nTt N r = 0) = True := eq_true w
            have a2 : fEm N r = false := by unfold fEm; rw [w]; rfl
            rw [a2] at ih
            simp only [zt, c1.1.1, x2, lg, w1, Int32.or_zero, zmp_s, zlt_s, zcV_s, zcI_s, zcJ_s, zcA_s, zcD_s, zcF_s, zth_n, zth_t, zrt_s, zQ_l, zQ_r, false_or, or_false, true_or, or_true, false_and, and_false, not_false_eq_true, not_true_eq_false, and_self, true_and, and_true, if_true, if_false, ite_true, ite_false, zgd_t]
            exact s92 _ _ g2 QQ ih
          · have w1 : (nTt N r = 0) = False := eq_false w
            have a2 : fEm N r = true := by unfold fEm; rw [em]; simp; omega
            have sx : nI (nmask (fEm N) r) ||| ((1 : Int32) <<< (nI r &&& 31)) = nI (nmask (fEm N) r ||| 2 ^ r) := by rw [nx_shl1 (by omega), nx_or]
            rw [a2] at ih
            simp only [zt, c1.1.1, x2, lg, w1, sx, zmp_s, zlt_s, zcV_s, zcI_s, zcJ_s, zcA_s, zcD_s, zcF_s, zth_n, zth_t, zrt_s, zQ_l, zQ_r, false_or, or_false, true_or, or_true, false_and, and_false, not_false_eq_true, not_true_eq_false, and_self, true_and, and_true, if_true, if_false, ite_true, ite_false, zgd_t]
            exact s92 _ _ g2 QQ ih
      refine zTo_of gL_sums_50 ?_
      by_cases w3 : N 3 = 0
      · have p3 := w_p3 c'
        rw [w3, eI_0] at p3
        have l0 : ((-1 : Int32) < 0) = True := eq_true (by decide)
        have mm : nme N r = true := by unfold nme; simp [w3]
        rw [mm] at s66
        simp only [f1, c'.1.1, p3, l0, zmp_s, zlt_s, zcV_s, zcI_s, zcJ_s, zcA_s, zcD_s, zcF_s, zth_n, zth_t, zrt_s, zQ_l, zQ_r, false_or, or_false, true_or, or_true, false_and, and_false, not_false_eq_true, not_true_eq_false, and_self, true_and, and_true, if_true, if_false, ite_true, ite_false, zgd_t]
        exact s66
      · obtain ⟨e, he⟩ : ∃ e, N 3 = e + 1 := ⟨N 3 - 1, by omega⟩
        have p3 := w_p3 c'
        rw [he, eI_s] at p3
        have l0 : (nI e < 0) = False := nI_lt0 (by omega)
        have ee : (nI e = nI r) = (e = r) := nI_is (by omega) (by omega)
        by_cases w4 : e = r
        · have t4 : (e = r) = True := eq_true w4
          have mm : nme N r = true := by unfold nme; simp [he, w4]
          rw [mm] at s66
          simp only [f1, c'.1.1, p3, l0, ee, t4, zmp_s, zlt_s, zcV_s, zcI_s, zcJ_s, zcA_s, zcD_s, zcF_s, zth_n, zth_t, zrt_s, zQ_l, zQ_r, false_or, or_false, true_or, or_true, false_and, and_false, not_false_eq_true, not_true_eq_false, and_self, true_and, and_true, if_true, if_false, ite_true, ite_false, zgd_t]
          exact s66
        · have t4 : (e = r) = False := eq_false w4
          have mm : nme N r = false := by unfold nme; simp [he]; omega
          rw [mm] at s66
          simp only [f1, c'.1.1, p3, l0, ee, t4, zmp_s, zlt_s, zcV_s, zcI_s, zcJ_s, zcA_s, zcD_s, zcF_s, zth_n, zth_t, zrt_s, zQ_l, zQ_r, false_or, or_false, true_or, or_true, false_and, and_false, not_false_eq_true, not_true_eq_false, and_self, true_and, and_true, if_true, if_false, ite_true, ite_false, zgd_t]
          exact s66
  have t : zTo vL_sums rL_sums (0, zlok 12 [.ref 0], [], h) (fun y => ∃ g, y = (.inl (some (.int 1)), g) ∧ CQ N h g) := by
    obtain ⟨g1, x1, Q1⟩ := m_tours c
    have c1 := c.go Q1
    have cc := w_c6 (S := 2 ^ N 2) (a := N 2) c1 h6 hF.bit.1 n2 hF.two
    have sh : (1 : Int32) <<< (nI (N 2) &&& 31) = nI (2 ^ N 2) := nx_shl1 (by omega)
    have ct : nTT N (2 ^ N 2) (N 2) = nTo N := rfl
    refine zTo_of gL_sums_0 ?_
    simp only [q0, w_p0 c, x1, c1.1.1, w_p2 c1, sh, cc, ct, rl, zmp_s, zlt_s, zcV_s, zcI_s, zcJ_s, zcA_s, zcD_s, zcF_s, zth_n, zth_t, zrt_s, zQ_l, zQ_r, false_or, or_false, true_or, or_true, false_and, and_false, not_false_eq_true, not_true_eq_false, and_self, true_and, and_true, if_true, if_false, ite_true, ite_false, zgd_t]
    refine zTo_of gL_sums_20 ?_
    obtain ⟨g2, x2, Q2⟩ := m_toursFrom c1 n2
    have c2 := c1.go Q2
    rw [ct] at x2
    simp only [c1.1.1, w_p2 c1, x2, rl, zmp_s, zlt_s, zcV_s, zcI_s, zcJ_s, zcA_s, zcD_s, zcF_s, zth_n, zth_t, zrt_s, zQ_l, zQ_r, false_or, or_false, true_or, or_true, false_and, and_false, not_false_eq_true, not_true_eq_false, and_self, true_and, and_true, if_true, if_false, ite_true, ite_false, zgd_t]
    refine zTo_of gL_sums_28 ?_
    obtain ⟨g3, x3, Q3⟩ := m_starts c2
    have c3 := c2.go Q3
    have st31 : nSt N < 2 ^ 31 := by
      have : nSt N < 2 ^ N 0 := nmask_lt _ _
      omega
    have hs := w_has (S := nSt N) (k := N 2) st31 (by omega) g3
    have bt : (nSt N).testBit (N 2) = decide (0 < nTo N) := by
      unfold nSt
      rw [nmask_bit]
      simp [n2, ← ct]
    rw [bt] at hs
    have k0 := key (N 0) 0 g3 (by omega) ((Q1.tr Q2).tr Q3)
    have k0 : zTo vL_sums rL_sums (50, [some (.ref 0), some (.int (nI (N 0))), some (.long (lN (nTo N))), none, some (.long (lN 0)), none, some (.int (0 : Int32)), some (.int (0 : Int32)), none, none, none, none], [], g3) (fun y => ∃ g, y = (.inl (some (.int 1)), g) ∧ CQ N h g) := k0
    rw [← l00] at k0
    by_cases w : nTo N = 0
    · have w1 : (nTo N = 0) = True := eq_true w
      have dd : decide (0 < nTo N) = false := by simp; omega
      rw [dd] at hs
      simp only [c2.1.1, x3, c3.1.1, w_p2 c3, hs, lgt, w1, zf, zmp_s, zlt_s, zcV_s, zcI_s, zcJ_s, zcA_s, zcD_s, zcF_s, zth_n, zth_t, zrt_s, zQ_l, zQ_r, false_or, or_false, true_or, or_true, false_and, and_false, not_false_eq_true, not_true_eq_false, and_self, true_and, and_true, if_true, if_false, ite_true, ite_false, zgd_t]
      exact k0
    · have w1 : (nTo N = 0) = False := eq_false w
      have dd : decide (0 < nTo N) = true := by simp; omega
      rw [dd] at hs
      simp only [c2.1.1, x3, c3.1.1, w_p2 c3, hs, lgt, w1, zt1, zmp_s, zlt_s, zcV_s, zcI_s, zcJ_s, zcA_s, zcD_s, zcF_s, zth_n, zth_t, zrt_s, zQ_l, zQ_r, false_or, or_false, true_or, or_true, false_and, and_false, not_false_eq_true, not_true_eq_false, and_self, true_and, and_true, if_true, if_false, ite_true, ite_false, zgd_t]
      exact k0
  obtain ⟨y, e, g, rfl, Q⟩ := zsem_to (Nat.le_of_ble_eq_true rfl) t
  exact ⟨g, e, Q⟩
end
end ZLU
