/-! THE LAW: the walk stands. -/
section ZLS
section
variable {h : zm_H} {N : zLv}
theorem lgle {x : Nat} (hx : x < 2 ^ 62) : (lg_cmp (lN x) (0 : Int64) ≤ 0) = (x = 0) := by
  have e : (0 : Int64) = lN 0 := by decide +kernel
  rw [e]
  cases x with
  | zero => exact propext ⟨fun _ => rfl, fun _ => by unfold lg_cmp; rw [if_neg (by intro q; exact absurd q (Int64.lt_irrefl)), if_pos rfl]; decide⟩
  | succ x =>
    refine propext ⟨fun q => ?_, fun q => by omega⟩
    have l : lN 0 < lN (x + 1) := by rw [pk_lLT (by omega) (by omega)]; omega
    unfold lg_cmp at q
    rw [if_pos l] at q
    exact absurd q (by decide)
theorem lg00 : (lg_cmp (0 : Int64) (0 : Int64) ≤ 0) = True := by
  have e : (0 : Int64) = lN 0 := by decide +kernel
  have := lgle (x := 0) (by omega)
  rw [e] at this ⊢
  rw [this]; exact eq_true rfl
theorem last_wk (hF : WF N) : nwk N (N 4 - 1) = N (4 + N 4) := by
  have := hF.2.2.2.2.1
  unfold nwk
  rw [show 5 + (N 4 - 1) = 4 + N 4 by omega]
theorem nmask_s (f : Nat → Bool) (k : Nat) : nmask f (k + 1) = if f k then nmask f k ||| 2 ^ k else nmask f k := rfl
theorem set_last (hF : WF N) : (nset N).testBit (N (4 + N 4)) = true := nW_bit hF.two hF.here
abbrev z94 (N : zLv) (e g s r : Nat) (h : zm_H) : zm_T := (94, [some (.ref 0), some (.int (nI (nset N))), some (.int (nI (N 4))), some (.int (nI e)), some (.int (nI g)), some (.long (lN s)), none, some (.int (nI r)), none, none, none], [], h)
theorem w_stands (c : CI h N) (h6 : N 0 ≤ 6) : ∃ g, sL_stands [.ref 0] h = some (.inl (some (.int 1)), g) ∧ CQ N h g := by
  have hF := c.2.2.1
  have hW := hF.1
  have n11 := hW.1
  have n4 := hF.2.2.2.2.1
  have n4b := hF.2.2.2.2.2.1
  have q0 := c.1.1
  have s31 := hF.set31
  have pw := pow_le n11
  have r0 : ((0 : Int32) = 0) = True := eq_true rfl
  have t : zTo vL_stands rL_stands (0, zlok 11 [.ref 0], [], h) (fun y => ∃ g, y = (.inl (some (.int 1)), g) ∧ CQ N h g) := by
    refine zTo_of gL_stands_0 ?_
    have w0 : sX5_walked [.ref 0, .int (0 : Int32)] h = some (.inl (some (.int (nI (nwk N 0)))), h) := m_walked c (k := 0) (by omega)
    have e2 : nwk N 0 = N 2 := hF.2.2.2.2.2.2.1
    rw [e2] at w0
    have rf : ∀ x : Int32, (x = x) = True := fun x => eq_true rfl
    simp only [q0, w_p4 c, w0, w_p2 c, rf, zmp_s, zlt_s, zcV_s, zcI_s, zcJ_s, zcA_s, zcD_s, zcF_s, zth_n, zth_t, zrt_s, zQ_l, zQ_r, false_or, or_false, true_or, or_true, false_and, and_false, not_false_eq_true, not_true_eq_false, and_self, true_and, and_true, if_true, if_false, ite_true, ite_false, zgd_t]
    -- the walk
    refine zTo_for (f := fun k => (17, [some (.ref 0), some (.int (nI (nsk (nwk N) k))), some (.int (nI (N 4))), some (.int (nI k)), none, none, none, none, none, none, none], [], h)) (N 4) 0 (Nat.zero_le _) (fun k _ hk => ?_) (zTo_of gL_stands_17 ?_)
    · refine gL_stands_17.trans ?_
      obtain ⟨f1, -, -, f4⟩ := nI_for hk (show N 4 < 2 ^ 31 by omega)
      have wk := m_walked c hk
      have lk := hF.wk hk
      have sl := hF.set_lt (show k ≤ N 4 by omega)
      have hs := w_has (S := nsk (nwk N) k) (k := nwk N k) (by omega) (by omega)
      rw [wk_new hF hk] at hs
      have rm : sX5_room [.ref 0, .int (nI (nwk N k)), .int (4 : Int32)] h = some (.inl (some (.int (nI k))), h) := by
        have := m_room c lk (k := 4) (by omega)
        have e : nRo N (nwk N k) 4 = nI k := by
          show oI (nplace N (nwk N k) (N 4)) = _
          rw [wk_pl hF hk]; rfl
        rw [e] at this; exact this
      have sh : nI (nsk (nwk N) k) ||| ((1 : Int32) <<< (nI (nwk N k) &&& 31)) = nI (nsk (nwk N) (k + 1)) := by
        rw [nx_shl1 (by omega), nx_or]; rfl
      have zf : (zb false = 0) = True := eq_true rfl
      have zt : (zb true = 0) = False := eq_false (by decide)
      cases k with
      | zero =>
        have l0 : (nI 0 ≤ (0 : Int32)) = True := eq_true (by decide)
        simp only [f1, q0, wk, hs, zf, rm, rf, l0, sh, f4, zmp_s, zlt_s, zcV_s, zcI_s, zcJ_s, zcA_s, zcD_s, zcF_s, zth_n, zth_t, zrt_s, zQ_l, zQ_r, false_or, or_false, true_or, or_true, false_and, and_false, not_false_eq_true, not_true_eq_false, and_self, true_and, and_true, if_true, if_false, ite_true, ite_false, zgd_t]
      | succ k =>
        have l0 : (nI (k + 1) ≤ (0 : Int32)) = False := eq_false (nI_nle (by omega) (by omega))
        have p1 : nI (k + 1) - (1 : Int32) = nI k := nI_pred k
        have wk2 := m_walked c (show k < N 4 by omega)
        have ld := w_leads (S := nsk (nwk N) (k + 1)) (a := nwk N k) (b := nwk N (k + 1)) c (by omega) (hF.wk (by omega)) lk
        rw [wk_ld hF hk] at ld
        simp only [f1, q0, wk, hs, zf, rm, rf, l0, p1, wk2, ld, zt, sh, f4, zmp_s, zlt_s, zcV_s, zcI_s, zcJ_s, zcA_s, zcD_s, zcF_s, zth_n, zth_t, zrt_s, zQ_l, zQ_r, false_or, or_false, true_or, or_true, false_and, and_false, not_false_eq_true, not_true_eq_false, and_self, true_and, and_true, if_true, if_false, ite_true, ite_false, zgd_t]
    -- the rooms
    have p1 : nI (N 4) - (1 : Int32) = nI (N 4 - 1) := nI_sb (b := 1) n4
    have lw := m_walked c (show N 4 - 1 < N 4 by omega)
    rw [last_wk hF] at lw
    have f1 : (nI (N 4) ≤ nI (N 4)) = True := eq_true (nI_le (Nat.le_refl _) (by omega))
    have ks := w_keys (S := nset N) c s31
    have cs := w_coins (S := nset N) c s31
    have es : nsk (nwk N) (N 4) = nset N := rfl
    simp only [es, f1, q0, w_p5 c, p1, lw, rf, w_p6 c, w_p7 c, ks, w_p8 c, cs, zmp_s, zlt_s, zcV_s, zcI_s, zcJ_s, zcA_s, zcD_s, zcF_s, zth_n, zth_t, zrt_s, zQ_l, zQ_r, false_or, or_false, true_or, or_true, false_and, and_false, not_false_eq_true, not_true_eq_false, and_self, true_and, and_true, if_true, if_false, ite_true, ite_false, zgd_t]
    -- at each room
    have key : ∀ m r g, r + m = N 0 → CQ N h g → zTo vL_stands rL_stands (z94 N (nmask (fun r => nnx N (nset N) (N (4 + N 4)) r) r) (nmask (fun r => decide (0 < nCb N r)) r) (zsu (nCb N) r) r g) (fun y => ∃ g, y = (.inl (some (.int 1)), g) ∧ CQ N h g) := by
      intro m
      induction m with
      | zero =>
        intro r g e Q
        have : r = N 0 := by omega
        subst this
        have c' := c.go Q
        have q0 := c'.1.1
        have lw := m_walked c' (show N 4 - 1 < N 4 by omega)
        rw [last_wk hF] at lw
        have cc := w_c6 c' h6 hF.nset_lt hF.last (set_last hF)
        obtain ⟨g1, x1, Q1⟩ := m_exits c'
        have c1 := c'.go Q1
        obtain ⟨g2, x2, Q2⟩ := m_good c1
        have c2 := c1.go Q2
        obtain ⟨g3, x3, Q3⟩ := m_completions c2
        have c3 := c2.go Q3
        have f2 : (nI (N 0) ≤ nI (N 0)) = True := eq_true (nI_le (Nat.le_refl _) (by omega))
        have q4 := nI_is (a := N 4) (b := N 0) (by omega) (by omega)
        have QQ : CQ N h g3 := ((Q.tr Q1).tr Q2).tr Q3
        have rl : (lg_cmp (lN (nTT N (nset N) (N (4 + N 4)))) (lN (nTT N (nset N) (N (4 + N 4)))) = 0) = True := by rw [lg0]; exact eq_true rfl
        have x1' : sX5_exits [.ref 0] g = some (.inl (some (.int (nI (nmask (fun r => nnx N (nset N) (N (4 + N 4)) r) (N 0))))), g1) := x1
        have x2' : sX5_good [.ref 0] g1 = some (.inl (some (.int (nI (nmask (fun r => decide (0 < nCb N r)) (N 0))))), g2) := x2
        have x3' : sX5_completions [.ref 0] g2 = some (.inl (some (.long (lN (nTT N (nset N) (N (4 + N 4)))))), g3) := x3
        refine zTo_of gL_stands_94 ?_
        by_cases w : N 4 = N 0
        · have w1 : (N 4 = N 0) = True := eq_true w
          simp only [q0, w_p0 c', f2, p1, lw, cc, x1', rf, c1.1.1, x2', c2.1.1, x3', rl, c3.1.1, w_p0 c3, q4, w1, zmp_s, zlt_s, zcV_s, zcI_s, zcJ_s, zcA_s, zcD_s, zcF_s, zth_n, zth_t, zrt_s, zQ_l, zQ_r, false_or, or_false, true_or, or_true, false_and, and_false, not_false_eq_true, not_true_eq_false, and_self, true_and, and_true, if_true, if_false, ite_true, ite_false, zgd_t]
          exact ⟨g3, rfl, QQ⟩
        · have w1 : (N 4 = N 0) = False := eq_false w
          have rs : (lg_cmp (lN (nTT N (nset N) (N (4 + N 4)))) (lN (zsu (nCb N) (N 0))) = 0) = True := by rw [lg0]; exact eq_true (congrArg lN (co_sum hF w))
          simp only [q0, w_p0 c', f2, p1, lw, cc, x1', rf, c1.1.1, x2', c2.1.1, x3', rl, c3.1.1, w_p0 c3, q4, w1, rs, zmp_s, zlt_s, zcV_s, zcI_s, zcJ_s, zcA_s, zcD_s, zcF_s, zth_n, zth_t, zrt_s, zQ_l, zQ_r, false_or, or_false, true_or, or_true, false_and, and_false, not_false_eq_true, not_true_eq_false, and_self, true_and, and_true, if_true, if_false, ite_true, ite_false, zgd_t]
          exact ⟨g3, rfl, QQ⟩
      | succ m ih =>
        intro r g e Q
        have hr : r < N 0 := by omega
        have c' := c.go Q
        have q0 := c'.1.1
        obtain ⟨f2, -, -, f4⟩ := nI_for hr (show N 0 < 2 ^ 31 by omega)
        have hs := w_has (S := nset N) (k := r) s31 (by omega)
        have wy := m_why c' hr
        have wl : nWhy N r < 5 := by
          unfold nWhy
          split
          · omega
          · split
            · omega
            · split
              · omega
              · split <;> omega
        have y0 : (nI (nWhy N r) = (0 : Int32)) = (nnx N (nset N) (N (4 + N 4)) r = true) := by rw [nI_eq0 (by omega), why_0]
        have y1 : (nI (nWhy N r) = (1 : Int32)) = ((nset N).testBit r = true) := by rw [← why_1]; exact nI_is (b := 1) (by omega) (by omega)
        obtain ⟨g1, x1, Q1⟩ := m_completionsBy c' hr
        have ih := ih (r + 1) g1 (by omega) (Q.tr Q1)
        rw [nmask_s, nmask_s, zsu_s] at ih
        have b40 := nCb_lt hF r
        -- from the three questions on
        have tail : ∀ e' gd, zTo vL_stands rL_stands (z94 N e' gd (zsu (nCb N) r + nCb N r) (r + 1) g1) (fun y => ∃ g, y = (.inl (some (.int 1)), g) ∧ CQ N h g) → zTo vL_stands rL_stands (152, [some (.ref 0), some (.int (nI (nset N))), some (.int (nI (N 4))), some (.int (nI e')), some (.int (nI gd)), some (.long (lN (zsu (nCb N) r))), none, some (.int (nI r)), some (.int (zb (nnx N (nset N) (N (4 + N 4)) r))), some (.long (lN (nCb N r))), none], [], g) (fun y => ∃ g, y = (.inl (some (.int 1)), g) ∧ CQ N h g) := by
          intro e' gd z
          have rl : (lg_cmp (lN (nCb N r)) (lN (nCb N r)) = 0) = True := by rw [lg0]; exact eq_true rfl
          have s177 : zTo vL_stands rL_stands (177, [some (.ref 0), some (.int (nI (nset N))), some (.int (nI (N 4))), some (.int (nI e')), some (.int (nI gd)), some (.long (lN (zsu (nCb N) r + nCb N r))), none, some (.int (nI r)), none, some (.long (lN (nCb N r))), none], [], g) (fun y => ∃ g, y = (.inl (some (.int 1)), g) ∧ CQ N h g) := by
            refine zTo_of gL_stands_177 ?_
            simp only [q0, x1, rl, f4, zmp_s, zlt_s, zcV_s, zcI_s, zcJ_s, zcA_s, zcD_s, zcF_s, zth_n, zth_t, zrt_s, zQ_l, zQ_r, false_or, or_false, true_or, or_true, false_and, and_false, not_false_eq_true, not_true_eq_false, and_self, true_and, and_true, if_true, if_false, ite_true, ite_false, zgd_t]
            exact z
          have s165 : zTo vL_stands rL_stands (165, [some (.ref 0), some (.int (nI (nset N))), some (.int (nI (N 4))), some (.int (nI e')), some (.int (nI gd)), some (.long (lN (zsu (nCb N) r + nCb N r))), none, some (.int (nI r)), none, some (.long (lN (nCb N r))), none], [], g) (fun y => ∃ g, y = (.inl (some (.int 1)), g) ∧ CQ N h g) := by
            refine zTo_of gL_stands_165 ?_
            cases eb : (nset N).testBit r with
            | true =>
              rw [eb] at hs y1
              have y1' : (nI (nWhy N r) = (1 : Int32)) = True := y1.trans (eq_true rfl)
              have zt : ((1 : Int32) = zb true) = True := eq_true rfl
              simp only [q0, wy, y1', hs, zt, zmp_s, zlt_s, zcV_s, zcI_s, zcJ_s, zcA_s, zcD_s, zcF_s, zth_n, zth_t, zrt_s, zQ_l, zQ_r, false_or, or_false, true_or, or_true, false_and, and_false, not_false_eq_true, not_true_eq_false, and_self, true_and, and_true, if_true, if_false, ite_true, ite_false, zgd_t]
              exact s177
            | false =>
              rw [eb] at hs y1
              have y1' : (nI (nWhy N r) = (1 : Int32)) = False := y1.trans (eq_false (by simp))
              have zt : ((0 : Int32) = zb false) = True := eq_true rfl
              simp only [q0, wy, y1', hs, zt, zmp_s, zlt_s, zcV_s, zcI_s, zcJ_s, zcA_s, zcD_s, zcF_s, zth_n, zth_t, zrt_s, zQ_l, zQ_r, false_or, or_false, true_or, or_true, false_and, and_false, not_false_eq_true, not_true_eq_false, and_self, true_and, and_true, if_true, if_false, ite_true, ite_false, zgd_t]
              exact s177
          refine zTo_of gL_stands_152 ?_
          cases eb : nnx N (nset N) (N (4 + N 4)) r with
          | true =>
            rw [eb] at y0
            have y0' : (nI (nWhy N r) = (0 : Int32)) = True := y0.trans (eq_true rfl)
            have zt : ((1 : Int32) = zb true) = True := eq_true rfl
            simp only [q0, wy, y0', zt, lN_add, zmp_s, zlt_s, zcV_s, zcI_s, zcJ_s, zcA_s, zcD_s, zcF_s, zth_n, zth_t, zrt_s, zQ_l, zQ_r, false_or, or_false, true_or, or_true, false_and, and_false, not_false_eq_true, not_true_eq_false, and_self, true_and, and_true, if_true, if_false, ite_true, ite_false, zgd_t]
            exact s165
          | false =>
            rw [eb] at y0
            have y0' : (nI (nWhy N r) = (0 : Int32)) = False := y0.trans (eq_false (by simp))
            have zt : ((0 : Int32) = zb false) = True := eq_true rfl
            simp only [q0, wy, y0', zt, lN_add, zmp_s, zlt_s, zcV_s, zcI_s, zcJ_s, zcA_s, zcD_s, zcF_s, zth_n, zth_t, zrt_s, zQ_l, zQ_r, false_or, or_false, true_or, or_true, false_and, and_false, not_false_eq_true, not_true_eq_false, and_self, true_and, and_true, if_true, if_false, ite_true, ite_false, zgd_t]
            exact s165
        have lw := m_walked c' (show N 4 - 1 < N 4 by omega)
        rw [last_wk hF] at lw
        have l0 : (0 : Int64) = lN 0 := by decide +kernel
        -- a room that may not be entered
        have no : nnx N (nset N) (N (4 + N 4)) r = false → zTo vL_stands rL_stands (115, [some (.ref 0), some (.int (nI (nset N))), some (.int (nI (N 4))), some (.int (nI (nmask (fun r => nnx N (nset N) (N (4 + N 4)) r) r))), some (.int (nI (nmask (fun r => decide (0 < nCb N r)) r))), some (.long (lN (zsu (nCb N) r))), none, some (.int (nI r)), none, none, none], [], g) (fun y => ∃ g, y = (.inl (some (.int 1)), g) ∧ CQ N h g) := by
          intro ef
          have cb0 : nCb N r = 0 := by unfold nCb ncn; rw [ef]; rfl
          have tl := tail (nmask (fun r => nnx N (nset N) (N (4 + N 4)) r) r) (nmask (fun r => decide (0 < nCb N r)) r)
          rw [ef, cb0, ← l0] at tl
          rw [ef, cb0] at ih
          refine zTo_of gL_stands_115 ?_
          simp only [r0, lg00, Int32.or_zero, zmp_s, zlt_s, zcV_s, zcI_s, zcJ_s, zcA_s, zcD_s, zcF_s, zth_n, zth_t, zrt_s, zQ_l, zQ_r, false_or, or_false, true_or, or_true, false_and, and_false, not_false_eq_true, not_true_eq_false, and_self, true_and, and_true, if_true, if_false, ite_true, ite_false, zgd_t]
          exact tl ih
        have i1 := i10
        refine zTo_of gL_stands_94 ?_
        cases eb : (nset N).testBit r with
        | true =>
          have ef : nnx N (nset N) (N (4 + N 4)) r = false := by unfold nnx; rw [eb]; simp
          rw [eb] at hs
          have zt : (zb true = 0) = False := eq_false (by decide)
          simp only [q0, w_p0 c', f2, hs, zt, zmp_s, zlt_s, zcV_s, zcI_s, zcJ_s, zcA_s, zcD_s, zcF_s, zth_n, zth_t, zrt_s, zQ_l, zQ_r, false_or, or_false, true_or, or_true, false_and, and_false, not_false_eq_true, not_true_eq_false, and_self, true_and, and_true, if_true, if_false, ite_true, ite_false, zgd_t]
          exact no ef
        | false =>
          rw [eb] at hs
          have zf : (zb false = 0) = True := eq_true rfl
          have ld := w_leads (S := nset N) (a := N (4 + N 4)) (b := r) c' s31 hF.last hr
          cases ed : (nld N (nset N) (N (4 + N 4))).testBit r with
          | false =>
            have ef : nnx N (nset N) (N (4 + N 4)) r = false := by unfold nnx; rw [ed]; rfl
            rw [ed] at ld
            simp only [q0, w_p0 c', f2, hs, zf, p1, lw, ld, zmp_s, zlt_s, zcV_s, zcI_s, zcJ_s, zcA_s, zcD_s, zcF_s, zth_n, zth_t, zrt_s, zQ_l, zQ_r, false_or, or_false, true_or, or_true, false_and, and_false, not_false_eq_true, not_true_eq_false, and_self, true_and, and_true, if_true, if_false, ite_true, ite_false, zgd_t]
            exact no ef
          | true =>
            have ef : nnx N (nset N) (N (4 + N 4)) r = true := by unfold nnx; rw [ed, eb]; rfl
            rw [ed] at ld
            have zt : (zb true = 0) = False := eq_false (by decide)
            have sh : nI (nset N) ||| ((1 : Int32) <<< (nI r &&& 31)) = nI (nset N ||| 2 ^ r) := by rw [nx_shl1 (by omega), nx_or]
            have cc := w_c6 (S := nset N ||| 2 ^ r) (a := r) c' h6 (or_lt2 hF.nset_lt hr) hr (by rw [tb_or]; simp)
            have cb : nCb N r = nTT N (nset N ||| 2 ^ r) r := by unfold nCb ncn; rw [ef]; rfl
            rw [← cb] at cc
            have sx : nI (nmask (fun r => nnx N (nset N) (N (4 + N 4)) r) r) ||| ((1 : Int32) <<< (nI r &&& 31)) = nI (nmask (fun r => nnx N (nset N) (N (4 + N 4)) r) r ||| 2 ^ r) := by rw [nx_shl1 (by omega), nx_or]
            have sg : nI (nmask (fun r => decide (0 < nCb N r)) r) ||| ((1 : Int32) <<< (nI r &&& 31)) = nI (nmask (fun r => decide (0 < nCb N r)) r ||| 2 ^ r) := by rw [nx_shl1 (by omega), nx_or]
            have lg := lgle (x := nCb N r) (by omega)
            rw [ef, if_pos rfl] at ih
            by_cases w : nCb N r = 0
            · have w1 : (nCb N r = 0) = True := eq_true w
              have dd : ¬ decide (0 < nCb N r) = true := by simp; omega
              rw [if_neg dd] at ih
              have tl := tail _ _ ih
              rw [ef] at tl
              simp only [q0, w_p0 c', f2, hs, zf, p1, lw, ld, zt, i1, sh, cc, lg, w1, sx, Int32.or_zero, zmp_s, zlt_s, zcV_s, zcI_s, zcJ_s, zcA_s, zcD_s, zcF_s, zth_n, zth_t, zrt_s, zQ_l, zQ_r, false_or, or_false, true_or, or_true, false_and, and_false, not_false_eq_true, not_true_eq_false, and_self, true_and, and_true, if_true, if_false, ite_true, ite_false, zgd_t]
              first | exact tl | (rw [w] at tl; exact tl)
            · have w1 : (nCb N r = 0) = False := eq_false w
              have dd : decide (0 < nCb N r) = true := by simp; omega
              rw [if_pos dd] at ih
              have tl := tail _ _ ih
              rw [ef] at tl
              simp only [q0, w_p0 c', f2, hs, zf, p1, lw, ld, zt, i1, sh, cc, lg, w1, sx, sg, zmp_s, zlt_s, zcV_s, zcI_s, zcJ_s, zcA_s, zcD_s, zcF_s, zth_n, zth_t, zrt_s, zQ_l, zQ_r, false_or, or_false, true_or, or_true, false_and, and_false, not_false_eq_true, not_true_eq_false, and_self, true_and, and_true, if_true, if_false, ite_true, ite_false, zgd_t]
              exact tl
    have := key (N 0) 0 h (by omega) c.rf
    exact this
  obtain ⟨y, e, g, rfl, Q⟩ := zsem_to (Nat.le_of_ble_eq_true rfl) t
  exact ⟨g, e, Q⟩
end
end ZLS
