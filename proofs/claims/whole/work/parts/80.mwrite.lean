/-! THE MODEL: names, walks and doors written; a room found. -/
section ZMS
/-- the digits of a name's code, the highest first -/
def dgn (c : Nat) : Nat → List Int32
  | 0 => []
  | j + 1 => nI (96 + c / 27 ^ j % 27) :: dgn c j
theorem dgn_len (c : Nat) : ∀ j, (dgn c j).length = j
  | 0 => rfl
  | j + 1 => by rw [dgn, List.length_cons, dgn_len c j]
theorem dgn_snoc (c : Nat) : ∀ j, dgn c (j + 1) = dgn (c / 27) j ++ [nI (96 + c % 27)]
  | 0 => by
    show [nI (96 + c / 27 ^ 0 % 27)] = [] ++ [nI (96 + c % 27)]
    rw [Nat.pow_zero, Nat.div_one]; rfl
  | j + 1 => by
    rw [dgn, dgn_snoc c j, dgn, List.cons_append, Nat.div_div_eq_div_mul, show 27 * 27 ^ j = 27 ^ (j + 1) by rw [Nat.pow_succ]; omega]
theorem nlt_0 (f : Nat) : nlt f 0 = [] := by
  cases f with
  | zero => rfl
  | succ f => exact if_pos rfl
theorem nlt_dgn : ∀ j f c, j < f → 1 ≤ c / 27 ^ j → c / 27 ^ j < 27 → nlt f c = dgn c (j + 1) := by
  intro j
  induction j with
  | zero =>
    intro f c hf h1 h2
    obtain ⟨f, rfl⟩ : ∃ g, f = g + 1 := ⟨f - 1, by omega⟩
    rw [Nat.pow_zero, Nat.div_one] at h1 h2
    rw [dgn_snoc, nlt, if_neg (by omega), show c / 27 = 0 by omega, nlt_0]; rfl
  | succ j ih =>
    intro f c hf h1 h2
    obtain ⟨f, rfl⟩ : ∃ g, f = g + 1 := ⟨f - 1, by omega⟩
    have e : c / 27 ^ (j + 1) = c / 27 / 27 ^ j := by rw [Nat.div_div_eq_div_mul]; congr 1; rw [Nat.pow_succ]; omega
    rw [e] at h1 h2
    have c0 : c ≠ 0 := by intro z; subst z; simp at h1
    rw [dgn_snoc, nlt, if_neg c0, ih f (c / 27) (by omega) h1 h2]
section
variable {h : zm_H} {N : zLv}
theorem p27 : ∀ j, j < 7 → 27 ^ j ≤ 27 ^ 6 ∧ 0 < 27 ^ j := by decide +kernel
theorem r_writeName {ys : List Int32} {r : Nat} (m0 : moS h 126) (mL : ML h 126 N) (hr : r < 11) (hc : N (18 + 3 * r) < 27 ^ 6) (B : MO h ys) (hl : ys.length + 6 ≤ 200) : ∃ g, sX6_writeName [.ref 125, .int (nI r)] h = some (.inl none, g) ∧ WO h (ys ++ nlt 6 (N (18 + 3 * r))) g := by
  obtain ⟨c, hce⟩ : ∃ c, c = N (18 + 3 * r) := ⟨_, rfl⟩
  have rf := r_ofRoom2 m0 mL hr
  rw [← hce] at rf hc ⊢
  have hc2 : c < 387420489 := hc
  obtain ⟨R, hR⟩ : ∃ R : zm_O → Prop, R = (fun o => ∃ g, o = (.inl none, g) ∧ WO h (ys ++ nlt 6 c) g) := ⟨_, rfl⟩
  have i27 : (27 : Int32) = nI 27 := rfl
  have n27 : ((27 : Int32) = 0) = False := eq_false (fun e => nI_ne0 (n := 27) (by omega) (by omega) e)
  have down : ∀ j g zs, j ≤ 6 → 0 < c → zs ++ dgn c j = nlt 6 c → WO h (ys ++ zs) g → zs.length + j ≤ 6 → zTo vX6_writeName rX6_writeName (19, [some (.ref 125), none, some (.int (nI c)), none, some (.int (nI (if j = 0 then 0 else 27 ^ (j - 1))))], [], g) R := by
    intro j
    induction j with
    | zero =>
      intro g zs _ h0 hz w _
      refine zTo_of gX6_writeName_19 ?_
      simp only [if_true, nI_0, show ((0 : Int32) ≤ 0) = True by decide +kernel, zmp_s, zlt_s, zcV_s, zcI_s, zcJ_s, zcA_s, zcD_s, zcF_s, zth_n, zth_t, zrt_s, zQ_l, zQ_r, false_or, or_false, true_or, or_true, false_and, and_false, not_false_eq_true, not_true_eq_false, and_self, true_and, and_true, if_true, if_false, ite_true, ite_false]
      rw [hR]
      have : zs = nlt 6 c := by rw [← hz]; show zs = zs ++ []; rw [List.append_nil]
      rw [this] at w
      exact ⟨g, rfl, w⟩
    | succ j ih =>
      intro g zs hj h0 hz w hlen
      have pj := p27 j (by omega)
      have pe : 27 ^ 6 = 387420489 := by decide
      rw [if_neg (by omega), show j + 1 - 1 = j by omega]
      have mg := moS_fr w.1 m0
      have k27 : c / 27 ^ j % 27 < 27 := Nat.mod_lt _ (by omega)
      obtain ⟨g2, e2, w2⟩ := r_write (k := 96 + c / 27 ^ j % 27) mg w.2.2 (by rw [List.length_append]; omega) (by omega)
      have dle : c / 27 ^ j ≤ c := Nat.div_le_self _ _
      have d1 : nI c / nI (27 ^ j) = nI (c / 27 ^ j) := pk_div (by omega) pj.2 (by omega)
      have d2 : nI (c / 27 ^ j) / nI 27 = nI (c / 27 ^ j / 27) := pk_div (by omega) (by omega) (by omega)
      have d3 : nI (c / 27 ^ j) - nI (c / 27 ^ j / 27) * nI 27 = nI (c / 27 ^ j % 27) := by
        rw [← d2]; exact pk_rem (by omega) (by omega) (by omega)
      have d4 : (96 : Int32) + nI (c / 27 ^ j % 27) = nI (96 + c / 27 ^ j % 27) := nI_add 96 _
      have d5 : nI (27 ^ j) / nI 27 = nI (27 ^ j / 27) := pk_div (by omega) (by omega) (by omega)
      have e5 : 27 ^ j / 27 = if j = 0 then 0 else 27 ^ (j - 1) := by
        cases j with
        | zero => rfl
        | succ i => rw [if_neg (by omega), Nat.pow_succ, Nat.mul_div_cancel _ (by omega)]; rfl
      have f1 : (nI (27 ^ j) ≤ 0) = False := eq_false (nI_nle pj.2 (by omega))
      have f2 : (nI c ≤ 0) = False := eq_false (nI_nle h0 (by omega))
      have f3 : (nI (27 ^ j) = 0) = False := eq_false (nI_ne0 pj.2 (by omega))
      have n27' : (nI 27 = 0) = False := n27
      refine zTo_of gX6_writeName_19 ?_
      rw [i27]
      simp only [f1, f2, f3, n27', mg.1, d1, d2, d3, d4, d5, e2, e5, zmp_s, zlt_s, zcV_s, zcI_s, zcJ_s, zcA_s, zcD_s, zcF_s, zth_n, zth_t, zrt_s, zQ_l, zQ_r, false_or, or_false, true_or, or_true, false_and, and_false, not_false_eq_true, not_true_eq_false, and_self, true_and, and_true, if_true, if_false, ite_true, ite_false, zgd_t]
      have w3 := w.tr w2
      rw [List.append_assoc] at w3
      exact ih g2 (zs ++ [nI (96 + c / 27 ^ j % 27)]) (by omega) h0 (by rw [← hz, dgn, List.append_assoc]; rfl) w3 (by rw [List.length_append]; simp; omega)
  have up : ∀ d j, j + d = 5 → (0 < c → 1 ≤ c / 27 ^ j) → zTo vX6_writeName rX6_writeName (7, [some (.ref 125), none, some (.int (nI c)), some (.int (nI (27 ^ j))), none], [], h) R := by
    intro d
    have fin : ∀ j, j ≤ 5 → (0 < c → 1 ≤ c / 27 ^ j) → c / 27 ^ j < 27 → zTo vX6_writeName rX6_writeName (19, [some (.ref 125), none, some (.int (nI c)), none, some (.int (nI (27 ^ j)))], [], h) R := fun j hj h1 h2 => by
      have pj := p27 j (by omega)
      have w0 : WO h (ys ++ []) h := ⟨zFr.rf, fun _ _ => rfl, by rw [List.append_nil]; exact B⟩
      rcases Nat.eq_zero_or_pos c with z | z
      · refine zTo_of gX6_writeName_19 ?_
        have f1 : (nI (27 ^ j) ≤ 0) = False := eq_false (nI_nle pj.2 (by omega))
        simp only [f1, z, nI_0, show ((0 : Int32) ≤ 0) = True by decide +kernel, zmp_s, zlt_s, zcV_s, zcI_s, zcJ_s, zcA_s, zcD_s, zcF_s, zth_n, zth_t, zrt_s, zQ_l, zQ_r, false_or, or_false, true_or, or_true, false_and, and_false, not_false_eq_true, not_true_eq_false, and_self, true_and, and_true, if_true, if_false, ite_true, ite_false]
        rw [hR, z, nlt_0]
        exact ⟨h, rfl, w0⟩
      · have := down (j + 1) h [] (by omega) z (by rw [List.nil_append]; exact (nlt_dgn j 6 c (by omega) (h1 z) h2).symm) w0 (by simp; omega)
        rw [if_neg (by omega), show j + 1 - 1 = j by omega] at this
        exact this
    induction d with
    | zero =>
      intro j hj h1
      have hj : j = 5 := by omega
      subst hj
      have h2 : c / 27 ^ 5 < 27 := by
        have : (27 : Nat) ^ 5 = 14348907 := by decide
        rw [this]; omega
      have d1 : nI c / nI (27 ^ 5) = nI (c / 27 ^ 5) := pk_div (by omega) (by decide) (by decide)
      have f3 : (nI (27 ^ 5) = 0) = False := eq_false (nI_ne0 (by decide) (by decide))
      have f4 : (nI (c / 27 ^ 5) < (27 : Int32)) = True := eq_true (nI_lt (b := 27) h2 (by omega))
      refine zTo_of gX6_writeName_7 ?_
      simp only [f3, d1, f4, zmp_s, zlt_s, zcV_s, zcI_s, zcJ_s, zcA_s, zcD_s, zcF_s, zth_n, zth_t, zrt_s, zQ_l, zQ_r, false_or, or_false, true_or, or_true, false_and, and_false, not_false_eq_true, not_true_eq_false, and_self, true_and, and_true, if_true, if_false, ite_true, ite_false, zgd_t]
      exact fin 5 (by omega) h1 h2
    | succ d ih =>
      intro j hj h1
      have pj := p27 j (by omega)
      have pe : 27 ^ 6 = 387420489 := by decide
      have dle : c / 27 ^ j ≤ c := Nat.div_le_self _ _
      have d1 : nI c / nI (27 ^ j) = nI (c / 27 ^ j) := pk_div (by omega) pj.2 (by omega)
      have f3 : (nI (27 ^ j) = 0) = False := eq_false (nI_ne0 pj.2 (by omega))
      have f4 : (nI (c / 27 ^ j) < (27 : Int32)) = (c / 27 ^ j < 27) := propext (nI_ltI (b := 27) (by omega) (by omega))
      have d6 : nI (27 ^ j) * (27 : Int32) = nI (27 ^ (j + 1)) := by
        rw [Nat.pow_succ]; exact pk_mul _ 27
      refine zTo_of gX6_writeName_7 ?_
      simp only [f3, d1, f4, d6, zmp_s, zlt_s, zcV_s, zcI_s, zcJ_s, zcA_s, zcD_s, zcF_s, zth_n, zth_t, zrt_s, zQ_l, zQ_r, false_or, or_false, true_or, or_true, false_and, and_false, not_false_eq_true, not_true_eq_false, and_self, true_and, and_true, if_true, if_false, ite_true, ite_false, zgd_t]
      by_cases q : c / 27 ^ j < 27
      · simp only [q, zmp_s, zlt_s, zcV_s, zcI_s, zcJ_s, zcA_s, zcD_s, zcF_s, zth_n, zth_t, zrt_s, zQ_l, zQ_r, false_or, or_false, true_or, or_true, false_and, and_false, not_false_eq_true, not_true_eq_false, and_self, true_and, and_true, if_true, if_false, ite_true, ite_false]
        exact fin j (by omega) h1 q
      · simp only [q, zmp_s, zlt_s, zcV_s, zcI_s, zcJ_s, zcA_s, zcD_s, zcF_s, zth_n, zth_t, zrt_s, zQ_l, zQ_r, false_or, or_false, true_or, or_true, false_and, and_false, not_false_eq_true, not_true_eq_false, and_self, true_and, and_true, if_true, if_false, ite_true, ite_false]
        refine ih (j + 1) (by omega) (fun z => ?_)
        have e : c / 27 ^ (j + 1) = c / 27 ^ j / 27 := by rw [Nat.pow_succ, Nat.div_div_eq_div_mul]
        rw [e]; omega
  have hsim : zW (sX6_writeName [.ref 125, .int (nI r)] h) R := by
    refine zsem_to (Nat.le_of_ble_eq_true rfl) (zTo_of gX6_writeName_0 ?_)
    simp only [m0.1, rf, zmp_s, zlt_s, zcV_s, zcI_s, zcJ_s, zcA_s, zcD_s, zcF_s, zth_n, zth_t, zrt_s, zQ_l, zQ_r, false_or, or_false, true_or, or_true, false_and, and_false, not_false_eq_true, not_true_eq_false, and_self, true_and, and_true, if_true, if_false, ite_true, ite_false, zgd_t]
    exact up 5 0 (by omega) (fun z => by rw [Nat.pow_zero, Nat.div_one]; exact z)
  rw [hR] at hsim
  obtain ⟨o, k1, g, rfl, k2⟩ := hsim
  exact ⟨g, k1, k2⟩
theorem r_writePath {n : Nat} {w : Nat → Nat} (c : MI h N) (hn : n ≤ 11) (hw : ∀ k, k < n → zI h 132 k = nI (w k) ∧ w k < N 0) : ∃ g, sX6_writePath [.ref 125, .int (nI n)] h = some (.inl none, g) ∧ WO h (nwr N w n) g := by
  have hF := c.2.2
  have h0 := hF.1.1
  have hnm := hF.2.2.2.2.2.2.2.2
  have key : ∀ d k g, k + d = n → WO h (nwr N w k) g → zTo vX6_writePath rX6_writePath (5, [some (.ref 125), some (.int (nI n)), some (.int (nI k))], [], g) (fun o => ∃ g, o = (.inl none, g) ∧ WO h (nwr N w n) g) := by
    intro d
    induction d with
    | zero =>
      intro k g hk a
      have hk : k = n := by omega
      subst hk
      refine zTo_of gX6_writePath_5 ?_
      simp only [nI_le (Nat.le_refl _) (show k < 2 ^ 31 by omega), zmp_s, zlt_s, zcV_s, zcI_s, zcJ_s, zcA_s, zcD_s, zcF_s, zth_n, zth_t, zrt_s, zQ_l, zQ_r, false_or, or_false, true_or, or_true, false_and, and_false, not_false_eq_true, not_true_eq_false, and_self, true_and, and_true, if_true, if_false, ite_true, ite_false]
      exact ⟨g, rfl, a⟩
    | succ d ih =>
      intro k g hk a
      obtain ⟨f1, f2, f3, f4⟩ := nI_for (show k < n by omega) (by omega)
      have cg := a.mi c
      have mg := cg.1
      obtain ⟨v1, v2⟩ := hw k (by omega)
      have pv : zI g 132 k = nI (w k) := by rw [a.1.I (by unfold ouA; omega)]; exact v1
      have le0 : (nI k ≤ (0 : Int32)) = (k ≤ 0) := propext (nI_leI (b := 0) (by omega) (by omega))
      have nl := nwr_le N w k
      refine zTo_of gX6_writePath_5 ?_
      by_cases z : k = 0
      · subst z
        obtain ⟨g2, e2, w2⟩ := r_writeName mg cg.2.1 (show w 0 < 11 by omega) (hnm _ v2) a.2.2 (by omega)
        simp only [f1, le0, Nat.le_refl, mg.1, mg.2.2.2.2.2.2.2.2.2.1, mg.2.2.2.2.2.2.2.2.2.2.2.2.2.2.2.2.2.2.2.2.2.2.1, f2, f3, f4, show ¬ 11 ≤ 0 by omega, pv, e2, zmp_s, zlt_s, zcV_s, zcI_s, zcJ_s, zcA_s, zcD_s, zcF_s, zth_n, zth_t, zrt_s, zQ_l, zQ_r, false_or, or_false, true_or, or_true, false_and, and_false, not_false_eq_true, not_true_eq_false, and_self, true_and, and_true, if_true, if_false, ite_true, ite_false, zgd_t]
        refine ih 1 g2 (by omega) ?_
        have e : nwr N w 1 = nwr N w 0 ++ nlt 6 (N (18 + 3 * w 0)) := by
          show nwr N w 0 ++ ((if 0 = 0 then [] else [62]) ++ nlt 6 (N (18 + 3 * w 0))) = _
          rw [if_pos rfl, List.nil_append]
        rw [e]
        exact a.tr w2
      · obtain ⟨g1, e1, w1⟩ := r_write (k := 62) mg a.2.2 (by omega) (by omega)
        have c1 := w1.mi cg
        have pv1 : zI g1 132 k = nI (w k) := by rw [w1.1.I (by unfold ouA; omega)]; exact pv
        obtain ⟨g2, e2, w2⟩ := r_writeName c1.1 c1.2.1 (show w k < 11 by omega) (hnm _ v2) w1.2.2 (by simp; omega)
        have m1 := c1.1
        have e1' : sX6_write [.ref 125, .int (62 : Int32)] g = _ := e1
        simp only [f1, le0, show ¬ k ≤ 0 by omega, mg.1, e1', m1.1, m1.2.2.2.2.2.2.2.2.2.1, m1.2.2.2.2.2.2.2.2.2.2.2.2.2.2.2.2.2.2.2.2.2.2.1, f2, f3, f4, show ¬ 11 ≤ k by omega, pv1, e2, zmp_s, zlt_s, zcV_s, zcI_s, zcJ_s, zcA_s, zcD_s, zcF_s, zth_n, zth_t, zrt_s, zQ_l, zQ_r, false_or, or_false, true_or, or_true, false_and, and_false, not_false_eq_true, not_true_eq_false, and_self, true_and, and_true, if_true, if_false, ite_true, ite_false, zgd_t]
        refine ih (k + 1) g2 (by omega) ?_
        have e : nwr N w (k + 1) = (nwr N w k ++ [62]) ++ nlt 6 (N (18 + 3 * w k)) := by
          show nwr N w k ++ ((if k = 0 then [] else [62]) ++ nlt 6 (N (18 + 3 * w k))) = _
          rw [if_neg z, List.append_assoc]
        rw [e]
        exact (a.tr w1).tr w2
  have hsim : zW (sX6_writePath [.ref 125, .int (nI n)] h) (fun o => ∃ g, o = (.inl none, g) ∧ WO h (nwr N w n) g) := by
    refine zsem_to (Nat.le_of_ble_eq_true rfl) (zTo_of gX6_writePath_0 ?_)
    simp only [c.1.1, zmp_s, zlt_s, zcV_s, zcI_s, zcJ_s, zcA_s, zcD_s, zcF_s, zth_n, zth_t, zrt_s, zQ_l, zQ_r, false_or, or_false, true_or, or_true, false_and, and_false, not_false_eq_true, not_true_eq_false, and_self, true_and, and_true, if_true, if_false, ite_true, ite_false, zgd_t]
    refine key n 0 _ (by omega) ⟨zFr.sI (Or.inl rfl), fun j hj => by rw [I_sIs, zput_ne _ _ hj], by rw [I_sIs, zput_self]; rfl, by show 0 ≤ 200; omega, fun i hi => absurd hi (Nat.not_lt_zero i)⟩
  obtain ⟨o, e1, g, rfl, e2⟩ := hsim
  exact ⟨g, e1, e2⟩
/-- what a writing leaves -/
def wrA : Nat → Prop := fun c => mqA c ∨ c = 138
theorem q_wr (c : Nat) (h : mqA c) : wrA c := Or.inl h
theorem o_wr (c : Nat) (h : ouA c) : wrA c := by
  unfold ouA at h
  unfold wrA mqA
  omega
def MW (h : zm_H) (N : zLv) (ys : List Int32) (g : zm_H) : Prop := zFr wrA h g ∧ (∀ j, j ≠ 0 → j ≠ 26 → zI g 125 j = zI h 125 j) ∧ ML g 126 N ∧ MO g ys
theorem MW.of {g k : zm_H} {ys : List Int32} (q : MZ N h g) (c : MI h N) (w : WO g ys k) : MW h N ys k :=
  ⟨(q.1.mono q_wr).tr (w.1.mono o_wr), fun j h0 h26 => by rw [w.2.1 j h26, q.2.1 j h0], ML_fr w.1 (by unfold ouA; omega) q.2.2, w.2.2⟩
theorem MO_q {g : zm_H} {ys : List Int32} (q : MZ N h g) (B : MO h ys) : MO g ys := ⟨by rw [q.2.1 26 (by omega)]; exact B.1, B.2.1, fun i hi => by rw [q.1.I (by unfold mqA; omega)]; exact B.2.2 i hi⟩
theorem r_writeWalk (c : MI h N) : MR (sX6_writeWalk [.ref 125] h) (some (.int (nI (nww N).length))) 0 (MW h N (nww N)) := by
  have c1 := c.go (MZ.th c 0)
  have hF := c.2.2
  have hW := hF.1
  have h4 := hW.2.2.1
  have hpw := pow_le hW.1
  obtain ⟨pw, e1, pv⟩ := r_layWalk c1.1 c1.2.1 h4
  have q2 := MZ.path c1 pw
  have c2 := c1.go q2
  obtain ⟨g3, e3, w3⟩ := r_writePath (n := N 4) (w := nwk N) c2 (by omega) (fun k hk => ⟨by rw [I_rIs]; exact pv k hk, hF.wk hk⟩)
  have c3 := w3.mi c2
  obtain ⟨g4, e4, w4⟩ := t_co c3
  have c4 := c3.go w4.1
  have O4 := MO_q w4.1 w3.2.2
  have l4 := c2.2.1.at (i := 4) (by omega) (by omega)
  have cl := nCo_lt hF
  have nl := nwr_le N (nwk N) (N 4)
  have m2 := c2.1
  have a0 : ∀ j, j ≠ 0 → j ≠ 26 → zI g4 125 j = zI h 125 j := fun j h0 h26 => by rw [w4.1.2.1 j h0, w3.2.1 j h26, q2.2.1 j h0, (MZ.th c 0).2.1 j h0]
  have af : zFr wrA h g4 := (((MZ.th c 0).1.tr q2.1).mono q_wr).tr ((w3.1.mono o_wr).tr (w4.1.1.mono q_wr))
  have at0 : zI g4 125 0 = 0 := by rw [w4.2.1, w3.2.1 0 (by omega), th_path, th_0]
  by_cases z : nCo N = 0
  · obtain ⟨g5, e5, w5⟩ := r_write (k := 33) c4.1 O4 (by omega) (by omega)
    have c5 := w5.mi c4
    have e5' : sX6_write [.ref 125, .int (33 : Int32)] g4 = _ := e5
    have ny : nwr N (nwk N) (N 4) ++ [nI 33] = nww N := by unfold nww; rw [if_pos z]; rfl
    rw [ny] at w5
    refine ⟨g5, ?_, ⟨af.tr (w5.1.mono o_wr), fun j h0 h26 => by rw [w5.2.1 j h26]; exact a0 j h0 h26, c5.2.1, w5.2.2⟩, by rw [w5.2.1 0 (by omega)]; exact at0⟩
    have hz : (lg_cmp (lN (nCo N)) (0 : Int64) = 0) = True := by rw [lgeq0 (show nCo N < 2 ^ 63 by omega)]; exact eq_true z
    refine zsem_eq (Nat.le_of_ble_eq_true rfl) (zTo_of gX6_writeWalk_0 ?_)
    simp only [c.1.1, c1.1.1, e1, m2.1, m2.p1, m2.k6, c_4, p_4, l4, show ¬ 149 ≤ 4 by omega, e3, c3.1.1, e4, hz, c4.1.1, e5', c5.1.1, w5.2.2.1, zmp_s, zlt_s, zcV_s, zcI_s, zcJ_s, zcA_s, zcD_s, zcF_s, zth_n, zth_t, zrt_s, zQ_l, zQ_r, false_or, or_false, true_or, or_true, false_and, and_false, not_false_eq_true, not_true_eq_false, and_self, true_and, and_true, if_true, if_false, ite_true, ite_false, zgd_t]
  · have ny : nwr N (nwk N) (N 4) = nww N := by unfold nww; rw [if_neg z, List.append_nil]
    rw [ny] at O4
    refine ⟨g4, ?_, ⟨af, a0, c4.2.1, O4⟩, at0⟩
    have hz : (lg_cmp (lN (nCo N)) (0 : Int64) = 0) = False := by rw [lgeq0 (show nCo N < 2 ^ 63 by omega)]; exact eq_false z
    refine zsem_eq (Nat.le_of_ble_eq_true rfl) (zTo_of gX6_writeWalk_0 ?_)
    simp only [c.1.1, c1.1.1, e1, m2.1, m2.p1, m2.k6, c_4, p_4, l4, show ¬ 149 ≤ 4 by omega, e3, c3.1.1, e4, hz, c4.1.1, O4.1, zmp_s, zlt_s, zcV_s, zcI_s, zcJ_s, zcA_s, zcD_s, zcF_s, zth_n, zth_t, zrt_s, zQ_l, zQ_r, false_or, or_false, true_or, or_true, false_and, and_false, not_false_eq_true, not_true_eq_false, and_self, true_and, and_true, if_true, if_false, ite_true, ite_false, zgd_t]
theorem r_writeTour {k : Nat} (c : MI h N) (hk : k < nTo N) : MR (sX6_writeTour [.ref 125, .long (lN k)] h) (some (.int (nI (nwr N (nTp N k) (N 0)).length))) 0 (MW h N (nwr N (nTp N k) (N 0))) := by
  obtain ⟨g, e1, w⟩ := t_isRank c hk
  have c1 := c.go w.1
  have c2 := c1.go (MZ.th c1 0)
  have hF := c.2.2
  have h0 := hF.1.1
  have fr : zFr (fun q => q = 125) g (zsI g 125 0 0) := zFr.sI rfl
  obtain ⟨pw, e2, pv⟩ := r_tourPath c2.1 c2.2.1 c2.2.2 (NXT_fr fr (by omega) w.2.2.1) (WY_fr fr (by omega) w.2.2.2) hk
  have e4 := r_layStart c2.1 c2.2.1
  have q3 := MZ.path c2 pw
  have c3 := c2.go q3
  obtain ⟨g4, e5, w5⟩ := r_writePath (n := N 0) (w := nTp N k) c3 h0 (fun p hp => ⟨by rw [I_rIs]; exact pv p hp, nTp_lt hF hk hp⟩)
  have c4 := w5.mi c3
  have a2 : zK (zsI (zsI g 125 0 0) 132 0 (nI (N 2))) = zK (zsI g 125 0 0) := rfl
  refine ⟨g4, ?_, MW.of ((w.1.tr (MZ.th c1 0)).tr q3) c w5, by rw [w5.2.1 0 (by omega), th_path, th_0]⟩
  have m3 := c3.1
  refine zsem_eq (Nat.le_of_ble_eq_true rfl) (zTo_of gX6_writeTour_0 ?_)
  simp only [c.1.1, e1, i10, c1.1.1, p1_t c1.1, c2.1.1, e4, a2, e2, m3.1, r_rooms c3.1 c3.2.1, e5, c4.1.1, w5.2.2.1, zmp_s, zlt_s, zcV_s, zcI_s, zcJ_s, zcA_s, zcD_s, zcF_s, zth_n, zth_t, zrt_s, zQ_l, zQ_r, false_or, or_false, true_or, or_true, false_and, and_false, not_false_eq_true, not_true_eq_false, and_self, true_and, and_true, if_true, if_false, ite_true, ite_false, zgd_t]
theorem r_writeTourX {x : Int64} (c : MI h N) (hx : x < 0 ∨ lN (nTo N) ≤ x) : MR (sX6_writeTour [.ref 125, .long x] h) (some (.int 0)) 1 (MZ N h) := by
  obtain ⟨g, e1, w, e2⟩ := t_isRankX c hx
  have c1 := c.go w
  refine ⟨zsI g 125 0 1, ?_, w.tr (MZ.th c1 1), th_0⟩
  refine zsem_eq (Nat.le_of_ble_eq_true rfl) (zTo_of gX6_writeTour_0 ?_)
  simp only [c.1.1, e1, c1.1.1, p1_f c1.1, zmp_s, zlt_s, zcV_s, zcI_s, zcJ_s, zcA_s, zcD_s, zcF_s, zth_n, zth_t, zrt_s, zQ_l, zQ_r, false_or, or_false, true_or, or_true, false_and, and_false, not_false_eq_true, not_true_eq_false, and_self, true_and, and_true, if_true, if_false, ite_true, ite_false, zgd_t]
theorem r_outputByte {ys : List Int32} {k : Nat} (c : MI h N) (B : MO h ys) (hk : k < ys.length) : MR (sX6_outputByte [.ref 125, .int (nI k)] h) (some (.int (ys.getD k 0))) 0 (MZ N h) := by
  have c1 := c.go (MZ.th c 0)
  have O1 := MO_q (MZ.th c 0) B
  have hb := B.2.1
  have m1 := c1.1
  refine ⟨zsI h 125 0 0, ?_, MZ.th c 0, th_0⟩
  refine zsem_eq (Nat.le_of_ble_eq_true rfl) (zTo_of gX6_outputByte_0 ?_)
  simp only [c.1.1, B.1, in_t hk (show ys.length < 2 ^ 31 by omega), p1_t c.1, i10, m1.1, m1.2.2.2.2.2.2.2.2.2.2.2.2.2.2.2.1, m1.2.2.2.2.2.2.2.2.2.2.2.2.2.2.2.2.2.2.2.2.2.2.2.2.2.2.2.2, nI_clamp (show k < 2 ^ 31 by omega), nI_lt0 (show k < 2 ^ 31 by omega), show ¬ 200 ≤ k by omega, O1.2.2 k hk, zmp_s, zlt_s, zcV_s, zcI_s, zcJ_s, zcA_s, zcD_s, zcF_s, zth_n, zth_t, zrt_s, zQ_l, zQ_r, false_or, or_false, true_or, or_true, false_and, and_false, not_false_eq_true, not_true_eq_false, and_self, true_and, and_true, if_true, if_false, ite_true, ite_false, zgd_t]
theorem r_outputByteX {ys : List Int32} {x : Int32} (c : MI h N) (B : MO h ys) (hx : x < 0 ∨ nI ys.length ≤ x) : MR (sX6_outputByte [.ref 125, .int x] h) (some (.int 0)) 1 (MZ N h) := by
  have hb := B.2.1
  refine ⟨zsI h 125 0 1, ?_, MZ.th c 1, th_0⟩
  refine zsem_eq (Nat.le_of_ble_eq_true rfl) (zTo_of gX6_outputByte_0 ?_)
  simp only [c.1.1, B.1, in_f (show ys.length < 2 ^ 31 by omega) hx (m1_toInt (show ys.length < 2 ^ 31 by omega)), p1_f c.1, zmp_s, zlt_s, zcV_s, zcI_s, zcJ_s, zcA_s, zcD_s, zcF_s, zth_n, zth_t, zrt_s, zQ_l, zQ_r, false_or, or_false, true_or, or_true, false_and, and_false, not_false_eq_true, not_true_eq_false, and_self, true_and, and_true, if_true, if_false, ite_true, ite_false, zgd_t]
end
end ZMS
