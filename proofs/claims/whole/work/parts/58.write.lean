/-! THE CLASS: walks, tours and doors written. -/
section ZCI
theorem nlt_le : ∀ f c, (nlt f c).length ≤ f := by
  intro f
  induction f with
  | zero => intro c; exact Nat.le_refl _
  | succ f ih =>
    intro c
    unfold nlt
    split
    · exact Nat.zero_le _
    · rw [List.length_append]
      have := ih (c / 27)
      simp
      omega
/-- the rooms w 0 .. as they are written -/
def nwr (N : zLv) (w : Nat → Nat) : Nat → List Int32
  | 0 => []
  | k + 1 => nwr N w k ++ ((if k = 0 then [] else [62]) ++ nlt 6 (N (18 + 3 * w k)))
theorem nwr_le (N : zLv) (w : Nat → Nat) : ∀ n, (nwr N w n).length ≤ 7 * n := by
  intro n
  induction n with
  | zero => exact Nat.le_refl _
  | succ n ih =>
    unfold nwr
    rw [List.length_append, List.length_append]
    have := nlt_le 6 (N (18 + 3 * w n))
    split
    · show _ + (0 + _) ≤ _; omega
    · show _ + (1 + _) ≤ _; omega
theorem m_writeRooms {h : zm_H} {N : zLv} {q n : Nat} {w : Nat → Nat} (c : CI h N) (hq : q ≠ 3 ∧ q ≠ 4) (kq : zK h q = (0, 11)) (hn : n ≤ 11) (hw : ∀ i, i < n → zI h q i = nI (w i) ∧ w i < N 0) :
    ∃ g, sX5_writeRooms [.ref 0, .ref q, .int (nI n)] h = some (.inl none, g) ∧ zFr (fun c => c = 3 ∨ c = 4) h g ∧ BL g 3 4 77 (nwr N w n) := by
  have hF := c.2.2.1
  have h0 := hF.1.1
  obtain ⟨R, hR⟩ : ∃ R : zm_O → Prop, R = (fun o => ∃ g, o = (.inl none, g) ∧ zFr (fun c => c = 3 ∨ c = 4) h g ∧ BL g 3 4 77 (nwr N w n)) := ⟨_, rfl⟩
  have key : ∀ d k g, k + d = n → zFr (fun c => c = 3 ∨ c = 4) h g → BL g 3 4 77 (nwr N w k) → zTo vX5_writeRooms rX5_writeRooms (6, [some (.ref 0), some (.ref q), some (.int (nI n)), some (.int (nI k))], [], g) R := by
    intro d
    induction d with
    | zero =>
      intro k g hk fr B
      have hk : k = n := by omega
      subst hk
      refine zTo_of gX5_writeRooms_6 ?_
      simp only [nI_le (Nat.le_refl _) (show k < 2 ^ 31 by omega), zmp_s, zlt_s, zcV_s, zcI_s, zcJ_s, zcA_s, zcD_s, zcF_s, zth_n, zth_t, zrt_s, zQ_l, zQ_r, false_or, or_false, true_or, or_true, false_and, and_false, not_false_eq_true, not_true_eq_false, and_self, true_and, and_true, if_true, if_false, ite_true, ite_false]
      rw [hR]
      exact ⟨g, rfl, fr, B⟩
    | succ d ih =>
      intro k g hk fr B
      have cg := c.fr fr (fun c hc => by omega)
      have b0 := cg.out B
      have hL := cg.2.1
      have hk0 := cg.1
      obtain ⟨hk1, -⟩ := cg
      have hk2 := hk1
      have lw := nwr_le N w k
      obtain ⟨f1, f2, f3, f4⟩ := nI_for (show k < n by omega) (by omega)
      obtain ⟨wk, wl⟩ := hw k (by omega)
      have wg : zI g q k = nI (w k) := by rw [fr.I (by omega)]; exact wk
      have kg : zK g q = (0, 11) := by rw [fr.K]; exact kq
      have q0 := hk1.1
      have r1 := hk1.2.2.1
      have r2 := hk1.2.2.2.1
      have hS := hk1.2.2.2.2.2.2.2.2.2.2.2.2.2.2.2.2.1
      have o0 := b0.1
      have ln := hL.2.2.2.2.2.1 (w k) wl
      have nm := hF.2.2.2.2.2.2.2.2 (w k) wl
      have i1 := nI_clamp (show w k < 2 ^ 31 by omega)
      have i2 := nI_lt0 (show w k < 2 ^ 31 by omega)
      have kz : (nI k ≤ 0) = (k = 0) := propext ((nI_leI (b := 0) (by omega) (by omega)).trans Nat.le_zero)
      obtain ⟨k0, p1, p2, p3, p5, p6, p7, p8, p9, p12, p14, k1, k2, k3, k4, k5, k6, k7, k8, k9, k10⟩ := hS
      by_cases z : k = 0
      · obtain ⟨g1, s1, t1⟩ := q_addName b0 (show (nwr N w k).length + 6 ≤ 77 by omega) (by omega) (by omega) nm
        refine zTo_of gX5_writeRooms_6 ?_
        have kt : (nI k ≤ 0) = True := by rw [kz]; exact eq_true z
        simp only [f1, kt, f2, f3, f4, q0, r1, r2, k0, p1, k1, kg, wg, i1, i2, show ¬ 11 ≤ k by omega, show ¬ 11 ≤ w k by omega, ln, o0, s1, zmp_s, zlt_s, zcV_s, zcI_s, zcJ_s, zcA_s, zcD_s, zcF_s, zth_n, zth_t, zrt_s, zQ_l, zQ_r, false_or, or_false, true_or, or_true, false_and, and_false, not_false_eq_true, not_true_eq_false, and_self, true_and, and_true, if_true, if_false, ite_true, ite_false, zgd_t]
        refine ih (k + 1) g1 (by omega) (fr.tr t1.1) ?_
        have e : nwr N w (k + 1) = nwr N w k ++ nlt 6 (N (18 + 3 * w k)) := by
          rw [nwr, if_pos z, List.nil_append]
        rw [e]
        exact BL_add B t1 (by have := nlt_le 6 (N (18 + 3 * w k)); omega)
      · obtain ⟨g1, s1, t1⟩ := byG_one (62 : Int32) b0 (show (nwr N w k).length < 77 by omega) (by omega) (by omega)
        have b1 := byG_S b0 t1
        obtain ⟨g2, s2, t2⟩ := q_addName b1 (by show (nwr N w k).length + 1 + 6 ≤ 77; omega) (by omega) (by omega) nm
        have u2 := byG_app t1 t2
        have K1 := t1.1.K
        have P1 := t1.1.P
        have w1 : zI g1 q = zI g q := t1.1.I (by omega)
        have j1 : zJ g1 (L5 + 1) = zJ g (L5 + 1) := t1.1.J (by rw [L5e]; omega)
        have kf : (nI k ≤ 0) = False := by rw [kz]; exact eq_false z
        refine zTo_of gX5_writeRooms_6 ?_
        simp only [f1, kf, f2, f3, f4, q0, r1, r2, k0, p1, k1, kg, i1, i2, show ¬ 11 ≤ k by omega, show ¬ 11 ≤ w k by omega, o0, s1, K1, P1, w1, wg, j1, ln, s2, zmp_s, zlt_s, zcV_s, zcI_s, zcJ_s, zcA_s, zcD_s, zcF_s, zth_n, zth_t, zrt_s, zQ_l, zQ_r, false_or, or_false, true_or, or_true, false_and, and_false, not_false_eq_true, not_true_eq_false, and_self, true_and, and_true, if_true, if_false, ite_true, ite_false, zgd_t]
        refine ih (k + 1) g2 (by omega) (fr.tr u2.1) ?_
        have e : nwr N w (k + 1) = nwr N w k ++ ([(62 : Int32) &&& 255] ++ nlt 6 (N (18 + 3 * w k))) := by
          rw [nwr, if_neg z]; rfl
        rw [e]
        exact BL_add B u2 (by rw [List.length_append]; show _ + (1 + _) ≤ 77; have := nlt_le 6 (N (18 + 3 * w k)); omega)
  have q0 := c.1.1
  have r1 := c.1.2.2.1
  have hk := c.1
  have o00 : zK h 3 = (6, 2) := by
    obtain ⟨q0, r0, r1, r2, r3, r4, r5, r6, r7, r9, i0, i1, i2, o0, o1, o2, v5, v16, hh, v96, v107, sl0, sl1, sl2, fl0, tb, rw0⟩ := hk
    exact o0
  have hsim : zW (sX5_writeRooms [.ref 0, .ref q, .int (nI n)] h) R := by
    refine zsem_to (Nat.le_of_ble_eq_true rfl) (zTo_of gX5_writeRooms_0 ?_)
    simp only [q0, r1, o00, zmp_s, zlt_s, zcV_s, zcI_s, zcJ_s, zcA_s, zcD_s, zcF_s, zth_n, zth_t, zrt_s, zQ_l, zQ_r, false_or, or_false, true_or, or_true, false_and, and_false, not_false_eq_true, not_true_eq_false, and_self, true_and, and_true, if_true, if_false, ite_true, ite_false, zgd_t]
    refine key n 0 (zsI h 3 1 0) (by omega) (zFr.sI (Or.inl rfl)) ⟨?_, Nat.zero_le _, fun i hi => absurd hi (Nat.not_lt_zero i)⟩
    rw [I_sIs, zput_self]; rfl
  rw [hR] at hsim
  obtain ⟨o, h1, g, rfl, h2⟩ := hsim
  exact ⟨g, h1, h2⟩
end ZCI
