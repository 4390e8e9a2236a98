/-! THE CLASS: a door written. -/
section ZCK
theorem ndg_le (v : Nat) : (ndg v).length ≤ 3 := by
  unfold ndg
  rw [List.length_append, List.length_append]
  split <;> split <;> simp
def ndw0 (N : zLv) (d : Nat) : List Int32 := (nlt 6 (N (18 + 3 * N (49 + 5 * d))) ++ [if N (53 + 5 * d) = 0 then 45 else 62]) ++ nlt 6 (N (18 + 3 * N (50 + 5 * d)))
def ndw (N : zLv) (d : Nat) : List Int32 := if N (51 + 5 * d) = 0 then ndw0 N d else ((ndw0 N d ++ [32]) ++ [if N (51 + 5 * d) = 1 then 107 else 116]) ++ ndg (N (52 + 5 * d))
def fr34 : Nat → Prop := fun c => c = 3 ∨ c = 4
theorem w_one {h : zm_H} {N : zLv} {ys : List Int32} (c : CI h N) (B : BL h 3 4 77 ys) {x : Int32} (hx : x &&& 255 = x) (hl : ys.length < 77) : ∃ g, sX0_add [.ref 3, .int x] h = some (.inl none, g) ∧ zFr fr34 h g ∧ CI g N ∧ BL g 3 4 77 (ys ++ [x]) := by
  obtain ⟨g, s, t⟩ := byG_one x (c.out B) hl (by omega) (by omega)
  rw [hx] at t
  exact ⟨g, s, t.1, c.fr t.1 (fun c hc => by omega), BL_add B t (by show _ + 1 ≤ 77; omega)⟩
theorem w_name {h : zm_H} {N : zLv} {ys : List Int32} (c : CI h N) (B : BL h 3 4 77 ys) {r : Nat} (hr : r < N 0) (hl : ys.length + 6 ≤ 77) : ∃ g, sX0_addName [.ref 3, .long (zJ h (L5 + 1) r)] h = some (.inl none, g) ∧ zFr fr34 h g ∧ CI g N ∧ BL g 3 4 77 (ys ++ nlt 6 (N (18 + 3 * r))) := by
  rw [c.2.1.2.2.2.2.2.1 r hr]
  obtain ⟨g, s, t⟩ := q_addName (c.out B) hl (by omega) (by omega) (c.2.2.1.2.2.2.2.2.2.2.2 r hr)
  have := nlt_le 6 (N (18 + 3 * r))
  exact ⟨g, s, t.1, c.fr t.1 (fun c hc => by omega), BL_add B t (by omega)⟩
theorem w_num {h : zm_H} {N : zLv} {ys : List Int32} (c : CI h N) (B : BL h 3 4 77 ys) {v : Nat} (hv : v < 1000) (hl : ys.length + 3 ≤ 77) : ∃ g, sX0_addNumber [.ref 3, .int (nI v)] h = some (.inl none, g) ∧ zFr fr34 h g ∧ CI g N ∧ BL g 3 4 77 (ys ++ ndg v) := by
  obtain ⟨g, s, t⟩ := q_addNumber (c.out B) hl (by omega) (by omega) hv
  have := ndg_le v
  exact ⟨g, s, t.1, c.fr t.1 (fun c hc => by omega), BL_add B t (by omega)⟩
theorem m_writeDoor {h : zm_H} {N : zLv} {d : Nat} (c : CI h N) (hd : d < N 1) :
    ∃ g, sX5_writeDoor [.ref 0, .int (nI d)] h = some (.inl (some (.int (nI (ndw N d).length))), g) ∧ zFr fr34 h g ∧ CI g N ∧ BL g 3 4 77 (ndw N d) := by
  have hF := c.2.2.1
  have hW := hF.1
  have hn := hW.1
  have hdn := hW.2.1
  obtain ⟨d1, d2, -, d3, d4, -, d5⟩ := hW.2.2.2.2.1 d hd
  obtain ⟨h1, hh1⟩ : ∃ h1, h1 = zsI h 3 1 (0 : Int32) := ⟨_, rfl⟩
  have fr1 : zFr fr34 h h1 := by rw [hh1]; exact zFr.sI (Or.inl rfl)
  have c1 := c.fr fr1 (fun c hc e => by unfold fr34 at e; omega)
  have B1 : BL h1 3 4 77 [] := ⟨by rw [hh1, I_sIs, zput_self]; rfl, Nat.zero_le _, fun i hi => absurd hi (Nat.not_lt_zero i)⟩
  obtain ⟨h2, s2, fr2, c2, B2⟩ := w_name c1 B1 d1 (by show 0 + 6 ≤ 77; omega)
  rw [List.nil_append] at B2
  have n1 := nlt_le 6 (N (18 + 3 * N (49 + 5 * d)))
  have n2 := nlt_le 6 (N (18 + 3 * N (50 + 5 * d)))
  obtain ⟨x, hx⟩ : ∃ x : Int32, x = if N (53 + 5 * d) = 0 then 45 else 62 := ⟨_, rfl⟩
  obtain ⟨h3, s3, fr3, c3, B3⟩ := w_one c2 B2 (x := x) (by rw [hx]; split <;> decide) (by omega)
  obtain ⟨h4, s4, fr4, c4, B4⟩ := w_name c3 B3 d2 (by rw [List.length_append]; show _ + 1 + 6 ≤ 77; omega)
  have e4 : ndw0 N d = (nlt 6 (N (18 + 3 * N (49 + 5 * d))) ++ [x]) ++ nlt 6 (N (18 + 3 * N (50 + 5 * d))) := by rw [hx]; rfl
  rw [← e4] at B4
  have l4 : (ndw0 N d).length ≤ 13 := by
    rw [e4, List.length_append, List.length_append]
    show _ + 1 + _ ≤ 13; omega
  have F2 := fr1.tr fr2
  have F3 := F2.tr fr3
  have F4 := F3.tr fr4
  have ij : ∀ {g : zm_H} (fr : zFr fr34 h g) (j : Nat), zI g (L5 + j) = zI h (L5 + j) := fun fr j => fr.I (fun e => by unfold fr34 at e; rw [L5e] at e; omega)
  have hL := c.2.1
  have lf := hL.2.2.2.2.2.2.2.2.1 d hd
  have lt := hL.2.2.2.2.2.2.2.2.2.1 d hd
  have lk := hL.2.2.2.2.2.2.2.2.2.2.1 d hd
  have ln := hL.2.2.2.2.2.2.2.2.2.2.2.1 d hd
  have lo := hL.2.2.2.2.2.2.2.2.2.2.2.2.1 d hd
  have g1f : zI h1 (L5 + 4) d = nI (N (49 + 5 * d)) := by rw [ij fr1]; exact lf
  have g2o : zI h2 (L5 + 8) d = nI (N (53 + 5 * d)) := by rw [ij F2]; exact lo
  have g3t : zI h3 (L5 + 5) d = nI (N (50 + 5 * d)) := by rw [ij F3]; exact lt
  have g4k : zI h4 (L5 + 6) d = nI (N (51 + 5 * d)) := by rw [ij F4]; exact lk
  have oz := nI_eq0 (n := N (53 + 5 * d)) (by omega)
  have kz := nI_eq0 (n := N (51 + 5 * d)) (by omega)
  have hk := c.1
  have hS := c.1.2.2.2.2.2.2.2.2.2.2.2.2.2.2.2.2.1
  have q0 := c.1.1
  have r1 := c.1.2.2.1
  have r2 := c.1.2.2.2.1
  have o0 := (c1.out B1).1
  rw [fr1.K] at o0
  have f2 := nI_clamp (show d < 2 ^ 31 by omega)
  have f3 := nI_lt0 (show d < 2 ^ 31 by omega)
  have f5 : ¬ 20 ≤ d := by omega
  have i1 := nI_clamp (show N (49 + 5 * d) < 2 ^ 31 by omega)
  have i2 := nI_lt0 (show N (49 + 5 * d) < 2 ^ 31 by omega)
  have i3 : ¬ 11 ≤ N (49 + 5 * d) := by omega
  have j1 := nI_clamp (show N (50 + 5 * d) < 2 ^ 31 by omega)
  have j2 := nI_lt0 (show N (50 + 5 * d) < 2 ^ 31 by omega)
  have j3 : ¬ 11 ≤ N (50 + 5 * d) := by omega
  have K1 := fr1.K
  have P1 := fr1.P
  have K2 := F2.K
  have P2 := F2.P
  have K3 := F3.K
  have P3 := F3.P
  have K4 := F4.K
  have P4 := F4.P
  obtain ⟨k0, p1, p2, p3, p5, p6, p7, p8, p9, p12, p14, k1, k2, k3, k4, k5, k6, k7, k8, k9, k10⟩ := hS
  by_cases w : N (51 + 5 * d) = 0
  · have e : ndw N d = ndw0 N d := if_pos w
    have l := B4.1
    have kt : (nI (N (51 + 5 * d)) = 0) = True := by rw [kz]; exact eq_true w
    refine ⟨h4, ?_, F4, c4, by rw [e]; exact B4⟩
    rw [e]
    by_cases v : N (53 + 5 * d) = 0
    · rw [if_pos v] at hx
      rw [hx] at s3
      have ot : (nI (N (53 + 5 * d)) = 0) = True := by rw [oz]; exact eq_true v
      refine zsem_eq (Nat.le_of_ble_eq_true rfl) (zTo_of gX5_writeDoor_0 ?_)
      simp only [m_needDoor c hd, q0, r1, r2, o0, k0, p1, p5, p6, p7, p9, k1, k4, k5, k6, k8, f2, f3, f5, ← hh1, K1, P1, g1f, i1, i2, i3, s2, K2, P2, g2o, ot, s3, K3, P3, g3t, j1, j2, j3, s4, K4, P4, g4k, kt, l, zmp_s, zlt_s, zcV_s, zcI_s, zcJ_s, zcA_s, zcD_s, zcF_s, zth_n, zth_t, zrt_s, zQ_l, zQ_r, false_or, or_false, true_or, or_true, false_and, and_false, not_false_eq_true, not_true_eq_false, and_self, true_and, and_true, if_true, if_false, ite_true, ite_false, zgd_t]
    · rw [if_neg v] at hx
      rw [hx] at s3
      have ot : (nI (N (53 + 5 * d)) = 0) = False := by rw [oz]; exact eq_false v
      refine zsem_eq (Nat.le_of_ble_eq_true rfl) (zTo_of gX5_writeDoor_0 ?_)
      simp only [m_needDoor c hd, q0, r1, r2, o0, k0, p1, p5, p6, p7, p9, k1, k4, k5, k6, k8, f2, f3, f5, ← hh1, K1, P1, g1f, i1, i2, i3, s2, K2, P2, g2o, ot, s3, K3, P3, g3t, j1, j2, j3, s4, K4, P4, g4k, kt, l, zmp_s, zlt_s, zcV_s, zcI_s, zcJ_s, zcA_s, zcD_s, zcF_s, zth_n, zth_t, zrt_s, zQ_l, zQ_r, false_or, or_false, true_or, or_true, false_and, and_false, not_false_eq_true, not_true_eq_false, and_self, true_and, and_true, if_true, if_false, ite_true, ite_false, zgd_t]
  · have kt : (nI (N (51 + 5 * d)) = 0) = False := by rw [kz]; exact eq_false w
    have k1' : (nI (N (51 + 5 * d)) = 1) = (N (51 + 5 * d) = 1) := propext (nI_eq (b := 1) (by omega) (by omega))
    obtain ⟨y, hy⟩ : ∃ y : Int32, y = if N (51 + 5 * d) = 1 then 107 else 116 := ⟨_, rfl⟩
    obtain ⟨h5, s5, fr5, c5, B5⟩ := w_one c4 B4 (x := 32) (by decide) (by omega)
    obtain ⟨h6, s6, fr6, c6, B6⟩ := w_one c5 B5 (x := y) (by rw [hy]; split <;> decide) (by rw [List.length_append]; show _ + 1 < 77; omega)
    obtain ⟨h7, s7, fr7, c7, B7⟩ := w_num c6 B6 (v := N (52 + 5 * d)) (by omega) (by rw [List.length_append, List.length_append]; show _ + 1 + 1 + 3 ≤ 77; omega)
    have e : ndw N d = ((ndw0 N d ++ [32]) ++ [y]) ++ ndg (N (52 + 5 * d)) := by unfold ndw; rw [if_neg w, hy]
    rw [← e] at B7
    have F5 := F4.tr fr5
    have F6 := F5.tr fr6
    have F7 := F6.tr fr7
    have g5k : zI h5 (L5 + 6) d = nI (N (51 + 5 * d)) := by rw [ij F5]; exact lk
    have g6n : zI h6 (L5 + 7) d = nI (N (52 + 5 * d)) := by rw [ij F6]; exact ln
    have K5 := F5.K
    have P5 := F5.P
    have K6 := F6.K
    have P6 := F6.P
    have K7 := F7.K
    have P7 := F7.P
    have l := B7.1
    refine ⟨h7, ?_, F7, c7, B7⟩
    refine zsem_eq (Nat.le_of_ble_eq_true rfl) (zTo_of gX5_writeDoor_0 ?_)
    by_cases v : N (53 + 5 * d) = 0 <;> by_cases u : N (51 + 5 * d) = 1
    all_goals
      first | rw [if_pos v] at hx | rw [if_neg v] at hx
      first | rw [if_pos u] at hy | rw [if_neg u] at hy
      rw [hx] at s3
      rw [hy] at s6
      first | have ot := oz.trans (eq_true v) | have ot := oz.trans (eq_false v)
      first | have ut := k1'.trans (eq_true u) | have ut := k1'.trans (eq_false u)
      simp only [m_needDoor c hd, q0, r1, r2, o0, k0, p1, p5, p6, p7, p8, p9, k1, k4, k5, k6, k7, k8, f2, f3, f5, ← hh1, K1, P1, g1f, i1, i2, i3, s2, K2, P2, g2o, ot, s3, K3, P3, g3t, j1, j2, j3, s4, K4, P4, g4k, kt, s5, K5, P5, g5k, ut, s6, K6, P6, g6n, s7, K7, P7, l, zmp_s, zlt_s, zcV_s, zcI_s, zcJ_s, zcA_s, zcD_s, zcF_s, zth_n, zth_t, zrt_s, zQ_l, zQ_r, false_or, or_false, true_or, or_true, false_and, and_false, not_false_eq_true, not_true_eq_false, and_self, true_and, and_true, if_true, if_false, ite_true, ite_false, zgd_t]
theorem m_writeDoorX {h : zm_H} {N : zLv} {x : Int32} (c : CI h N) (hx : x < 0 ∨ nI (N 1) ≤ x) : sX5_writeDoor [.ref 0, .int x] h = some (.inr 2, h) := by
  have q0 := c.1.1
  refine zsem_eq (Nat.le_of_ble_eq_true rfl) (zTo_of gX5_writeDoor_0 ?_)
  simp only [q0, m_needDoorX c hx, zmp_s, zlt_s, zcV_s, zcI_s, zcJ_s, zcA_s, zcD_s, zcF_s, zth_n, zth_t, zrt_s, zQ_l, zQ_r, zgd_t]
end ZCK
