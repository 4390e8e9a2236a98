/-! THE MODEL: doors added, start and end, moves of the walk. -/
section ZMQ
/-- one door more, of any kind -/
def nAo (N : zLv) (r s k v o : Nat) : zLv := zput (zput (zput (zput (zput (zput N 1 (N 1 + 1)) (49 + 5 * N 1) r) (50 + 5 * N 1) s) (51 + 5 * N 1) k) (52 + 5 * N 1) v) (53 + 5 * N 1) o
theorem nAo_add (N : zLv) (r s : Nat) (b : Bool) : nAo N r s 0 0 (if b then 1 else 0) = nAdd N r s b := by
  unfold nAo nAdd nAddD
  generalize N 1 = q
  funext i
  unfold zput
  by_cases e1 : i = 1
  · subst e1
    rw [if_neg (by omega), if_neg (by omega), if_neg (by omega), if_neg (by omega), if_neg (by omega), if_pos rfl, if_neg (by omega), if_pos rfl]
  · by_cases e3 : i = 53 + 5 * q
    · rw [if_pos e3, if_pos e3]
    · rw [if_neg e3, if_neg e3, if_neg e1, if_neg e1]
      by_cases e4 : i = 52 + 5 * q
      · rw [if_pos e4, if_pos e4]
      · rw [if_neg e4, if_neg e4]
        by_cases e5 : i = 51 + 5 * q
        · rw [if_pos e5, if_pos e5]
        · rw [if_neg e5, if_neg e5, if_neg e3]
theorem eI_end {g : zm_H} {q : Nat} {M : zLv} {x : Nat} (mL : ML g q M) : ML (zsI g q 3 (eI x)) q (zput M 3 x) := fun j hj => by
  rw [I_sIs]
  by_cases e : j = 3
  · rw [e, zput_self, mI_3, zput_self]
  · rw [zput_ne _ _ e, mL j hj, mI_n e, mI_n e, zput_ne _ _ e]
section
variable {h : zm_H} {N : zLv} {P : List zLv}
theorem r_addOne {q : Nat} (m0 : moS h q) (mL : ML h q N) (h1 : N 1 < 20) {r s k v : Nat} {b : Bool} : ∃ g, sX6_addOne [.ref 125, .int (nI r), .int (nI s), .int (nI k), .int (nI v), .int (zb b)] h = some (.inl none, g) ∧ zFr (fun c => c = q) h g ∧ ML g q (nAo N r s k v (if b then 1 else 0)) := by
  have l1 := mL.at (i := 1) (by omega) (by omega)
  have rd := r_doors m0 mL
  obtain ⟨n, hn⟩ : ∃ n, n = N 1 := ⟨_, rfl⟩
  have a1 := ML_put (i := 1) (x := N 1 + 1) mL (by omega)
  have a2 := ML_put (i := 49 + 5 * N 1) (x := r) a1 (by omega)
  have a3 := ML_put (i := 50 + 5 * N 1) (x := s) a2 (by omega)
  have a4 := ML_put (i := 51 + 5 * N 1) (x := k) a3 (by omega)
  have a5 := ML_put (i := 52 + 5 * N 1) (x := v) a4 (by omega)
  have a6 := ML_put (i := 53 + 5 * N 1) (x := if b then 1 else 0) a5 (by omega)
  have F : ∀ {g : zm_H} {i : Nat} {x : Int32}, zFr (fun c => c = q) h g → zFr (fun c => c = q) h (zsI g q i x) := fun f => f.tr (zFr.sI rfl)
  have f0 : zFr (fun c => c = q) h h := zFr.rf
  have e0 : zK h 125 = (12, 27) := m0.1
  have e3 : zP h 125 3 = some q := m0.2.1
  have eq1 : zK h q = (0, 149) := m0.2.2.1
  have ef : nI (if b = true then 1 else 0) = zb b := by cases b <;> rfl
  refine ⟨_, ?_, F (F (F (F (F (F f0))))), a6⟩
  rw [ef]
  refine zsem_eq (Nat.le_of_ble_eq_true rfl) (zTo_of gX6_addOne_0 ?_)
  simp only [e0, rd, e3, eq1, K_sI, K_sJ, K_sD, K_sP, K_rI, K_rJ, P_sI, P_sJ, P_sD, P_rI, P_rJ, N_sI, N_sJ, N_sD, N_sP, N_rI, N_rJ, J_sI, J_sD, J_sP, J_rI, I_sJ, I_sD, I_sP, I_rJ, D_sI, D_sJ, D_sP, D_rI, D_rJ, c_1, p_1, show ¬ 149 ≤ 1 by omega, l1, nI_1, ix49_0, ix49_1, ix49_2, ix49_3, ix49_4, nI_clamp (show 49 + 5 * N 1 < 2 ^ 31 by omega), nI_lt0 (show 49 + 5 * N 1 < 2 ^ 31 by omega), show ¬ 149 ≤ 49 + 5 * N 1 by omega, nI_clamp (show 50 + 5 * N 1 < 2 ^ 31 by omega), nI_lt0 (show 50 + 5 * N 1 < 2 ^ 31 by omega), show ¬ 149 ≤ 50 + 5 * N 1 by omega, nI_clamp (show 51 + 5 * N 1 < 2 ^ 31 by omega), nI_lt0 (show 51 + 5 * N 1 < 2 ^ 31 by omega), show ¬ 149 ≤ 51 + 5 * N 1 by omega, nI_clamp (show 52 + 5 * N 1 < 2 ^ 31 by omega), nI_lt0 (show 52 + 5 * N 1 < 2 ^ 31 by omega), show ¬ 149 ≤ 52 + 5 * N 1 by omega, nI_clamp (show 53 + 5 * N 1 < 2 ^ 31 by omega), nI_lt0 (show 53 + 5 * N 1 < 2 ^ 31 by omega), show ¬ 149 ≤ 53 + 5 * N 1 by omega, zmp_s, zlt_s, zcV_s, zcI_s, zcJ_s, zcA_s, zcD_s, zcF_s, zth_n, zth_t, zrt_s, zQ_l, zQ_r, false_or, or_false, true_or, or_true, false_and, and_false, not_false_eq_true, not_true_eq_false, and_self, true_and, and_true, if_true, if_false, ite_true, ite_false, zgd_t]
  cases b
  · simp only [zb_f, false_or, or_false, true_or, or_true, false_and, and_false, not_false_eq_true, not_true_eq_false, and_self, true_and, and_true, if_true, if_false, ite_true, ite_false, zmp_s, zlt_s, zcV_s, zcI_s, zcJ_s, zcA_s, zcD_s, zcF_s, zth_n, zth_t, zrt_s, zQ_l, zQ_r]
  · simp only [zb_t, i10, false_or, or_false, true_or, or_true, false_and, and_false, not_false_eq_true, not_true_eq_false, and_self, true_and, and_true, if_true, if_false, ite_true, ite_false, zmp_s, zlt_s, zcV_s, zcI_s, zcJ_s, zcA_s, zcD_s, zcF_s, zth_n, zth_t, zrt_s, zQ_l, zQ_r]
theorem r_addDoor {r s : Nat} {b : Bool} (c : MI h N) (H : HP h P) (hr : r < N 0) (hs : s < N 0) (hne : r ≠ s) (h1 : N 1 < 20) (hM : WF (nAdd N r s b)) : MR (sX6_addDoor [.ref 125, .int (nI r), .int (nI s), .int (zb b)] h) (some (.int (nI (N 1)))) 0 (MC h (nAdd N r s b) (pst N P)) := by
  obtain ⟨k0, e0, D0, fr0⟩ := r_rem c H
  have h0 := c.2.2.1.1
  obtain ⟨k1, e1, f1, L1⟩ := r_addOne (r := r) (s := s) (k := 0) (v := 0) (b := b) D0.m D0.l h1
  rw [nAo_add] at L1
  have D1 := D0.fr f1 L1
  have rd := r_doors D1.m D1.l
  rw [nAdd_1] at rd
  have e20 : ((20 : Int32) ≤ nI (N 1)) = False := eq_false (nI_ge (b := 20) h1 (by omega))
  have em : nI (N 1 + 1) - (1 : Int32) = nI (N 1) := nI_pred _
  have e1' : sX6_addOne [.ref 125, .int (nI r), .int (nI s), .int 0, .int 0, .int (zb b)] k0 = _ := e1
  refine ⟨k1, ?_, D1.mc hM, D1.t⟩
  refine zsem_eq (Nat.le_of_ble_eq_true rfl) (zTo_of gX6_addDoor_0 ?_)
  simp only [c.1.1, r_areTwo c hr hs, nI_eq (show r < 2 ^ 31 by omega) (show s < 2 ^ 31 by omega), hne, r_doors c.1 c.2.1, e20, i10, p3_t c.1, (c.go (MZ.th c 0)).1.1, e0, D0.m.1, e1', D1.m.1, rd, em, zmp_s, zlt_s, zcV_s, zcI_s, zcJ_s, zcA_s, zcD_s, zcF_s, zth_n, zth_t, zrt_s, zQ_l, zQ_r, false_or, or_false, true_or, or_true, false_and, and_false, not_false_eq_true, not_true_eq_false, and_self, true_and, and_true, if_true, if_false, ite_true, ite_false, zgd_t]
theorem r_addDoorX {x y z : Int32} (c : MI h N) (hx : (x < 0 ∨ nI (N 0) ≤ x) ∨ ((∃ r, r < N 0 ∧ x = nI r) ∧ (y < 0 ∨ nI (N 0) ≤ y))) : MR (sX6_addDoor [.ref 125, .int x, .int y, .int z] h) (some (.int 0)) 1 (MZ N h) := by
  refine ⟨zsI h 125 0 1, ?_, MZ.th c 1, th_0⟩
  have h1 := c.2.2.1.2.1
  have e20 : ((20 : Int32) ≤ nI (N 1)) = (20 ≤ N 1) := propext (nI_leI (a := 20) (by omega) (by omega))
  refine zsem_eq (Nat.le_of_ble_eq_true rfl) (zTo_of gX6_addDoor_0 ?_)
  by_cases w : 20 ≤ N 1
  · by_cases e : x = y
    · subst e
      simp only [c.1.1, r_areTwoX c hx, r_doors c.1 c.2.1, e20, w, p3_1 c.1, zmp_s, zlt_s, zcV_s, zcI_s, zcJ_s, zcA_s, zcD_s, zcF_s, zth_n, zth_t, zrt_s, zQ_l, zQ_r, false_or, or_false, true_or, or_true, false_and, and_false, not_false_eq_true, not_true_eq_false, and_self, true_and, and_true, if_true, if_false, ite_true, ite_false, zgd_t]
    · simp only [c.1.1, r_areTwoX c hx, e, r_doors c.1 c.2.1, e20, w, p3_1 c.1, zmp_s, zlt_s, zcV_s, zcI_s, zcJ_s, zcA_s, zcD_s, zcF_s, zth_n, zth_t, zrt_s, zQ_l, zQ_r, false_or, or_false, true_or, or_true, false_and, and_false, not_false_eq_true, not_true_eq_false, and_self, true_and, and_true, if_true, if_false, ite_true, ite_false, zgd_t]
  · by_cases e : x = y
    · subst e
      simp only [c.1.1, r_areTwoX c hx, r_doors c.1 c.2.1, e20, w, p3_1 c.1, zmp_s, zlt_s, zcV_s, zcI_s, zcJ_s, zcA_s, zcD_s, zcF_s, zth_n, zth_t, zrt_s, zQ_l, zQ_r, false_or, or_false, true_or, or_true, false_and, and_false, not_false_eq_true, not_true_eq_false, and_self, true_and, and_true, if_true, if_false, ite_true, ite_false, zgd_t]
    · simp only [c.1.1, r_areTwoX c hx, e, r_doors c.1 c.2.1, e20, w, p3_1 c.1, zmp_s, zlt_s, zcV_s, zcI_s, zcJ_s, zcA_s, zcD_s, zcF_s, zth_n, zth_t, zrt_s, zQ_l, zQ_r, false_or, or_false, true_or, or_true, false_and, and_false, not_false_eq_true, not_true_eq_false, and_self, true_and, and_true, if_true, if_false, ite_true, ite_false, zgd_t]
theorem r_addDoorS {r : Nat} {z : Int32} (c : MI h N) (hr : r < N 0) : MR (sX6_addDoor [.ref 125, .int (nI r), .int (nI r), .int z] h) (some (.int 0)) 2 (MZ N h) := by
  refine ⟨zsI h 125 0 2, ?_, MZ.th c 2, th_0⟩
  have h1 := c.2.2.1.2.1
  have e20 : ((20 : Int32) ≤ nI (N 1)) = (20 ≤ N 1) := propext (nI_leI (a := 20) (by omega) (by omega))
  refine zsem_eq (Nat.le_of_ble_eq_true rfl) (zTo_of gX6_addDoor_0 ?_)
  by_cases w : 20 ≤ N 1
  · simp only [c.1.1, r_areTwo c hr hr, r_doors c.1 c.2.1, e20, w, p3_2 c.1, zmp_s, zlt_s, zcV_s, zcI_s, zcJ_s, zcA_s, zcD_s, zcF_s, zth_n, zth_t, zrt_s, zQ_l, zQ_r, false_or, or_false, true_or, or_true, false_and, and_false, not_false_eq_true, not_true_eq_false, and_self, true_and, and_true, if_true, if_false, ite_true, ite_false, zgd_t]
  · simp only [c.1.1, r_areTwo c hr hr, r_doors c.1 c.2.1, e20, w, p3_2 c.1, zmp_s, zlt_s, zcV_s, zcI_s, zcJ_s, zcA_s, zcD_s, zcF_s, zth_n, zth_t, zrt_s, zQ_l, zQ_r, false_or, or_false, true_or, or_true, false_and, and_false, not_false_eq_true, not_true_eq_false, and_self, true_and, and_true, if_true, if_false, ite_true, ite_false, zgd_t]
theorem r_addDoorF {r s : Nat} {z : Int32} (c : MI h N) (hr : r < N 0) (hs : s < N 0) (hne : r ≠ s) (h1 : ¬ N 1 < 20) : MR (sX6_addDoor [.ref 125, .int (nI r), .int (nI s), .int z] h) (some (.int 0)) 3 (MZ N h) := by
  refine ⟨zsI h 125 0 3, ?_, MZ.th c 3, th_0⟩
  have h0 := c.2.2.1.1
  have h2 := c.2.2.1.2.1
  have e20 : ((20 : Int32) ≤ nI (N 1)) = (20 ≤ N 1) := propext (nI_leI (a := 20) (by omega) (by omega))
  refine zsem_eq (Nat.le_of_ble_eq_true rfl) (zTo_of gX6_addDoor_0 ?_)
  simp only [c.1.1, r_areTwo c hr hs, nI_eq (show r < 2 ^ 31 by omega) (show s < 2 ^ 31 by omega), hne, r_doors c.1 c.2.1, e20, show 20 ≤ N 1 by omega, p3_3 c.1, zmp_s, zlt_s, zcV_s, zcI_s, zcJ_s, zcA_s, zcD_s, zcF_s, zth_n, zth_t, zrt_s, zQ_l, zQ_r, false_or, or_false, true_or, or_true, false_and, and_false, not_false_eq_true, not_true_eq_false, and_self, true_and, and_true, if_true, if_false, ite_true, ite_false, zgd_t]
-- start and end
theorem r_setStart {r : Nat} (c : MI h N) (H : HP h P) (hr : r < N 0) (hM : WF (if r = N 2 then N else nSs N r)) : MR (sX6_setStart [.ref 125, .int (nI r)] h) (some (.int (nI (N 2)))) 0 (MC h (if r = N 2 then N else nSs N r) (pst N P)) := by
  obtain ⟨k0, e0, D0, fr0⟩ := r_rem c H
  have hF := c.2.2
  have h0 := hF.1.1
  have h2 := hF.2.2.1
  have l2 := D0.l.at (i := 2) (by omega) (by omega)
  have D1 := D0.put (i := 2) (x := r) (by omega)
  have m0 := D0.m
  have m1 := D1.m
  have c5 : (5 : Int32).toNatClampNeg = 5 := rfl
  have p5 : ((5 : Int32) < 0) = False := eq_false (nI_pos (n := 5) (by omega))
  by_cases q : r = N 2
  · rw [if_pos q] at hM ⊢
    have D2 : MD h (zsI k0 126 2 (nI r)) N (pst N P) := by rw [q, zput_id] at D1; rw [q]; exact D1
    refine ⟨_, ?_, D2.mc hM, D2.t⟩
    refine zsem_eq (Nat.le_of_ble_eq_true rfl) (zTo_of gX6_setStart_0 ?_)
    simp only [c.1.1, r_isRoom c.1 c.2.1 h0 hr, i10, p1_t c.1, (c.go (MZ.th c 0)).1.1, e0, m0.1, m0.p1, m0.k6, c_2, p_2, l2, show ¬ 149 ≤ 2 by omega, nI_eq (show r < 2 ^ 31 by omega) (show N 2 < 2 ^ 31 by omega), eq_true q, zmp_s, zlt_s, zcV_s, zcI_s, zcJ_s, zcA_s, zcD_s, zcF_s, zth_n, zth_t, zrt_s, zQ_l, zQ_r, false_or, or_false, true_or, or_true, false_and, and_false, not_false_eq_true, not_true_eq_false, and_self, true_and, and_true, if_true, if_false, ite_true, ite_false, zgd_t]
  · rw [if_neg q] at hM ⊢
    have D2 := D1.put (i := 4) (x := 1) (by omega)
    have D3 := D2.put (i := 5) (x := r) (by omega)
    have m2 := D2.m
    have e5 : zput (zput (zput N 2 r) 4 1) 5 r = nSs N r := by
      unfold nSs
      funext i
      unfold zput
      by_cases e4 : i = 4
      · subst e4; rfl
      · rw [if_neg e4, if_neg e4]
    rw [e5] at D3
    refine ⟨_, ?_, D3.mc hM, D3.t⟩
    refine zsem_eq (Nat.le_of_ble_eq_true rfl) (zTo_of gX6_setStart_0 ?_)
    have m2' : zK (zsI (zsI k0 126 2 (nI r)) 126 4 1) 125 = (12, 27) := m2.1
    simp only [c.1.1, r_isRoom c.1 c.2.1 h0 hr, i10, p1_t c.1, (c.go (MZ.th c 0)).1.1, e0, m0.1, m0.p1, m0.k6, c_2, p_2, l2, show ¬ 149 ≤ 2 by omega, nI_eq (show r < 2 ^ 31 by omega) (show N 2 < 2 ^ 31 by omega), eq_false q, K_sI, K_sJ, K_sD, K_sP, K_rI, K_rJ, P_sI, P_sJ, P_sD, P_rI, P_rJ, N_sI, N_sJ, N_sD, N_sP, N_rI, N_rJ, J_sI, J_sD, J_sP, J_rI, I_sJ, I_sD, I_sP, I_rJ, D_sI, D_sJ, D_sP, D_rI, D_rJ, c_4, p_4, show ¬ 149 ≤ 4 by omega, c5, p5, show ¬ 149 ≤ 5 by omega, zmp_s, zlt_s, zcV_s, zcI_s, zcJ_s, zcA_s, zcD_s, zcF_s, zth_n, zth_t, zrt_s, zQ_l, zQ_r, false_or, or_false, true_or, or_true, false_and, and_false, not_false_eq_true, not_true_eq_false, and_self, true_and, and_true, if_true, if_false, ite_true, ite_false, zgd_t]
    rfl
theorem r_setStartX {x : Int32} (c : MI h N) (hx : x < 0 ∨ nI (N 0) ≤ x) : MR (sX6_setStart [.ref 125, .int x] h) (some (.int 0)) 1 (MZ N h) := by
  refine ⟨zsI h 125 0 1, ?_, MZ.th c 1, th_0⟩
  refine zsem_eq (Nat.le_of_ble_eq_true rfl) (zTo_of gX6_setStart_0 ?_)
  simp only [c.1.1, r_isRoomX c.1 c.2.1 c.2.2.1.1 hx, p1_f c.1, zmp_s, zlt_s, zcV_s, zcI_s, zcJ_s, zcA_s, zcD_s, zcF_s, zth_n, zth_t, zrt_s, zQ_l, zQ_r, false_or, or_false, true_or, or_true, false_and, and_false, not_false_eq_true, not_true_eq_false, and_self, true_and, and_true, if_true, if_false, ite_true, ite_false, zgd_t]
theorem r_setEnd {e : Nat} (c : MI h N) (H : HP h P) (he : e ≤ N 0) (hM : WF (zput N 3 e)) : MR (sX6_setEnd [.ref 125, .int (eI e)] h) (some (.int (eI (N 3)))) 0 (MC h (zput N 3 e) (pst N P)) := by
  obtain ⟨k0, e0, D0, fr0⟩ := r_rem c H
  have hF := c.2.2
  have h0 := hF.1.1
  have h3 := hF.2.2.2.1
  have l3 := D0.l.e3
  have D1 : MD h (zsI k0 126 3 (eI e)) (zput N 3 e) (pst N P) := D0.fr (zFr.sI rfl) (eI_end D0.l)
  have m0 := D0.m
  refine ⟨zsI k0 126 3 (eI e), ?_, D1.mc hM, D1.t⟩
  obtain ⟨X, hX⟩ : ∃ x, x = eI (N 3) := ⟨_, rfl⟩
  have em := eI_m1 (a := e) (by omega)
  have room : e ≠ 0 → sX6_isRoom [.ref 125, .int (eI e)] h = some (.inl (some (.int 1)), h) := fun ne => by
    obtain ⟨r, rfl⟩ : ∃ r, e = r + 1 := ⟨e - 1, by omega⟩
    rw [eI_s]
    exact r_isRoom c.1 c.2.1 h0 (by omega)
  obtain ⟨Y, hY⟩ : ∃ y, y = eI e := ⟨_, rfl⟩
  rw [← hX] at l3 ⊢
  rw [← hY] at em room ⊢
  refine zsem_eq (Nat.le_of_ble_eq_true rfl) (zTo_of gX6_setEnd_0 ?_)
  by_cases q : e = 0
  · rw [if_pos (em.mpr q)]
    simp only [c.1.1, i10, p1_t c.1, (c.go (MZ.th c 0)).1.1, e0, m0.1, m0.p1, m0.k6, c_3, p_3, l3, show ¬ 149 ≤ 3 by omega, zmp_s, zlt_s, zcV_s, zcI_s, zcJ_s, zcA_s, zcD_s, zcF_s, zth_n, zth_t, zrt_s, zQ_l, zQ_r, false_or, or_false, true_or, or_true, false_and, and_false, not_false_eq_true, not_true_eq_false, and_self, true_and, and_true, if_true, if_false, ite_true, ite_false, zgd_t]
  · rw [if_neg (fun w => q (em.mp w))]
    simp only [c.1.1, room q, i10, p1_t c.1, (c.go (MZ.th c 0)).1.1, e0, m0.1, m0.p1, m0.k6, c_3, p_3, l3, show ¬ 149 ≤ 3 by omega, zmp_s, zlt_s, zcV_s, zcI_s, zcJ_s, zcA_s, zcD_s, zcF_s, zth_n, zth_t, zrt_s, zQ_l, zQ_r, false_or, or_false, true_or, or_true, false_and, and_false, not_false_eq_true, not_true_eq_false, and_self, true_and, and_true, if_true, if_false, ite_true, ite_false, zgd_t]
theorem r_setEndX {x : Int32} (c : MI h N) (h1 : x ≠ -1) (hx : x < 0 ∨ nI (N 0) ≤ x) : MR (sX6_setEnd [.ref 125, .int x] h) (some (.int 0)) 1 (MZ N h) := by
  refine ⟨zsI h 125 0 1, ?_, MZ.th c 1, th_0⟩
  refine zsem_eq (Nat.le_of_ble_eq_true rfl) (zTo_of gX6_setEnd_0 ?_)
  simp only [h1, c.1.1, r_isRoomX c.1 c.2.1 c.2.2.1.1 hx, p1_f c.1, zmp_s, zlt_s, zcV_s, zcI_s, zcJ_s, zcA_s, zcD_s, zcF_s, zth_n, zth_t, zrt_s, zQ_l, zQ_r, false_or, or_false, true_or, or_true, false_and, and_false, not_false_eq_true, not_true_eq_false, and_self, true_and, and_true, if_true, if_false, ite_true, ite_false, zgd_t]
-- moves
theorem in_1 {k n : Nat} (h1 : 1 ≤ k) (hk : k ≤ n - 1) (hn : n < 2 ^ 31) (h : zm_H) : sX6_in [.long (nI k).toInt64, .long (1 : Int64), .long (nI n - (1 : Int32)).toInt64] h = some (.inl (some (.int 1)), h) := by
  have e : nI n - (1 : Int32) = nI (n - 1) := pk_sub (b := 1) (by omega)
  rw [in_G, e, nI_l (show k < 2 ^ 31 by omega), nI_l (show n - 1 < 2 ^ 31 by omega)]
  have e1 : (1 : Int64) ≤ lN k := by
    show lN 1 ≤ lN k
    rw [pk_lLE (by omega) (by omega)]; omega
  have e2 : lN k ≤ lN (n - 1) := by rw [pk_lLE (by omega) (by omega)]; omega
  simp only [e1, e2, decide_true, Bool.and_true]; rfl
theorem in_1x {x : Int32} {n : Nat} (hn : n < 2 ^ 31) (h1 : 1 ≤ n) (hx : x < 1 ∨ ¬ x ≤ nI (n - 1)) (h : zm_H) : sX6_in [.long x.toInt64, .long (1 : Int64), .long (nI n - (1 : Int32)).toInt64] h = some (.inl (some (.int 0)), h) := by
  rw [in_G]
  have w : (decide ((1 : Int64) ≤ x.toInt64) && decide (x.toInt64 ≤ (nI n - (1 : Int32)).toInt64)) = false := by
    rcases hx with a | a
    · have : ¬ (1 : Int64) ≤ x.toInt64 := by
        rw [Int64.le_iff_toInt_le, Int32.toInt_toInt64]
        have := Int32.lt_iff_toInt_lt.mp a
        have z : (1 : Int32).toInt = 1 := rfl
        have z2 : (1 : Int64).toInt = 1 := rfl
        omega
      simp [this]
    · have : ¬ x.toInt64 ≤ (nI n - (1 : Int32)).toInt64 := by
        rw [Int64.le_iff_toInt_le, m1_toInt hn, Int32.toInt_toInt64]
        intro w
        apply a
        rw [Int32.le_iff_toInt_le, nI_toInt (by omega)]
        omega
      simp [this]
  rw [w]; rfl
theorem r_back {k : Nat} (c : MI h N) (H : HP h P) (hk : 1 ≤ k ∧ k ≤ N 4 - 1) (hM : WF (zput N 4 (N 4 - k))) : MR (sX6_back [.ref 125, .int (nI k)] h) (some (.int (nI (N (4 + (N 4 - k)))))) 0 (MC h (zput N 4 (N 4 - k)) (pst N P)) := by
  obtain ⟨k0, e0, D0, fr0⟩ := r_rem c H
  have hF := c.2.2
  have h4 := hF.1.2.2.1
  have l4 := D0.l.at (i := 4) (by omega) (by omega)
  have l40 := c.2.1.at (i := 4) (by omega) (by omega)
  have D1 := D0.put (i := 4) (x := N 4 - k) (by omega)
  have m0 := D0.m
  have es : nI (N 4) - nI k = nI (N 4 - k) := pk_sub (by omega)
  have e4 : zput N 4 (N 4 - k) 4 = N 4 - k := zput_self ..
  have lr := r_lastRoom D1.m D1.l (by rw [e4]; omega) (by rw [e4]; omega)
  rw [e4, zput_ne _ _ (by omega)] at lr
  refine ⟨_, ?_, D1.mc hM, D1.t⟩
  refine zsem_eq (Nat.le_of_ble_eq_true rfl) (zTo_of gX6_back_0 ?_)
  simp only [c.1.1, c.1.p1, c.1.k6, c_4, p_4, l40, show ¬ 149 ≤ 4 by omega, in_1 hk.1 hk.2 (show N 4 < 2 ^ 31 by omega), i10, p1_t c.1, (c.go (MZ.th c 0)).1.1, e0, m0.1, m0.p1, m0.k6, l4, es, D1.m.1, lr, zmp_s, zlt_s, zcV_s, zcI_s, zcJ_s, zcA_s, zcD_s, zcF_s, zth_n, zth_t, zrt_s, zQ_l, zQ_r, false_or, or_false, true_or, or_true, false_and, and_false, not_false_eq_true, not_true_eq_false, and_self, true_and, and_true, if_true, if_false, ite_true, ite_false, zgd_t]
theorem r_backX {x : Int32} (c : MI h N) (hx : x < 1 ∨ ¬ x ≤ nI (N 4 - 1)) : MR (sX6_back [.ref 125, .int x] h) (some (.int 0)) 1 (MZ N h) := by
  have h4 := c.2.2.1.2.2.1
  have l40 := c.2.1.at (i := 4) (by omega) (by omega)
  refine ⟨zsI h 125 0 1, ?_, MZ.th c 1, th_0⟩
  refine zsem_eq (Nat.le_of_ble_eq_true rfl) (zTo_of gX6_back_0 ?_)
  simp only [c.1.1, c.1.p1, c.1.k6, c_4, p_4, l40, show ¬ 149 ≤ 4 by omega, in_1x (show N 4 < 2 ^ 31 by omega) c.2.2.2.2.2.2.1 hx, p1_f c.1, zmp_s, zlt_s, zcV_s, zcI_s, zcJ_s, zcA_s, zcD_s, zcF_s, zth_n, zth_t, zrt_s, zQ_l, zQ_r, false_or, or_false, true_or, or_true, false_and, and_false, not_false_eq_true, not_true_eq_false, and_self, true_and, and_true, if_true, if_false, ite_true, ite_false, zgd_t]
theorem r_again (c : MI h N) (H : HP h P) (hM : WF (zput N 4 1)) : MR (sX6_again [.ref 125] h) (some (.int (nI (N 4)))) 0 (MC h (zput N 4 1) (pst N P)) := by
  obtain ⟨k0, e0, D0, fr0⟩ := r_rem c H
  have l4 := D0.l.at (i := 4) (by omega) (by omega)
  have D1 := D0.put (i := 4) (x := 1) (by omega)
  have m0 := D0.m
  refine ⟨_, ?_, D1.mc hM, D1.t⟩
  refine zsem_eq (Nat.le_of_ble_eq_true rfl) (zTo_of gX6_again_0 ?_)
  simp only [c.1.1, (c.go (MZ.th c 0)).1.1, e0, m0.1, m0.p1, m0.k6, c_4, p_4, l4, show ¬ 149 ≤ 4 by omega, zmp_s, zlt_s, zcV_s, zcI_s, zcJ_s, zcA_s, zcD_s, zcF_s, zth_n, zth_t, zrt_s, zQ_l, zQ_r, false_or, or_false, true_or, or_true, false_and, and_false, not_false_eq_true, not_true_eq_false, and_self, true_and, and_true, if_true, if_false, ite_true, ite_false, zgd_t]
  rfl
theorem r_go {r : Nat} (c : MI h N) (H : HP h P) (hr : r < N 0) (hy : nWhy N r = 0) (hM : WF (nGo1 N r)) : MR (sX6_go [.ref 125, .int (nI r)] h) (some (.long (lN (nCo (nGo1 N r))))) 0 (MC h (nGo1 N r) (pst N P)) := by
  obtain ⟨k0, e0, D0, fr0⟩ := r_rem c H
  have hF := c.2.2
  have h0 := hF.1.1
  have h4 := hF.1.2.2.1
  have l4 := D0.l.at (i := 4) (by omega) (by omega)
  have D1 := D0.put (i := 5 + N 4) (x := r) (by omega)
  have l41 := D1.l.at (i := 4) (by omega) (by omega)
  rw [zput_ne _ _ (by omega)] at l41
  have D2 := D1.put (i := 4) (x := N 4 + 1) (by omega)
  have C2 : MC h (nGo1 N r) (pst N P) (zsI (zsI k0 126 (5 + N 4) (nI r)) 126 4 (nI (N 4 + 1))) := D2.mc hM
  obtain ⟨g, e1, w⟩ := t_co C2.2.2.1
  have m0 := D0.m
  have m1 := D1.m
  have wy := r_whyNot c hr
  rw [hy, nI_0] at wy
  refine ⟨g, ?_, C2.q w.1, by rw [w.2.1]; exact D2.t⟩
  refine zsem_eq (Nat.le_of_ble_eq_true rfl) (zTo_of gX6_go_0 ?_)
  simp only [c.1.1, r_isRoom c.1 c.2.1 h0 hr, i10, wy, p2_t c.1, (c.go (MZ.th c 0)).1.1, e0, m0.1, m0.p1, m0.k6, c_4, p_4, l4, show ¬ 149 ≤ 4 by omega, ix5, nI_clamp (show 5 + N 4 < 2 ^ 31 by omega), nI_lt0 (show 5 + N 4 < 2 ^ 31 by omega), show ¬ 149 ≤ 5 + N 4 by omega, m1.1, m1.p1, m1.k6, l41, nI_1, C2.2.2.1.1.1, e1, zmp_s, zlt_s, zcV_s, zcI_s, zcJ_s, zcA_s, zcD_s, zcF_s, zth_n, zth_t, zrt_s, zQ_l, zQ_r, false_or, or_false, true_or, or_true, false_and, and_false, not_false_eq_true, not_true_eq_false, and_self, true_and, and_true, if_true, if_false, ite_true, ite_false, zgd_t]
theorem r_goX {x : Int32} (c : MI h N) (hx : x < 0 ∨ nI (N 0) ≤ x) : MR (sX6_go [.ref 125, .int x] h) (some (.long 0)) 1 (MZ N h) := by
  refine ⟨zsI h 125 0 1, ?_, MZ.th c 1, th_0⟩
  refine zsem_eq (Nat.le_of_ble_eq_true rfl) (zTo_of gX6_go_0 ?_)
  simp only [c.1.1, r_isRoomX c.1 c.2.1 c.2.2.1.1 hx, p2_1 c.1, zmp_s, zlt_s, zcV_s, zcI_s, zcJ_s, zcA_s, zcD_s, zcF_s, zth_n, zth_t, zrt_s, zQ_l, zQ_r, false_or, or_false, true_or, or_true, false_and, and_false, not_false_eq_true, not_true_eq_false, and_self, true_and, and_true, if_true, if_false, ite_true, ite_false, zgd_t]
theorem r_goY {r : Nat} (c : MI h N) (hr : r < N 0) (hy : nWhy N r ≠ 0) : MR (sX6_go [.ref 125, .int (nI r)] h) (some (.long 0)) 2 (MZ N h) := by
  refine ⟨zsI h 125 0 2, ?_, MZ.th c 2, th_0⟩
  have wl := nWhy_lt N r
  refine zsem_eq (Nat.le_of_ble_eq_true rfl) (zTo_of gX6_go_0 ?_)
  simp only [c.1.1, r_isRoom c.1 c.2.1 c.2.2.1.1 hr, i10, r_whyNot c hr, nI_eq0 (show nWhy N r < 2 ^ 31 by omega), hy, p2_2 c.1, zmp_s, zlt_s, zcV_s, zcI_s, zcJ_s, zcA_s, zcD_s, zcF_s, zth_n, zth_t, zrt_s, zQ_l, zQ_r, false_or, or_false, true_or, or_true, false_and, and_false, not_false_eq_true, not_true_eq_false, and_self, true_and, and_true, if_true, if_false, ite_true, ite_false, zgd_t]
/-- the walk is a whole path -/
theorem r_takePath {M : zLv} {w : Nat → Nat} (m0 : moS h 126) (mL : ML h 126 M) (h0 : M 0 ≤ 11) (hw : ∀ k, k < M 0 → zI h 132 k = nI (w k)) : ∃ g, sX6_takePath [.ref 125, .int (nI (M 0))] h = some (.inl none, g) ∧ zFr (fun c => c = 126) h g ∧ ML g 126 (nWl M w) := by
  obtain ⟨L, hL⟩ : ∃ L : Nat → zLv, L = fun k i => if i = 4 then M 0 else if 5 ≤ i ∧ i < 5 + k then w (i - 5) else M i := ⟨_, rfl⟩
  have key : ∀ d k g, k + d = M 0 → zFr (fun c => c = 126) h g → ML g 126 (L k) → zTo vX6_takePath rX6_takePath (7, [some (.ref 125), some (.int (nI (M 0))), some (.int (nI k))], [], g) (fun o => ∃ g, o = (.inl none, g) ∧ zFr (fun c => c = 126) h g ∧ ML g 126 (nWl M w)) := by
    intro d
    induction d with
    | zero =>
      intro k g hk fr Y
      have hk : k = M 0 := by omega
      subst hk
      refine zTo_of gX6_takePath_7 ?_
      simp only [nI_le (Nat.le_refl _) (show M 0 < 2 ^ 31 by omega), zmp_s, zlt_s, zcV_s, zcI_s, zcJ_s, zcA_s, zcD_s, zcF_s, zth_n, zth_t, zrt_s, zQ_l, zQ_r, false_or, or_false, true_or, or_true, false_and, and_false, not_false_eq_true, not_true_eq_false, and_self, true_and, and_true, if_true, if_false, ite_true, ite_false]
      refine ⟨g, rfl, fr, ?_⟩
      have : L (M 0) = nWl M w := by rw [hL]; rfl
      rw [← this]; exact Y
    | succ d ih =>
      intro k g hk fr Y
      obtain ⟨f1, f2, f3, f4⟩ := nI_for (show k < M 0 by omega) (by omega)
      have m1 := moS_fr fr m0
      have pv : zI g 132 k = nI (w k) := by rw [fr.I (by omega)]; exact hw k (by omega)
      have Y2 := ML_put (i := 5 + k) (x := w k) Y (by omega)
      have e : zput (L k) (5 + k) (w k) = L (k + 1) := by
        rw [hL]
        funext i
        unfold zput
        dsimp only
        by_cases q : i = 5 + k
        · rw [if_pos q, if_neg (by omega), if_pos (by omega), q]
          congr 1; omega
        · rw [if_neg q]
          by_cases q4 : i = 4
          · rw [if_pos q4, if_pos q4]
          · rw [if_neg q4, if_neg q4]
            by_cases q5 : 5 ≤ i ∧ i < 5 + k
            · rw [if_pos q5, if_pos (by omega)]
            · rw [if_neg q5, if_neg (by omega)]
      rw [e] at Y2
      obtain ⟨t0, t3, tq, t1, t2, t4, t5, t6, t7, t8, t9, t10, t21, t22, t23, t25, n6, n7, n8, n9, n10, n11, n12, n13, n14, n15, n16, n17, n18⟩ := m1
      refine zTo_of gX6_takePath_7 ?_
      simp only [f1, f2, f3, f4, t0, t3, t8, n6, n12, show ¬ 11 ≤ k by omega, pv, ix5, nI_clamp (show 5 + k < 2 ^ 31 by omega), nI_lt0 (show 5 + k < 2 ^ 31 by omega), show ¬ 149 ≤ 5 + k by omega, zmp_s, zlt_s, zcV_s, zcI_s, zcJ_s, zcA_s, zcD_s, zcF_s, zth_n, zth_t, zrt_s, zQ_l, zQ_r, false_or, or_false, true_or, or_true, false_and, and_false, not_false_eq_true, not_true_eq_false, and_self, true_and, and_true, if_true, if_false, ite_true, ite_false, zgd_t]
      exact ih (k + 1) _ (by omega) (fr.tr (zFr.sI rfl)) Y2
  have hsim : zW (sX6_takePath [.ref 125, .int (nI (M 0))] h) (fun o => ∃ g, o = (.inl none, g) ∧ zFr (fun c => c = 126) h g ∧ ML g 126 (nWl M w)) := by
    refine zsem_to (Nat.le_of_ble_eq_true rfl) (zTo_of gX6_takePath_0 ?_)
    simp only [m0.1, m0.2.1, m0.k6, c_4, p_4, show ¬ 149 ≤ 4 by omega, zmp_s, zlt_s, zcV_s, zcI_s, zcJ_s, zcA_s, zcD_s, zcF_s, zth_n, zth_t, zrt_s, zQ_l, zQ_r, false_or, or_false, true_or, or_true, false_and, and_false, not_false_eq_true, not_true_eq_false, and_self, true_and, and_true, if_true, if_false, ite_true, ite_false, zgd_t]
    refine key (M 0) 0 _ (by omega) (zFr.sI rfl) ?_
    have e : L 0 = zput M 4 (M 0) := by
      rw [hL]
      funext i
      unfold zput
      dsimp only
      by_cases q4 : i = 4
      · rw [if_pos q4, if_pos q4]
      · rw [if_neg q4, if_neg q4, if_neg (by omega)]
    rw [e]
    exact ML_put mL (by omega)
  obtain ⟨o, e1, g, rfl, e2⟩ := hsim
  exact ⟨g, e1, e2⟩
theorem r_complete (c : MI h N) (H : HP h P) (hc : nCo N ≠ 0) : MR (sX6_complete [.ref 125] h) (some (.int (nI (N 0 - N 4)))) 0 (MC h (nCm N) (pst N P)) := by
  obtain ⟨g, e1, w⟩ := t_co c
  have c1 := c.go w.1
  have H1 := HP_q w.1 H
  have hF := c.2.2
  have hW := hF.1
  have h0 := hW.1
  have h4 := hW.2.2.1
  have h41 := hF.2.2.2.2.1
  have h40 := hF.2.2.2.2.2.1
  obtain ⟨v1, v2, v3, v4⟩ := nCm_ok hF hc
  obtain ⟨k0, e0, D0, fr0⟩ := r_rem c1 H1
  have X0 := NXT_fr fr0 (by unfold rmA; omega) w.2.2.1
  have Y0 := WY_fr fr0 (by unfold rmA; omega) w.2.2.2
  obtain ⟨pw, e2, pv⟩ := r_layWalk D0.m D0.l h4
  have D1 := D0.pth pw
  have fw : zFr (fun q => q = 132) k0 (zrI k0 132 pw) := zFr.rI rfl
  have lt := r_layTour (len := N 4) (rank := 0) (f := nwk N) D1.m D1.l hW (NXT_fr fw (by omega) X0) (WY_fr fw (by omega) Y0) ⟨h41, h40⟩ (fun i hi => ⟨by rw [I_rIs]; exact pv i hi, hF.wk hi⟩) v1 v2
  rw [rI_rI] at lt
  obtain ⟨pw2, hpw2⟩ : ∃ pw2, pw2 = nfw N (nsk (nwk N) (N 4), nwk N (N 4 - 1), 0) (N 4) (zI (zrI k0 132 pw) 132) (N 0) := ⟨_, rfl⟩
  rw [← hpw2] at lt
  have D2 := D0.pth pw2
  obtain ⟨k3, e3, f3, L3⟩ := r_takePath (w := nFl N (nwk N) (N 4) 0) D2.m D2.l h0 (fun k hk => by
    rw [I_rIs, hpw2]
    unfold nfw nFl
    by_cases q : k < N 4
    · rw [if_neg (by omega), if_pos q, I_rIs]; exact pv k q
    · rw [if_pos ⟨by omega, hk⟩, if_neg q])
  have D3 : MD g k3 (nCm N) (pst N P) := D2.fr f3 L3
  have D4 := D3.q w.1
  have rr2 := r_rooms D2.m D2.l
  have rr3 := r_rooms D3.m D3.l
  have e00 : nCm N 0 = N 0 := nWl_lo h0 (by omega)
  rw [e00] at rr3
  have es : nI (N 0) - nI (N 4) = nI (N 0 - N 4) := pk_sub h40
  have l4 := D0.l.at (i := 4) (by omega) (by omega)
  have cl := nCo_lt hF
  have z0 : (lg_cmp (lN (nCo N)) (0 : Int64) ≤ 0) = False := by
    rw [lgle0 (show nCo N < 2 ^ 63 by omega)]; exact eq_false hc
  refine ⟨k3, ?_, D4.mc v4, D4.t⟩
  have lt' : sX6_layTour [.ref 125, .int (nI (N 4)), .long (0 : Int64)] (zrI k0 132 pw) = _ := lt
  refine zsem_eq (Nat.le_of_ble_eq_true rfl) (zTo_of gX6_complete_0 ?_)
  simp only [c.1.1, e1, z0, i10, c1.1.1, p1_t c1.1, (c1.go (MZ.th c1 0)).1.1, e0, D0.m.1, D0.m.p1, D0.m.k6, c_4, p_4, l4, show ¬ 149 ≤ 4 by omega, e2, D1.m.1, lt', D2.m.1, rr2, e3, D3.m.1, rr3, es, zmp_s, zlt_s, zcV_s, zcI_s, zcJ_s, zcA_s, zcD_s, zcF_s, zth_n, zth_t, zrt_s, zQ_l, zQ_r, false_or, or_false, true_or, or_true, false_and, and_false, not_false_eq_true, not_true_eq_false, and_self, true_and, and_true, if_true, if_false, ite_true, ite_false, zgd_t]
theorem r_completeX (c : MI h N) (hc : nCo N = 0) : MR (sX6_complete [.ref 125] h) (some (.int 0)) 1 (MZ N h) := by
  obtain ⟨g, e1, w⟩ := t_co c
  have c1 := c.go w.1
  have z0 : (lg_cmp (lN (nCo N)) (0 : Int64) ≤ 0) = True := by
    rw [lgle0 (show nCo N < 2 ^ 63 by omega)]; exact eq_true hc
  refine ⟨zsI g 125 0 1, ?_, w.1.tr (MZ.th c1 1), th_0⟩
  refine zsem_eq (Nat.le_of_ble_eq_true rfl) (zTo_of gX6_complete_0 ?_)
  simp only [c.1.1, e1, z0, c1.1.1, p1_f c1.1, zmp_s, zlt_s, zcV_s, zcI_s, zcJ_s, zcA_s, zcD_s, zcF_s, zth_n, zth_t, zrt_s, zQ_l, zQ_r, false_or, or_false, true_or, or_true, false_and, and_false, not_false_eq_true, not_true_eq_false, and_self, true_and, and_true, if_true, if_false, ite_true, ite_false, zgd_t]
theorem r_walk {k : Nat} (c : MI h N) (H : HP h P) (hk : k < nTo N) : MR (sX6_walk [.ref 125, .long (lN k)] h) (some (.int (nI (nTp N k (N 0 - 1))))) 0 (MC h (nWa N k) (pst N P)) := by
  obtain ⟨g, e1, w⟩ := t_isRank c hk
  have c1 := c.go w.1
  have H1 := HP_q w.1 H
  have hF := c.2.2
  have hW := hF.1
  have h0 := hW.1
  have h01 := hF.2.1
  have hM := nWa_ok hF hk
  obtain ⟨k0, e0, D0, fr0⟩ := r_rem c1 H1
  have X0 := NXT_fr fr0 (by unfold rmA; omega) w.2.2.1
  have Y0 := WY_fr fr0 (by unfold rmA; omega) w.2.2.2
  have e2 := r_layStart D0.m D0.l
  obtain ⟨pw, e3, pv⟩ := r_tourPath D0.m D0.l hF X0 Y0 hk
  have D2 := D0.pth pw
  obtain ⟨k3, e4, f3, L3⟩ := r_takePath (w := nTp N k) D2.m D2.l h0 (fun p hp => by rw [I_rIs]; exact pv p hp)
  have D3 : MD g k3 (nWa N k) (pst N P) := D2.fr f3 L3
  have D4 := D3.q w.1
  have rr2 := r_rooms D2.m D2.l
  have n4 : nWa N k 4 = N 0 := nWl_4
  have lr := r_lastRoom D3.m D3.l (by rw [n4]; exact h0) (by rw [n4]; exact h01)
  have nl : nWa N k (4 + N 0) = nTp N k (N 0 - 1) := by
    rw [show 4 + N 0 = 5 + (N 0 - 1) by omega]
    exact nWl_at (by omega)
  rw [n4, nl] at lr
  refine ⟨k3, ?_, D4.mc hM, D4.t⟩
  have a2 : zK (zsI k0 132 0 (nI (N 2))) 125 = (12, 27) := D0.m.1
  refine zsem_eq (Nat.le_of_ble_eq_true rfl) (zTo_of gX6_walk_0 ?_)
  simp only [c.1.1, e1, i10, c1.1.1, p1_t c1.1, (c1.go (MZ.th c1 0)).1.1, e0, D0.m.1, e2, a2, e3, D2.m.1, rr2, e4, D3.m.1, lr, zmp_s, zlt_s, zcV_s, zcI_s, zcJ_s, zcA_s, zcD_s, zcF_s, zth_n, zth_t, zrt_s, zQ_l, zQ_r, false_or, or_false, true_or, or_true, false_and, and_false, not_false_eq_true, not_true_eq_false, and_self, true_and, and_true, if_true, if_false, ite_true, ite_false, zgd_t]
theorem r_walkX {x : Int64} (c : MI h N) (hx : x < 0 ∨ lN (nTo N) ≤ x) : MR (sX6_walk [.ref 125, .long x] h) (some (.int 0)) 1 (MZ N h) := by
  obtain ⟨g, e1, w, e2⟩ := t_isRankX c hx
  have c1 := c.go w
  refine ⟨zsI g 125 0 1, ?_, w.tr (MZ.th c1 1), th_0⟩
  refine zsem_eq (Nat.le_of_ble_eq_true rfl) (zTo_of gX6_walk_0 ?_)
  simp only [c.1.1, e1, c1.1.1, p1_f c1.1, zmp_s, zlt_s, zcV_s, zcI_s, zcJ_s, zcA_s, zcD_s, zcF_s, zth_n, zth_t, zrt_s, zQ_l, zQ_r, false_or, or_false, true_or, or_true, false_and, and_false, not_false_eq_true, not_true_eq_false, and_self, true_and, and_true, if_true, if_false, ite_true, ite_false, zgd_t]
end
end ZMQ
