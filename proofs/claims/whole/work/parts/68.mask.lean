/-! THE MODEL: questions about the level and the walk. -/
section ZMF
def mqA : Nat → Prop := fun c => c = 125 ∨ c = 126 ∨ (128 ≤ c ∧ c ≤ 133)
/-- what a question leaves -/
def MZ (N : zLv) (h g : zm_H) : Prop := zFr mqA h g ∧ (∀ j, j ≠ 0 → zI g 125 j = zI h 125 j) ∧ ML g 126 N
def MI (h : zm_H) (N : zLv) : Prop := moS h 126 ∧ ML h 126 N ∧ WF N
/-- a call's end: what it answers, what it threw -/
def MR (o : Option zm_O) (v : Option Value) (t : Int32) (P : zm_H → Prop) : Prop := ∃ g, o = some (.inl v, g) ∧ P g ∧ zI g 125 0 = t
theorem MZ.rf {N : zLv} {h : zm_H} (c : MI h N) : MZ N h h := ⟨zFr.rf, fun _ _ => rfl, c.2.1⟩
theorem MZ.tr {N : zLv} {h g k : zm_H} (p : MZ N h g) (q : MZ N g k) : MZ N h k := ⟨p.1.tr q.1, fun j hj => by rw [q.2.1 j hj, p.2.1 j hj], q.2.2⟩
theorem MI.go {N : zLv} {h g : zm_H} (c : MI h N) (q : MZ N h g) : MI g N := ⟨moS_fr q.1 c.1, q.2.2, c.2.2⟩
theorem MZ.th {N : zLv} {h : zm_H} (c : MI h N) (x : Int32) : MZ N h (zsI h 125 0 x) := ⟨zFr.sI (Or.inl rfl), fun j hj => by rw [I_sIs, zput_ne _ _ hj], fun i hi => by rw [I_sIn (by omega)]; exact c.2.1 i hi⟩
theorem th_0 {h : zm_H} {x : Int32} : zI (zsI h 125 0 x) 125 0 = x := by rw [I_sIs, zput_self]
/-- rows alone that a question uses -/
theorem MZ.fr {N : zLv} {h g : zm_H} {A : Nat → Prop} (c : MI h N) (fr : zFr A h g) (hA : ∀ q, A q → 128 ≤ q ∧ q ≤ 133) : MZ N h g :=
  ⟨fr.mono (fun q hq => Or.inr (Or.inr (hA q hq))), fun j _ => by rw [fr.I (fun x => by have := hA _ x; omega)], ML_fr fr (fun x => by have := hA _ x; omega) c.2.1⟩
theorem fr_th {h g : zm_H} {A : Nat → Prop} (fr : zFr A h g) (hA : ∀ q, A q → 128 ≤ q ∧ q ≤ 133) : zI g 125 0 = zI h 125 0 := by rw [fr.I (fun x => by have := hA _ x; omega)]
theorem wyA_q (q : Nat) (h : wyA q) : 128 ≤ q ∧ q ≤ 133 := by unfold wyA at h; omega
theorem cmA_q (q : Nat) (h : cmA q) : 128 ≤ q ∧ q ≤ 133 := by unfold cmA at h; omega
theorem loA_q (q : Nat) (h : loA q) : 128 ≤ q ∧ q ≤ 133 := by unfold loA at h; omega
theorem in_x {x : Int32} {n : Nat} {hi : Int64} (hx : x.toInt < 0 ∨ (n : Int) < x.toInt) (e : hi.toInt = (n : Int)) (h : zm_H) : sX6_in [.long x.toInt64, .long (0 : Int64), .long hi] h = some (.inl (some (.int 0)), h) := by
  rw [in_G]
  have w : (decide ((0 : Int64) ≤ x.toInt64) && decide (x.toInt64 ≤ hi)) = false := by
    have z : (0 : Int64).toInt = 0 := rfl
    rcases hx with a | a
    · have : ¬ (0 : Int64) ≤ x.toInt64 := by
        rw [Int64.le_iff_toInt_le, Int32.toInt_toInt64]
        omega
      simp [this]
    · have : ¬ x.toInt64 ≤ hi := by
        rw [Int64.le_iff_toInt_le, Int32.toInt_toInt64]
        omega
      simp [this]
  rw [w]; rfl
theorem or_0 (x : Nat) : nI x ||| (0 : Int32) = nI x := by
  show nI x ||| nI 0 = _
  rw [nx_or, Nat.or_zero]
section
variable {h : zm_H} {N : zLv}
theorem r_place (c : MI h N) {r : Nat} (hr : r < 2 ^ 31) : sX6_placeOf [.ref 125, .int (nI r)] h = some (.inl (some (.int (oI (nplace N r (N 4))))), h) := by
  obtain ⟨m0, mL, hF⟩ := c
  have h4 := hF.1.2.2.1
  have l4 := mL.at (i := 4) (by omega) (by omega)
  have ww := fun k (hk : k < N 4) => r_walkedAt m0 mL (show k < 100 by omega)
  obtain ⟨t0, t3, tq, t1, t2, t4, t5, t6, t7, t8, t9, t10, t21, t22, t23, t25, n6, n7, n8, n9, n10, n11, n12, n13, n14, n15, n16, n17, n18⟩ := m0
  refine zsem_eq (Nat.le_of_ble_eq_true rfl) (zTo_of gX6_placeOf_0 ?_)
  have key : ∀ d k, k + d = N 4 → nplace N r k = none → zTo vX6_placeOf rX6_placeOf (2, [some (.ref 125), some (.int (nI r)), some (.int (nI k))], [], h) (fun y => y = (.inl (some (.int (oI (nplace N r (N 4))))), h)) := by
    intro d
    induction d with
    | zero =>
      intro k hk hn
      have hk : k = N 4 := by omega
      subst hk
      refine zTo_of gX6_placeOf_2 ?_
      simp only [t0, t1, n6, c_4, p_4, l4, show ¬ 149 ≤ 4 by omega, nI_le (Nat.le_refl _) (show N 4 < 2 ^ 31 by omega), zmp_s, zlt_s, zcV_s, zcI_s, zcJ_s, zcA_s, zcD_s, zcF_s, zth_n, zth_t, zrt_s, zQ_l, zQ_r, false_or, or_false, true_or, or_true, false_and, and_false, not_false_eq_true, not_true_eq_false, and_self, true_and, and_true, if_true, if_false, ite_true, ite_false, zgd_t]
      rw [hn]; rfl
    | succ d ih =>
      intro k hk hn
      obtain ⟨f1, f2, f3, f4⟩ := nI_for (show k < N 4 by omega) (by omega)
      have w32 := hF.walk32 k (by omega)
      refine zTo_of gX6_placeOf_2 ?_
      simp only [t0, t1, n6, c_4, p_4, l4, show ¬ 149 ≤ 4 by omega, f1, f4, ww k (by omega), nI_eq (show N (5 + k) < 2 ^ 31 by omega) hr, zmp_s, zlt_s, zcV_s, zcI_s, zcJ_s, zcA_s, zcD_s, zcF_s, zth_n, zth_t, zrt_s, zQ_l, zQ_r, false_or, or_false, true_or, or_true, false_and, and_false, not_false_eq_true, not_true_eq_false, and_self, true_and, and_true, if_true, if_false, ite_true, ite_false, zgd_t]
      by_cases e : N (5 + k) = r
      · simp only [e, zmp_s, zlt_s, zcV_s, zcI_s, zcJ_s, zcA_s, zcD_s, zcF_s, zth_n, zth_t, zrt_s, zQ_l, zQ_r, false_or, or_false, true_or, or_true, false_and, and_false, not_false_eq_true, not_true_eq_false, and_self, true_and, and_true, if_true, if_false, ite_true, ite_false]
        have : nplace N r (N 4) = some k := by
          cases q : nplace N r (N 4) with
          | none => exact absurd e (nplace_none.mp q k (by omega))
          | some j =>
            obtain ⟨h1, h2, h3⟩ := nplace_some q
            have h4 := nplace_none.mp hn
            by_cases h5 : j < k
            · exact absurd h2 (h4 j h5)
            · by_cases h6 : k < j
              · exact absurd e (h3 k h6)
              · rw [show j = k by omega]
        rw [this]; rfl
      · simp only [e, zmp_s, zlt_s, zcV_s, zcI_s, zcJ_s, zcA_s, zcD_s, zcF_s, zth_n, zth_t, zrt_s, zQ_l, zQ_r, false_or, or_false, true_or, or_true, false_and, and_false, not_false_eq_true, not_true_eq_false, and_self, true_and, and_true, if_true, if_false, ite_true, ite_false]
        exact ih (k + 1) (by omega) (by rw [nplace, hn]; exact if_neg e)
  exact key (N 4) 0 (by omega) rfl
theorem nmask_s (f : Nat → Bool) (n : Nat) : nmask f (n + 1) = if f n = true then nmask f n ||| 2 ^ n else nmask f n := rfl
theorem r_doorsOf (c : MI h N) {r : Nat} {b : Bool} (hr : r < 2 ^ 31) : sX6_doorsOf [.ref 125, .int (nI r), .int (zb b)] h = some (.inl (some (.int (nI (nmask (if b then ndi N r else ndf N r) (N 1))))), h) := by
  obtain ⟨m0, mL, hF⟩ := c
  have h1 := hF.1.2.1
  obtain ⟨F, hF2⟩ : ∃ F, F = if b then ndi N r else ndf N r := ⟨_, rfl⟩
  rw [← hF2]
  refine zsem_eq (Nat.le_of_ble_eq_true rfl) (zTo_of gX6_doorsOf_0 ?_)
  have key : ∀ d k, k + d = N 1 → zTo vX6_doorsOf rX6_doorsOf (4, [some (.ref 125), some (.int (nI r)), some (.int (zb b)), some (.int (nI (nmask F k))), some (.int (nI k)), none, none], [], h) (fun y => y = (.inl (some (.int (nI (nmask F (N 1))))), h)) := by
    intro d
    induction d with
    | zero =>
      intro k hk
      have hk : k = N 1 := by omega
      subst hk
      refine zTo_of gX6_doorsOf_4 ?_
      simp only [m0.1, r_doors m0 mL, nI_le (Nat.le_refl _) (show N 1 < 2 ^ 31 by omega), zmp_s, zlt_s, zcV_s, zcI_s, zcJ_s, zcA_s, zcD_s, zcF_s, zth_n, zth_t, zrt_s, zQ_l, zQ_r, false_or, or_false, true_or, or_true, false_and, and_false, not_false_eq_true, not_true_eq_false, and_self, true_and, and_true, if_true, if_false, ite_true, ite_false, zgd_t]
    | succ d ih =>
      intro k hk
      have hkn : k < N 1 := by omega
      obtain ⟨f1, f2, f3, f4⟩ := nI_for hkn (by omega)
      have nx := ih (k + 1) (by omega)
      rw [nmask_s] at nx
      obtain ⟨d1, d2, d3, d4, d5, d6, d7⟩ := hF.1.2.2.2.2.1 k hkn
      have h0 := hF.1.1
      have v0 := r_ofDoor0 m0 mL (show k < 20 by omega)
      have v1 := r_ofDoor1 m0 mL (show k < 20 by omega)
      have v4 := r_ofDoor4 m0 mL (show k < 20 by omega)
      refine zTo_of gX6_doorsOf_4 ?_
      simp only [m0.1, r_doors m0 mL, f1, zb_0, zmp_s, zlt_s, zcV_s, zcI_s, zcJ_s, zcA_s, zcD_s, zcF_s, zth_n, zth_t, zrt_s, zQ_l, zQ_r, false_or, or_false, true_or, or_true, false_and, and_false, not_false_eq_true, not_true_eq_false, and_self, true_and, and_true, if_true, if_false, ite_true, ite_false, zgd_t]
      cases b with
      | false =>
        simp only [false_or, or_false, true_or, or_true, false_and, and_false, not_false_eq_true, not_true_eq_false, and_self, true_and, and_true, if_true, if_false, ite_true, ite_false, zmp_s, zlt_s, zcV_s, zcI_s, zcJ_s, zcA_s, zcD_s, zcF_s, zth_n, zth_t, zrt_s, zQ_l, zQ_r]
        refine zTo_of gX6_doorsOf_15 ?_
        have ef : F k = (decide (N (49 + 5 * k) = r) || (decide (N (50 + 5 * k) = r) && decide (N (53 + 5 * k) = 0))) := by rw [hF2]; rfl
        simp only [m0.1, v0, nI_eq (show N (49 + 5 * k) < 2 ^ 31 by omega) hr, zmp_s, zlt_s, zcV_s, zcI_s, zcJ_s, zcA_s, zcD_s, zcF_s, zth_n, zth_t, zrt_s, zQ_l, zQ_r, false_or, or_false, true_or, or_true, false_and, and_false, not_false_eq_true, not_true_eq_false, and_self, true_and, and_true, if_true, if_false, ite_true, ite_false, zgd_t]
        by_cases e1 : N (49 + 5 * k) = r <;> by_cases e2 : N (50 + 5 * k) = r <;> by_cases e3 : N (53 + 5 * k) = 0 <;> (
          simp only [e1, e2, e3, decide_true, decide_false, Bool.or_true, Bool.true_or, Bool.and_true, Bool.true_and, Bool.and_false, Bool.false_and, Bool.or_false, Bool.false_or] at ef
          simp only [ef, Bool.false_eq_true, if_true, if_false] at nx
          simp only [e1, false_or, or_false, true_or, or_true, false_and, and_false, not_false_eq_true, not_true_eq_false, and_self, true_and, and_true, if_true, if_false, ite_true, ite_false, zmp_s, zlt_s, zcV_s, zcI_s, zcJ_s, zcA_s, zcD_s, zcF_s, zth_n, zth_t, zrt_s, zQ_l, zQ_r]
          refine zTo_of gX6_doorsOf_21 ?_
          simp only [zb_0, m0.1, v1, v4, nI_eq (show N (50 + 5 * k) < 2 ^ 31 by omega) hr, nI_eq0 (show N (53 + 5 * k) < 2 ^ 31 by omega), e2, e3, i10, nx_shl1 (show k < 32 by omega), nx_or, or_0, f4, zmp_s, zlt_s, zcV_s, zcI_s, zcJ_s, zcA_s, zcD_s, zcF_s, zth_n, zth_t, zrt_s, zQ_l, zQ_r, false_or, or_false, true_or, or_true, false_and, and_false, not_false_eq_true, not_true_eq_false, and_self, true_and, and_true, if_true, if_false, ite_true, ite_false, zgd_t]
          exact nx)
      | true =>
        simp only [Bool.true_eq_false, false_or, or_false, true_or, or_true, false_and, and_false, not_false_eq_true, not_true_eq_false, and_self, true_and, and_true, if_true, if_false, ite_true, ite_false, zmp_s, zlt_s, zcV_s, zcI_s, zcJ_s, zcA_s, zcD_s, zcF_s, zth_n, zth_t, zrt_s, zQ_l, zQ_r]
        refine zTo_of gX6_doorsOf_15 ?_
        have ef : F k = (decide (N (50 + 5 * k) = r) || (decide (N (49 + 5 * k) = r) && decide (N (53 + 5 * k) = 0))) := by rw [hF2]; rfl
        simp only [m0.1, v1, nI_eq (show N (50 + 5 * k) < 2 ^ 31 by omega) hr, zmp_s, zlt_s, zcV_s, zcI_s, zcJ_s, zcA_s, zcD_s, zcF_s, zth_n, zth_t, zrt_s, zQ_l, zQ_r, false_or, or_false, true_or, or_true, false_and, and_false, not_false_eq_true, not_true_eq_false, and_self, true_and, and_true, if_true, if_false, ite_true, ite_false, zgd_t]
        by_cases e1 : N (49 + 5 * k) = r <;> by_cases e2 : N (50 + 5 * k) = r <;> by_cases e3 : N (53 + 5 * k) = 0 <;> (
          simp only [e1, e2, e3, decide_true, decide_false, Bool.or_true, Bool.true_or, Bool.and_true, Bool.true_and, Bool.and_false, Bool.false_and, Bool.or_false, Bool.false_or] at ef
          simp only [ef, Bool.false_eq_true, if_true, if_false] at nx
          simp only [e2, false_or, or_false, true_or, or_true, false_and, and_false, not_false_eq_true, not_true_eq_false, and_self, true_and, and_true, if_true, if_false, ite_true, ite_false, zmp_s, zlt_s, zcV_s, zcI_s, zcJ_s, zcA_s, zcD_s, zcF_s, zth_n, zth_t, zrt_s, zQ_l, zQ_r]
          refine zTo_of gX6_doorsOf_21 ?_
          simp only [zb_0, Bool.true_eq_false, m0.1, v0, v4, nI_eq (show N (49 + 5 * k) < 2 ^ 31 by omega) hr, nI_eq0 (show N (53 + 5 * k) < 2 ^ 31 by omega), e1, e3, i10, nx_shl1 (show k < 32 by omega), nx_or, or_0, f4, zmp_s, zlt_s, zcV_s, zcI_s, zcJ_s, zcA_s, zcD_s, zcF_s, zth_n, zth_t, zrt_s, zQ_l, zQ_r, false_or, or_false, true_or, or_true, false_and, and_false, not_false_eq_true, not_true_eq_false, and_self, true_and, and_true, if_true, if_false, ite_true, ite_false, zgd_t]
          exact nx)
  exact key (N 1) 0 (by omega)
theorem r_property (c : MI h N) {k : Nat} (hk8 : k ≤ 8) : MR (sX6_property [.ref 125, .int (nI k)] h) (some (.int (nPr N k))) 0 (MZ N h) := by
  have c1 := c.go (MZ.th c 0)
  obtain ⟨m1, mL1, hF⟩ := c1
  have hW := hF.1
  have w1 := r_walkSet m1 mL1 hW.2.2.1 hF.walk32
  have w2 := r_lastRoom m1 mL1 hW.2.2.1 hF.2.2.2.2.1
  have w3 := r_keysIn m1 mL1 hW.1 hF.set31
  have w4 := r_coinsIn m1 mL1 hW.1 hF.set31
  refine ⟨zsI h 125 0 0, ?_, MZ.th c 0, th_0⟩
  have p := p1_t c.1
  have kk := mL1 k (by omega)
  have a0 := m1.1
  have a1 := m1.2.2.2.1
  have k6 := m1.2.2.2.2.2.2.2.2.2.2.2.2.2.2.2.2.1
  refine zsem_eq (Nat.le_of_ble_eq_true rfl) (zTo_of gX6_property_0 ?_)
  simp only [in_l (hi := 8) hk8 (show 8 < 2 ^ 31 by omega) rfl, c.1.1, p, i10, zmp_s, zlt_s, zcV_s, zcI_s, zcJ_s, zcA_s, zcD_s, zcF_s, zth_n, zth_t, zrt_s, zQ_l, zQ_r, false_or, or_false, true_or, or_true, false_and, and_false, not_false_eq_true, not_true_eq_false, and_self, true_and, and_true, if_true, if_false, ite_true, ite_false, zgd_t]
  have lo : k < 5 → nPr N k = mI N k → zTo vX6_property rX6_property (11, [some (.ref 125), some (.int (nI k))], [.int (nI k)], zsI h 125 0 0) (fun y => y = (.inl (some (.int (nPr N k))), zsI h 125 0 0)) := fun hk e => by
    refine zTo_of (gX6_property_11_d (Or.inl (by rw [nI_toInt (by omega)]; omega))) (zTo_of gX6_property_28 ?_)
    simp only [a0, a1, k6, nI_clamp (show k < 2 ^ 31 by omega), nI_lt0 (show k < 2 ^ 31 by omega), show ¬ 149 ≤ k by omega, kk, e, zmp_s, zlt_s, zcV_s, zcI_s, zcJ_s, zcA_s, zcD_s, zcF_s, zth_n, zth_t, zrt_s, zQ_l, zQ_r, false_or, or_false, true_or, or_true, false_and, and_false, not_false_eq_true, not_true_eq_false, and_self, true_and, and_true, if_true, if_false, ite_true, ite_false, zgd_t]
  match k, hk8, lo with
  | 0, _, lo => exact lo (by omega) rfl
  | 1, _, lo => exact lo (by omega) rfl
  | 2, _, lo => exact lo (by omega) rfl
  | 3, _, lo => exact lo (by omega) rfl
  | 4, _, lo => exact lo (by omega) rfl
  | 5, _, _ => exact zTo_of gX6_property_11_5 (zTo_of gX6_property_12 (by simp only [a0, w1, w2, w3, w4, zmp_s, zlt_s, zcV_s, zcI_s, zcJ_s, zcA_s, zcD_s, zcF_s, zth_n, zth_t, zrt_s, zQ_l, zQ_r, zgd_t]; rfl))
  | 6, _, _ => exact zTo_of gX6_property_11_6 (zTo_of gX6_property_15 (by simp only [a0, w1, w2, w3, w4, zmp_s, zlt_s, zcV_s, zcI_s, zcJ_s, zcA_s, zcD_s, zcF_s, zth_n, zth_t, zrt_s, zQ_l, zQ_r, zgd_t]; rfl))
  | 7, _, _ => exact zTo_of gX6_property_11_7 (zTo_of gX6_property_18 (by simp only [a0, w1, w2, w3, w4, zmp_s, zlt_s, zcV_s, zcI_s, zcJ_s, zcA_s, zcD_s, zcF_s, zth_n, zth_t, zrt_s, zQ_l, zQ_r, zgd_t]; rfl))
  | 8, _, _ => exact zTo_of gX6_property_11_8 (zTo_of gX6_property_23 (by simp only [a0, w1, w2, w3, w4, zmp_s, zlt_s, zcV_s, zcI_s, zcJ_s, zcA_s, zcD_s, zcF_s, zth_n, zth_t, zrt_s, zQ_l, zQ_r, zgd_t]; rfl))
theorem r_propertyX (c : MI h N) {x : Int32} (hx : x.toInt < 0 ∨ 8 < x.toInt) : MR (sX6_property [.ref 125, .int x] h) (some (.int 0)) 1 (MZ N h) := by
  refine ⟨zsI h 125 0 1, ?_, MZ.th c 1, th_0⟩
  refine zsem_eq (Nat.le_of_ble_eq_true rfl) (zTo_of gX6_property_0 ?_)
  simp only [in_x (n := 8) (hi := 8) hx rfl, c.1.1, p1_f c.1, zmp_s, zlt_s, zcV_s, zcI_s, zcJ_s, zcA_s, zcD_s, zcF_s, zth_n, zth_t, zrt_s, zQ_l, zQ_r, false_or, or_false, true_or, or_true, false_and, and_false, not_false_eq_true, not_true_eq_false, and_self, true_and, and_true, if_true, if_false, ite_true, ite_false, zgd_t]
theorem r_room (c : MI h N) {r k : Nat} (hr : r < N 0) (hk4 : k ≤ 4) : MR (sX6_room [.ref 125, .int (nI r), .int (nI k)] h) (some (.int (nRo N r k))) 0 (MZ N h) := by
  have c1 := c.go (MZ.th c 0)
  have hW := c.2.2.1
  have h0 := hW.1
  have w0 := r_ofRoom0 c1.1 c1.2.1 (show r < 11 by omega)
  have w1 := r_ofRoom1 c1.1 c1.2.1 (show r < 11 by omega)
  have w2 := r_doorsOf (b := false) c1 (show r < 2 ^ 31 by omega)
  have w3 := r_doorsOf (b := true) c1 (show r < 2 ^ 31 by omega)
  have w4 := r_place c1 (show r < 2 ^ 31 by omega)
  have a0 := c1.1.1
  refine ⟨zsI h 125 0 0, ?_, MZ.th c 0, th_0⟩
  refine zsem_eq (Nat.le_of_ble_eq_true rfl) (zTo_of gX6_room_0 ?_)
  simp only [r_isRoom c.1 c.2.1 h0 hr, in_l (hi := 4) hk4 (show 4 < 2 ^ 31 by omega) rfl, c.1.1, p2_t c.1, i10, zmp_s, zlt_s, zcV_s, zcI_s, zcJ_s, zcA_s, zcD_s, zcF_s, zth_n, zth_t, zrt_s, zQ_l, zQ_r, false_or, or_false, true_or, or_true, false_and, and_false, not_false_eq_true, not_true_eq_false, and_self, true_and, and_true, if_true, if_false, ite_true, ite_false, zgd_t]
  match k, hk4 with
  | 0, _ => exact zTo_of (gX6_room_14_d (Or.inl (by rw [nI_toInt (by omega)]; omega))) (zTo_of gX6_room_29 (by
      have w0 : sX6_ofRoom [.ref 125, .int (nI r), .int (nI 0)] (zsI h 125 0 0) = _ := w0
      simp only [a0, w0, zmp_s, zlt_s, zcV_s, zcI_s, zcJ_s, zcA_s, zcD_s, zcF_s, zth_n, zth_t, zrt_s, zQ_l, zQ_r, zgd_t]; rfl))
  | 1, _ => exact zTo_of (gX6_room_14_d (Or.inl (by rw [nI_toInt (by omega)]; omega))) (zTo_of gX6_room_29 (by
      have w1 : sX6_ofRoom [.ref 125, .int (nI r), .int (nI 1)] (zsI h 125 0 0) = _ := w1
      simp only [a0, w1, zmp_s, zlt_s, zcV_s, zcI_s, zcJ_s, zcA_s, zcD_s, zcF_s, zth_n, zth_t, zrt_s, zQ_l, zQ_r, zgd_t]; rfl))
  | 2, _ => exact zTo_of gX6_room_14_2 (zTo_of gX6_room_15 (by
      have w2 : sX6_doorsOf [.ref 125, .int (nI r), .int 0] (zsI h 125 0 0) = _ := w2
      simp only [a0, w2, zmp_s, zlt_s, zcV_s, zcI_s, zcJ_s, zcA_s, zcD_s, zcF_s, zth_n, zth_t, zrt_s, zQ_l, zQ_r, zgd_t]; rfl))
  | 3, _ => exact zTo_of gX6_room_14_3 (zTo_of gX6_room_20 (by
      have w3 : sX6_doorsOf [.ref 125, .int (nI r), .int 1] (zsI h 125 0 0) = _ := w3
      simp only [a0, w3, zmp_s, zlt_s, zcV_s, zcI_s, zcJ_s, zcA_s, zcD_s, zcF_s, zth_n, zth_t, zrt_s, zQ_l, zQ_r, zgd_t]; rfl))
  | 4, _ => exact zTo_of gX6_room_14_4 (zTo_of gX6_room_25 (by simp only [a0, w4, zmp_s, zlt_s, zcV_s, zcI_s, zcJ_s, zcA_s, zcD_s, zcF_s, zth_n, zth_t, zrt_s, zQ_l, zQ_r, zgd_t]; rfl))
theorem r_roomX (c : MI h N) {x y : Int32} (hx : x < 0 ∨ nI (N 0) ≤ x) : MR (sX6_room [.ref 125, .int x, .int y] h) (some (.int 0)) 1 (MZ N h) := by
  refine ⟨zsI h 125 0 1, ?_, MZ.th c 1, th_0⟩
  refine zsem_eq (Nat.le_of_ble_eq_true rfl) (zTo_of gX6_room_0 ?_)
  simp only [r_isRoomX c.1 c.2.1 c.2.2.1.1 hx, in_G, c.1.1, p2_1 c.1, zmp_s, zlt_s, zcV_s, zcI_s, zcJ_s, zcA_s, zcD_s, zcF_s, zth_n, zth_t, zrt_s, zQ_l, zQ_r, false_or, or_false, true_or, or_true, false_and, and_false, not_false_eq_true, not_true_eq_false, and_self, true_and, and_true, if_true, if_false, ite_true, ite_false, zgd_t]
theorem r_roomY (c : MI h N) {r : Nat} {y : Int32} (hr : r < N 0) (hy : y.toInt < 0 ∨ 4 < y.toInt) : MR (sX6_room [.ref 125, .int (nI r), .int y] h) (some (.int 0)) 2 (MZ N h) := by
  refine ⟨zsI h 125 0 2, ?_, MZ.th c 2, th_0⟩
  refine zsem_eq (Nat.le_of_ble_eq_true rfl) (zTo_of gX6_room_0 ?_)
  simp only [r_isRoom c.1 c.2.1 c.2.2.1.1 hr, in_x (n := 4) (hi := 4) hy rfl, c.1.1, p2_2 c.1, zmp_s, zlt_s, zcV_s, zcI_s, zcJ_s, zcA_s, zcD_s, zcF_s, zth_n, zth_t, zrt_s, zQ_l, zQ_r, false_or, or_false, true_or, or_true, false_and, and_false, not_false_eq_true, not_true_eq_false, and_self, true_and, and_true, if_true, if_false, ite_true, ite_false, zgd_t]
theorem zbor (b : Bool) : (zb b = 0 ∨ zb b = 1) = True := eq_true zb_01
theorem r_isOpenNow (c : MI h N) {d : Nat} (hd : d < N 1) : sX6_isOpenNow [.ref 125, .int (nI d)] h = some (.inl (some (.int (zb (nopen N d (nkeys N (nset N)) (ncoins N (nset N)))))), h) := by
  obtain ⟨m0, mL, hF⟩ := c
  have hW := hF.1
  refine zsem_eq (Nat.le_of_ble_eq_true rfl) (zTo_of gX6_isOpenNow_0 ?_)
  simp only [m0.1, r_walkSet m0 mL hW.2.2.1 hF.walk32, r_keysIn m0 mL hW.1 hF.set31, r_coinsIn m0 mL hW.1 hF.set31, r_isOpen m0 mL hW hd hF.k31 hF.c31, zrt_s, zbor, zmp_s, zlt_s, zcV_s, zcI_s, zcJ_s, zcA_s, zcD_s, zcF_s, zth_n, zth_t, zrt_s, zQ_l, zQ_r, false_or, or_false, true_or, or_true, false_and, and_false, not_false_eq_true, not_true_eq_false, and_self, true_and, and_true, if_true, if_false, ite_true, ite_false, zgd_t]
theorem r_door (c : MI h N) {d k : Nat} (hd : d < N 1) (hk5 : k ≤ 5) : MR (sX6_door [.ref 125, .int (nI d), .int (nI k)] h) (some (.int (nDo N d k))) 0 (MZ N h) := by
  have c1 := c.go (MZ.th c 0)
  have hW := c.2.2.1
  have h1 := hW.2.1
  have w0 := r_ofDoor0 c1.1 c1.2.1 (show d < 20 by omega)
  have w1 := r_ofDoor1 c1.1 c1.2.1 (show d < 20 by omega)
  have w2 := r_ofDoor2 c1.1 c1.2.1 (show d < 20 by omega)
  have w3 := r_ofDoor3 c1.1 c1.2.1 (show d < 20 by omega)
  have w4 := r_ofDoor4 c1.1 c1.2.1 (show d < 20 by omega)
  have w5 := r_isOpenNow c1 hd
  have a0 := c1.1.1
  refine ⟨zsI h 125 0 0, ?_, MZ.th c 0, th_0⟩
  refine zsem_eq (Nat.le_of_ble_eq_true rfl) (zTo_of gX6_door_0 ?_)
  have e5 : (nI k = 5) = (k = 5) := propext (nI_eq (b := 5) (by omega) (by omega))
  simp only [r_isDoor c.1 c.2.1 h1 hd, in_l (hi := 5) hk5 (show 5 < 2 ^ 31 by omega) rfl, c.1.1, p2_t c.1, i10, e5, zmp_s, zlt_s, zcV_s, zcI_s, zcJ_s, zcA_s, zcD_s, zcF_s, zth_n, zth_t, zrt_s, zQ_l, zQ_r, false_or, or_false, true_or, or_true, false_and, and_false, not_false_eq_true, not_true_eq_false, and_self, true_and, and_true, if_true, if_false, ite_true, ite_false, zgd_t]
  match k, hk5 with
  | 0, _ => 
    have w0 : sX6_ofDoor [.ref 125, .int (nI d), .int (nI 0)] (zsI h 125 0 0) = _ := w0
    simp only [show ¬ 0 = 5 by omega, a0, w0, zmp_s, zlt_s, zcV_s, zcI_s, zcJ_s, zcA_s, zcD_s, zcF_s, zth_n, zth_t, zrt_s, zQ_l, zQ_r, false_or, or_false, true_or, or_true, false_and, and_false, not_false_eq_true, not_true_eq_false, and_self, true_and, and_true, if_true, if_false, ite_true, ite_false, zgd_t]; rfl
  | 1, _ => 
    have w1 : sX6_ofDoor [.ref 125, .int (nI d), .int (nI 1)] (zsI h 125 0 0) = _ := w1
    simp only [show ¬ 1 = 5 by omega, a0, w1, zmp_s, zlt_s, zcV_s, zcI_s, zcJ_s, zcA_s, zcD_s, zcF_s, zth_n, zth_t, zrt_s, zQ_l, zQ_r, false_or, or_false, true_or, or_true, false_and, and_false, not_false_eq_true, not_true_eq_false, and_self, true_and, and_true, if_true, if_false, ite_true, ite_false, zgd_t]; rfl
  | 2, _ => 
    have w2 : sX6_ofDoor [.ref 125, .int (nI d), .int (nI 2)] (zsI h 125 0 0) = _ := w2
    simp only [show ¬ 2 = 5 by omega, a0, w2, zmp_s, zlt_s, zcV_s, zcI_s, zcJ_s, zcA_s, zcD_s, zcF_s, zth_n, zth_t, zrt_s, zQ_l, zQ_r, false_or, or_false, true_or, or_true, false_and, and_false, not_false_eq_true, not_true_eq_false, and_self, true_and, and_true, if_true, if_false, ite_true, ite_false, zgd_t]; rfl
  | 3, _ => 
    have w3 : sX6_ofDoor [.ref 125, .int (nI d), .int (nI 3)] (zsI h 125 0 0) = _ := w3
    simp only [show ¬ 3 = 5 by omega, a0, w3, zmp_s, zlt_s, zcV_s, zcI_s, zcJ_s, zcA_s, zcD_s, zcF_s, zth_n, zth_t, zrt_s, zQ_l, zQ_r, false_or, or_false, true_or, or_true, false_and, and_false, not_false_eq_true, not_true_eq_false, and_self, true_and, and_true, if_true, if_false, ite_true, ite_false, zgd_t]; rfl
  | 4, _ => 
    have w4 : sX6_ofDoor [.ref 125, .int (nI d), .int (nI 4)] (zsI h 125 0 0) = _ := w4
    simp only [show ¬ 4 = 5 by omega, a0, w4, zmp_s, zlt_s, zcV_s, zcI_s, zcJ_s, zcA_s, zcD_s, zcF_s, zth_n, zth_t, zrt_s, zQ_l, zQ_r, false_or, or_false, true_or, or_true, false_and, and_false, not_false_eq_true, not_true_eq_false, and_self, true_and, and_true, if_true, if_false, ite_true, ite_false, zgd_t]; rfl
  | 5, _ =>
    simp only [a0, w5, zb_0, zmp_s, zlt_s, zcV_s, zcI_s, zcJ_s, zcA_s, zcD_s, zcF_s, zth_n, zth_t, zrt_s, zQ_l, zQ_r, false_or, or_false, true_or, or_true, false_and, and_false, not_false_eq_true, not_true_eq_false, and_self, true_and, and_true, if_true, if_false, ite_true, ite_false, zgd_t]
    show zQ _ _ (fun y => y = (.inl (some (.int (zb (nopen N d (nkeys N (nset N)) (ncoins N (nset N)))))), _)) _
    cases nopen N d (nkeys N (nset N)) (ncoins N (nset N)) <;> simp [zQ, zb]
theorem r_doorX (c : MI h N) {x y : Int32} (hx : x < 0 ∨ nI (N 1) ≤ x) : MR (sX6_door [.ref 125, .int x, .int y] h) (some (.int 0)) 1 (MZ N h) := by
  refine ⟨zsI h 125 0 1, ?_, MZ.th c 1, th_0⟩
  refine zsem_eq (Nat.le_of_ble_eq_true rfl) (zTo_of gX6_door_0 ?_)
  simp only [r_isDoorX c.1 c.2.1 c.2.2.1.2.1 hx, in_G, c.1.1, p2_1 c.1, zmp_s, zlt_s, zcV_s, zcI_s, zcJ_s, zcA_s, zcD_s, zcF_s, zth_n, zth_t, zrt_s, zQ_l, zQ_r, false_or, or_false, true_or, or_true, false_and, and_false, not_false_eq_true, not_true_eq_false, and_self, true_and, and_true, if_true, if_false, ite_true, ite_false, zgd_t]
theorem r_doorY (c : MI h N) {d : Nat} {y : Int32} (hd : d < N 1) (hy : y.toInt < 0 ∨ 5 < y.toInt) : MR (sX6_door [.ref 125, .int (nI d), .int y] h) (some (.int 0)) 2 (MZ N h) := by
  refine ⟨zsI h 125 0 2, ?_, MZ.th c 2, th_0⟩
  refine zsem_eq (Nat.le_of_ble_eq_true rfl) (zTo_of gX6_door_0 ?_)
  simp only [r_isDoor c.1 c.2.1 c.2.2.1.2.1 hd, in_x (n := 5) (hi := 5) hy rfl, c.1.1, p2_2 c.1, zmp_s, zlt_s, zcV_s, zcI_s, zcJ_s, zcA_s, zcD_s, zcF_s, zth_n, zth_t, zrt_s, zQ_l, zQ_r, false_or, or_false, true_or, or_true, false_and, and_false, not_false_eq_true, not_true_eq_false, and_self, true_and, and_true, if_true, if_false, ite_true, ite_false, zgd_t]
theorem r_walked (c : MI h N) {k : Nat} (hk4 : k < N 4) : MR (sX6_walked [.ref 125, .int (nI k)] h) (some (.int (nI (nwk N k)))) 0 (MZ N h) := by
  have c1 := c.go (MZ.th c 0)
  have h4 := c.2.2.1.2.2.1
  have w := r_walkedAt c1.1 c1.2.1 (show k < 100 by omega)
  have a0 := c1.1.1
  have mL := c.2.1
  have m0 := c.1
  have p := p1_t c.1
  refine ⟨zsI h 125 0 0, ?_, MZ.th c 0, th_0⟩
  obtain ⟨t0, t3, tq, t1, t2, t4, t5, t6, t7, t8, t9, t10, t21, t22, t23, t25, n6, n7, n8, n9, n10, n11, n12, n13, n14, n15, n16, n17, n18⟩ := m0
  refine zsem_eq (Nat.le_of_ble_eq_true rfl) (zTo_of gX6_walked_0 ?_)
  simp only [t0, t1, n6, c_4, p_4, mL.at (i := 4) (by omega) (by omega), show ¬ 149 ≤ 4 by omega, in_t hk4 (show N 4 < 2 ^ 31 by omega), p, i10, a0, w, zmp_s, zlt_s, zcV_s, zcI_s, zcJ_s, zcA_s, zcD_s, zcF_s, zth_n, zth_t, zrt_s, zQ_l, zQ_r, false_or, or_false, true_or, or_true, false_and, and_false, not_false_eq_true, not_true_eq_false, and_self, true_and, and_true, if_true, if_false, ite_true, ite_false, zgd_t]
  rfl
theorem r_walkedX (c : MI h N) {x : Int32} (hx : x < 0 ∨ nI (N 4) ≤ x) : MR (sX6_walked [.ref 125, .int x] h) (some (.int 0)) 1 (MZ N h) := by
  have h4 := c.2.2.1.2.2.1
  have mL := c.2.1
  have m0 := c.1
  have p := p1_f c.1
  refine ⟨zsI h 125 0 1, ?_, MZ.th c 1, th_0⟩
  obtain ⟨t0, t3, tq, t1, t2, t4, t5, t6, t7, t8, t9, t10, t21, t22, t23, t25, n6, n7, n8, n9, n10, n11, n12, n13, n14, n15, n16, n17, n18⟩ := m0
  refine zsem_eq (Nat.le_of_ble_eq_true rfl) (zTo_of gX6_walked_0 ?_)
  simp only [t0, t1, n6, c_4, p_4, mL.at (i := 4) (by omega) (by omega), show ¬ 149 ≤ 4 by omega, in_f (show N 4 < 2 ^ 31 by omega) hx (m1_toInt (show N 4 < 2 ^ 31 by omega)), p, zmp_s, zlt_s, zcV_s, zcI_s, zcJ_s, zcA_s, zcD_s, zcF_s, zth_n, zth_t, zrt_s, zQ_l, zQ_r, false_or, or_false, true_or, or_true, false_and, and_false, not_false_eq_true, not_true_eq_false, and_self, true_and, and_true, if_true, if_false, ite_true, ite_false, zgd_t]
theorem r_foundAt (c : MI h N) {key : Nat} (hk8 : key < 8) : MR (sX6_foundAt [.ref 125, .int (nI key)] h) (some (.int (oI (nFo N key)))) 0 (MZ N h) := by
  have c1 := c.go (MZ.th c 0)
  have p := p1_t c.1
  have h4 := c.2.2.1.2.2.1
  have a00 := c.1.1
  obtain ⟨m0, mL, hF⟩ := c1
  have h0 := hF.1.1
  have l4 := mL.at (i := 4) (by omega) (by omega)
  refine ⟨zsI h 125 0 0, ?_, MZ.th c 0, th_0⟩
  generalize zsI h 125 0 0 = g at m0 mL p l4 ⊢
  have ww := fun k (hk : k < N 4) => r_walkedAt m0 mL (show k < 100 by omega)
  have wr := fun k (hk : k < N 4) => r_ofRoom0 m0 mL (show nwk N k < 11 by have := hF.wk hk; omega)
  obtain ⟨t0, t3, tq, t1, t2, t4, t5, t6, t7, t8, t9, t10, t21, t22, t23, t25, n6, n7, n8, n9, n10, n11, n12, n13, n14, n15, n16, n17, n18⟩ := m0
  refine zsem_eq (Nat.le_of_ble_eq_true rfl) (zTo_of gX6_foundAt_0 ?_)
  simp only [r_isKey hk8, a00, p, i10, zmp_s, zlt_s, zcV_s, zcI_s, zcJ_s, zcA_s, zcD_s, zcF_s, zth_n, zth_t, zrt_s, zQ_l, zQ_r, false_or, or_false, true_or, or_true, false_and, and_false, not_false_eq_true, not_true_eq_false, and_self, true_and, and_true, if_true, if_false, ite_true, ite_false, zgd_t]
  have loop : ∀ d k, k + d = N 4 → (∀ j, j < k → (N (16 + 3 * nwk N j)).testBit key = false) → zTo vX6_foundAt rX6_foundAt (9, [some (.ref 125), some (.int (nI key)), some (.int (nI k))], [], g) (fun y => y = (.inl (some (.int (oI (nFo N key)))), g)) := by
    intro d
    induction d with
    | zero =>
      intro k hkd hno
      have hk4 : k = N 4 := by omega
      refine zTo_of gX6_foundAt_9 ?_
      simp only [t0, t1, n6, c_4, p_4, l4, show ¬ 149 ≤ 4 by omega, hk4, nI_le (Nat.le_refl _) (show N 4 < 2 ^ 31 by omega), zmp_s, zlt_s, zcV_s, zcI_s, zcJ_s, zcA_s, zcD_s, zcF_s, zth_n, zth_t, zrt_s, zQ_l, zQ_r, false_or, or_false, true_or, or_true, false_and, and_false, not_false_eq_true, not_true_eq_false, and_self, true_and, and_true, if_true, if_false, ite_true, ite_false, zgd_t]
      unfold nFo
      rw [nfind_none.mpr (by rw [← hk4]; exact hno)]; rfl
    | succ d ih =>
      intro k hkd hno
      obtain ⟨f1, f2, f3, f4⟩ := nI_for (show k < N 4 by omega) (by omega)
      have wk := hF.wk (show k < N 4 by omega)
      have b1 := (hF.1.2.2.2.1 (nwk N k) wk).1
      have w1 : sX6_walkedAt [.ref 125, .int (nI k)] g = some (.inl (some (.int (nI (nwk N k)))), g) := ww k (by omega)
      refine zTo_of gX6_foundAt_9 ?_
      simp only [t0, t1, n6, c_4, p_4, l4, show ¬ 149 ≤ 4 by omega, f1, f4, w1, wr k (by omega), r_has (show N (16 + 3 * nwk N k) < 2 ^ 31 by omega) (show key < 32 by omega), zb_0, zmp_s, zlt_s, zcV_s, zcI_s, zcJ_s, zcA_s, zcD_s, zcF_s, zth_n, zth_t, zrt_s, zQ_l, zQ_r, false_or, or_false, true_or, or_true, false_and, and_false, not_false_eq_true, not_true_eq_false, and_self, true_and, and_true, if_true, if_false, ite_true, ite_false, zgd_t]
      by_cases q : (N (16 + 3 * nwk N k)).testBit key = true
      · simp only [q, Bool.true_eq_false, false_or, or_false, true_or, or_true, false_and, and_false, not_false_eq_true, not_true_eq_false, and_self, true_and, and_true, if_true, if_false, ite_true, ite_false, zmp_s, zlt_s, zcV_s, zcI_s, zcJ_s, zcA_s, zcD_s, zcF_s, zth_n, zth_t, zrt_s, zQ_l, zQ_r]
        unfold nFo
        have hf : nfind (fun k => (N (16 + 3 * nwk N k)).testBit key) (N 4) = some k := nfind_some.mpr ⟨by omega, q, hno⟩
        rw [hf]; rfl
      · have q : (N (16 + 3 * nwk N k)).testBit key = false := by simpa using q
        simp only [q, false_or, or_false, true_or, or_true, false_and, and_false, not_false_eq_true, not_true_eq_false, and_self, true_and, and_true, if_true, if_false, ite_true, ite_false, zmp_s, zlt_s, zcV_s, zcI_s, zcJ_s, zcA_s, zcD_s, zcF_s, zth_n, zth_t, zrt_s, zQ_l, zQ_r]
        refine ih (k + 1) (by omega) (fun j hj => ?_)
        by_cases e : j = k
        · rw [e]; exact q
        · exact hno j (by omega)
  exact loop (N 4) 0 (by omega) (fun j hj => by omega)
theorem r_foundAtX (c : MI h N) {x : Int32} (hx : x < 0 ∨ nI 8 ≤ x) : MR (sX6_foundAt [.ref 125, .int x] h) (some (.int 0)) 1 (MZ N h) := by
  refine ⟨zsI h 125 0 1, ?_, MZ.th c 1, th_0⟩
  refine zsem_eq (Nat.le_of_ble_eq_true rfl) (zTo_of gX6_foundAt_0 ?_)
  simp only [r_isKeyX hx, c.1.1, p1_f c.1, zmp_s, zlt_s, zcV_s, zcI_s, zcJ_s, zcA_s, zcD_s, zcF_s, zth_n, zth_t, zrt_s, zQ_l, zQ_r, false_or, or_false, true_or, or_true, false_and, and_false, not_false_eq_true, not_true_eq_false, and_self, true_and, and_true, if_true, if_false, ite_true, ite_false, zgd_t]
theorem nthr_go {d a b : Nat} (hW : WB N) (hd : d < N 1) : (nthr N d a = some b) ↔ ndgo N d a b = true := by
  obtain ⟨w0, w1, w4, wr, wd, ww⟩ := hW
  obtain ⟨d1, d2, d3, d4, d5, d6, d7⟩ := wd d hd
  unfold nthr ndgo
  by_cases e1 : N (49 + 5 * d) = a
  · have e2 : ¬ N (50 + 5 * d) = a := fun e => d3 (by rw [e1, e])
    simp [e1, e2]
  · by_cases e2 : N (50 + 5 * d) = a <;> by_cases e3 : N (53 + 5 * d) = 0 <;> simp [e1, e2, e3]
theorem oI_eq {o : Option Nat} {b : Nat} (ho : ∀ x, o = some x → x < 2 ^ 31) (hb : b < 2 ^ 31) : (oI o = nI b) = (o = some b) := by
  cases o with
  | none =>
    apply propext
    constructor
    · intro x
      have := eI_eq (k := b) (l := 0) hb (by omega)
      rw [eI_0] at this
      have x2 : nI b = -1 := x.symm
      rw [this] at x2
      omega
    · intro x; cases x
  | some a =>
    have := ho a rfl
    show (nI a = nI b) = _
    rw [propext (nI_eq this hb)]
    apply propext
    constructor
    · intro x; rw [x]
    · intro x; cases x; rfl
theorem nany_s (p : Nat → Bool) (n : Nat) : nany p (n + 1) = (nany p n || p n) := rfl
theorem place_bit (hF : WF N) {r : Nat} : (nset N).testBit r = (nplace N r (N 4)).isSome := by
  rw [nset_nsk, nsk_bit]
  cases q : nplace N r (N 4) with
  | none =>
    have := nplace_none.mp q
    cases w : nany (fun i => decide (nwk N i = r)) (N 4)
    · rfl
    · obtain ⟨k, hk, e⟩ := nany_iff.mp w
      exact absurd (of_decide_eq_true e) (this k hk)
  | some k =>
    obtain ⟨h1, h2, h3⟩ := nplace_some q
    exact nany_iff.mpr ⟨k, h1, decide_eq_true h2⟩
theorem r_whyNot (c : MI h N) {r : Nat} (hr : r < N 0) : sX6_whyNot [.ref 125, .int (nI r)] h = some (.inl (some (.int (nI (nWhy N r)))), h) := by
  have op := fun d (hd : d < N 1) => r_isOpenNow c hd
  obtain ⟨m0, mL, hF⟩ := c
  have hW := hF.1
  have h0 := hW.1
  have h1 := hW.2.1
  have hl := hF.last
  refine zsem_eq (Nat.le_of_ble_eq_true rfl) (zTo_of gX6_whyNot_0 ?_)
  simp only [m0.1, r_walkSet m0 mL hW.2.2.1 hF.walk32, r_has hF.set31 (show r < 32 by omega), place_bit hF, zb_0, zmp_s, zlt_s, zcV_s, zcI_s, zcJ_s, zcA_s, zcD_s, zcF_s, zth_n, zth_t, zrt_s, zQ_l, zQ_r, false_or, or_false, true_or, or_true, false_and, and_false, not_false_eq_true, not_true_eq_false, and_self, true_and, and_true, if_true, if_false, ite_true, ite_false, zgd_t]
  unfold nWhy
  cases hp : (nplace N r (N 4)).isSome
  · simp only [Bool.false_eq_true, false_or, or_false, true_or, or_true, false_and, and_false, not_false_eq_true, not_true_eq_false, and_self, true_and, and_true, if_true, if_false, ite_true, ite_false, zmp_s, zlt_s, zcV_s, zcI_s, zcJ_s, zcA_s, zcD_s, zcF_s, zth_n, zth_t, zrt_s, zQ_l, zQ_r]
    obtain ⟨go, hgo⟩ : ∃ go : Nat → Bool, go = fun d => ndgo N d (N (4 + N 4)) r := ⟨_, rfl⟩
    obtain ⟨op2, hop⟩ : ∃ op2 : Nat → Bool, op2 = fun d => nopen N d (nkeys N (nset N)) (ncoins N (nset N)) := ⟨_, rfl⟩
    have g1 : (fun d => ndgo N d (N (4 + N 4)) r && nopen N d (nkeys N (nset N)) (ncoins N (nset N))) = fun d => go d && op2 d := by rw [hgo, hop]
    have g2 : (fun d => ndgo N d (N (4 + N 4)) r && decide (N (51 + 5 * d) = 2)) = fun d => go d && decide (N (51 + 5 * d) = 2) := by rw [hgo]
    have g3 : (fun d => ndgo N d (N (4 + N 4)) r) = go := hgo.symm
    rw [g1, g2, g3]
    have loop : ∀ e k, k + e = N 1 → nany (fun d => go d && op2 d) k = false → zTo vX6_whyNot rX6_whyNot (11, [some (.ref 125), some (.int (nI r)), some (.int (nI (if nany (fun d => go d && decide (N (51 + 5 * d) = 2)) k = true then 4 else if nany go k = true then 3 else 2))), some (.int (nI k))], [], h) (fun y => y = (.inl (some (.int (nI (if nany (fun d => go d && op2 d) (N 1) = true then 0 else if nany (fun d => go d && decide (N (51 + 5 * d) = 2)) (N 1) = true then 4 else if nany go (N 1) = true then 3 else 2)))), h)) := by
      intro e
      induction e with
      | zero =>
        intro k hk hno
        have hk : k = N 1 := by omega
        subst hk
        refine zTo_of gX6_whyNot_11 ?_
        simp only [m0.1, r_doors m0 mL, nI_le (Nat.le_refl _) (show N 1 < 2 ^ 31 by omega), hno, Bool.false_eq_true, zmp_s, zlt_s, zcV_s, zcI_s, zcJ_s, zcA_s, zcD_s, zcF_s, zth_n, zth_t, zrt_s, zQ_l, zQ_r, false_or, or_false, true_or, or_true, false_and, and_false, not_false_eq_true, not_true_eq_false, and_self, true_and, and_true, if_true, if_false, ite_true, ite_false, zgd_t]
      | succ e ih =>
        intro k hk hno
        have hkn : k < N 1 := by omega
        obtain ⟨f1, f2, f3, f4⟩ := nI_for hkn (by omega)
        obtain ⟨d1, d2, d3, d4, d5, d6, d7⟩ := hW.2.2.2.2.1 k hkn
        have tg : (oI (nthr N k (N (4 + N 4))) = nI r) = (go k = true) := by
          rw [oI_eq (fun x e => by have := nthr_lt hW hkn e; omega) (show r < 2 ^ 31 by omega), propext (nthr_go hW hkn), hgo]
        have o1 := op k hkn
        have o2 : nopen N k (nkeys N (nset N)) (ncoins N (nset N)) = op2 k := by rw [hop]
        have e2 : (nI (N (51 + 5 * k)) = 2) = (N (51 + 5 * k) = 2) := propext (nI_eq (b := 2) (by omega) (by omega))
        rw [o2] at o1
        have nx := ih (k + 1) (by omega)
        simp only [nany_s] at nx
        refine zTo_of gX6_whyNot_11 ?_
        simp only [m0.1, r_doors m0 mL, f1, f4, r_lastRoom m0 mL hW.2.2.1 hF.2.2.2.2.1, r_through m0 mL hW hkn (show N (4 + N 4) < 2 ^ 31 by omega), tg, o1, zb_0, r_ofDoor2 m0 mL (show k < 20 by omega), e2, zmp_s, zlt_s, zcV_s, zcI_s, zcJ_s, zcA_s, zcD_s, zcF_s, zth_n, zth_t, zrt_s, zQ_l, zQ_r, false_or, or_false, true_or, or_true, false_and, and_false, not_false_eq_true, not_true_eq_false, and_self, true_and, and_true, if_true, if_false, ite_true, ite_false, zgd_t]
        cases hg : go k
        · simp only [Bool.false_eq_true, false_or, or_false, true_or, or_true, false_and, and_false, not_false_eq_true, not_true_eq_false, and_self, true_and, and_true, if_true, if_false, ite_true, ite_false, zmp_s, zlt_s, zcV_s, zcI_s, zcJ_s, zcA_s, zcD_s, zcF_s, zth_n, zth_t, zrt_s, zQ_l, zQ_r]
          simp only [hg, Bool.false_and, Bool.or_false] at nx
          exact nx hno
        · simp only [false_or, or_false, true_or, or_true, false_and, and_false, not_false_eq_true, not_true_eq_false, and_self, true_and, and_true, if_true, if_false, ite_true, ite_false, zmp_s, zlt_s, zcV_s, zcI_s, zcJ_s, zcA_s, zcD_s, zcF_s, zth_n, zth_t, zrt_s, zQ_l, zQ_r]
          cases ho : op2 k
          · simp only [false_or, or_false, true_or, or_true, false_and, and_false, not_false_eq_true, not_true_eq_false, and_self, true_and, and_true, if_true, if_false, ite_true, ite_false, zmp_s, zlt_s, zcV_s, zcI_s, zcJ_s, zcA_s, zcD_s, zcF_s, zth_n, zth_t, zrt_s, zQ_l, zQ_r]
            simp only [hg, ho, Bool.true_and, Bool.or_false, Bool.or_true] at nx
            by_cases e3 : N (51 + 5 * k) = 2
            · simp only [e3, false_or, or_false, true_or, or_true, false_and, and_false, not_false_eq_true, not_true_eq_false, and_self, true_and, and_true, if_true, if_false, ite_true, ite_false, zmp_s, zlt_s, zcV_s, zcI_s, zcJ_s, zcA_s, zcD_s, zcF_s, zth_n, zth_t, zrt_s, zQ_l, zQ_r]
              have nx2 := nx hno
              simp only [e3, decide_true, Bool.or_true, false_or, or_false, true_or, or_true, false_and, and_false, not_false_eq_true, not_true_eq_false, and_self, true_and, and_true, if_true, if_false, ite_true, ite_false] at nx2
              exact nx2
            · simp only [e3, false_or, or_false, true_or, or_true, false_and, and_false, not_false_eq_true, not_true_eq_false, and_self, true_and, and_true, if_true, if_false, ite_true, ite_false, zmp_s, zlt_s, zcV_s, zcI_s, zcJ_s, zcA_s, zcD_s, zcF_s, zth_n, zth_t, zrt_s, zQ_l, zQ_r]
              have nx2 := nx hno
              simp only [e3, decide_false, Bool.or_false, false_or, or_false, true_or, or_true, false_and, and_false, not_false_eq_true, not_true_eq_false, and_self, true_and, and_true, if_true, if_false, ite_true, ite_false] at nx2
              cases ht : nany (fun d => go d && decide (N (51 + 5 * d) = 2)) k
              · simp only [ht, Bool.false_eq_true, false_or, or_false, true_or, or_true, false_and, and_false, not_false_eq_true, not_true_eq_false, and_self, true_and, and_true, if_true, if_false, ite_true, ite_false] at nx2 ⊢
                have e4 : (nI (if nany go k = true then 3 else 2) = 4) = False := eq_false (fun x => by
                  split at x
                  · exact absurd ((nI_eq (a := 3) (b := 4) (by omega) (by omega)).mp x) (by omega)
                  · exact absurd ((nI_eq (a := 2) (b := 4) (by omega) (by omega)).mp x) (by omega))
                simp only [e4, false_or, or_false, true_or, or_true, false_and, and_false, not_false_eq_true, not_true_eq_false, and_self, true_and, and_true, if_true, if_false, ite_true, ite_false, zmp_s, zlt_s, zcV_s, zcI_s, zcJ_s, zcA_s, zcD_s, zcF_s, zth_n, zth_t, zrt_s, zQ_l, zQ_r]
                exact nx2
              · simp only [ht, false_or, or_false, true_or, or_true, false_and, and_false, not_false_eq_true, not_true_eq_false, and_self, true_and, and_true, if_true, if_false, ite_true, ite_false] at nx2 ⊢
                have e4 : (nI 4 = 4) = True := eq_true rfl
                simp only [e4, false_or, or_false, true_or, or_true, false_and, and_false, not_false_eq_true, not_true_eq_false, and_self, true_and, and_true, if_true, if_false, ite_true, ite_false, zmp_s, zlt_s, zcV_s, zcI_s, zcJ_s, zcA_s, zcD_s, zcF_s, zth_n, zth_t, zrt_s, zQ_l, zQ_r]
                exact nx2
          · simp only [Bool.true_eq_false, false_or, or_false, true_or, or_true, false_and, and_false, not_false_eq_true, not_true_eq_false, and_self, true_and, and_true, if_true, if_false, ite_true, ite_false, zmp_s, zlt_s, zcV_s, zcI_s, zcJ_s, zcA_s, zcD_s, zcF_s, zth_n, zth_t, zrt_s, zQ_l, zQ_r]
            have : nany (fun d => go d && op2 d) (N 1) = true := nany_iff.mpr ⟨k, hkn, by rw [hg, ho]; rfl⟩
            rw [this]; rfl
    exact loop (N 1) 0 (by omega) rfl
  · simp only [Bool.true_eq_false, false_or, or_false, true_or, or_true, false_and, and_false, not_false_eq_true, not_true_eq_false, and_self, true_and, and_true, if_true, if_false, ite_true, ite_false, zmp_s, zlt_s, zcV_s, zcI_s, zcJ_s, zcA_s, zcD_s, zcF_s, zth_n, zth_t, zrt_s, zQ_l, zQ_r]; rfl
theorem r_why (c : MI h N) {r : Nat} (hr : r < N 0) : MR (sX6_why [.ref 125, .int (nI r)] h) (some (.int (nI (nWhy N r)))) 0 (MZ N h) := by
  have c1 := c.go (MZ.th c 0)
  refine ⟨zsI h 125 0 0, ?_, MZ.th c 0, th_0⟩
  refine zsem_eq (Nat.le_of_ble_eq_true rfl) (zTo_of gX6_why_0 ?_)
  simp only [r_isRoom c.1 c.2.1 c.2.2.1.1 hr, c.1.1, p1_t c.1, i10, c1.1.1, r_whyNot c1 hr, zmp_s, zlt_s, zcV_s, zcI_s, zcJ_s, zcA_s, zcD_s, zcF_s, zth_n, zth_t, zrt_s, zQ_l, zQ_r, false_or, or_false, true_or, or_true, false_and, and_false, not_false_eq_true, not_true_eq_false, and_self, true_and, and_true, if_true, if_false, ite_true, ite_false, zgd_t]
theorem r_whyX (c : MI h N) {x : Int32} (hx : x < 0 ∨ nI (N 0) ≤ x) : MR (sX6_why [.ref 125, .int x] h) (some (.int 0)) 1 (MZ N h) := by
  refine ⟨zsI h 125 0 1, ?_, MZ.th c 1, th_0⟩
  refine zsem_eq (Nat.le_of_ble_eq_true rfl) (zTo_of gX6_why_0 ?_)
  simp only [r_isRoomX c.1 c.2.1 c.2.2.1.1 hx, c.1.1, p1_f c.1, zmp_s, zlt_s, zcV_s, zcI_s, zcJ_s, zcA_s, zcD_s, zcF_s, zth_n, zth_t, zrt_s, zQ_l, zQ_r, false_or, or_false, true_or, or_true, false_and, and_false, not_false_eq_true, not_true_eq_false, and_self, true_and, and_true, if_true, if_false, ite_true, ite_false, zgd_t]
end
end ZMF
