/-! THE MODEL: bytes in and out. -/
section ZMR
/-- a byte, as the model keeps it -/
def sx (x : Int32) : Int32 := x.toInt8.toInt32
theorem sx_toInt (x : Int32) : (sx x).toInt = x.toInt.bmod 256 := by
  unfold sx
  rw [Int8.toInt_toInt32, Int32.toInt_toInt8]
theorem sx_and (x : Int32) : sx (x &&& 255) = sx x := by
  have e := pk_and x (m := 255) 8 rfl
  rw [e]
  apply Int32.toInt_inj.mp
  rw [sx_toInt, sx_toInt]
  have h1 : x.toBitVec.toNat % 2 ^ 8 < 2 ^ 31 := by omega
  rw [nI_toInt h1]
  have h2 : x.toInt = ((x.toBitVec.toNat : Int)).bmod (2 ^ 32) := BitVec.toInt_eq_toNat_bmod _
  rw [h2]
  have h3 : ((x.toBitVec.toNat : Int).bmod (2 ^ 32)).bmod 256 = (x.toBitVec.toNat : Int).bmod 256 := Int.bmod_bmod_of_dvd (by decide)
  rw [h3]
  generalize x.toBitVec.toNat = n
  have h4 : ((n % 2 ^ 8 : Nat) : Int) = (n : Int) % ((256 : Nat) : Int) := by omega
  rw [h4]
  exact Int.emod_bmod _ _
theorem sx_sx : ∀ k, k < 256 → sx (sx (nI k)) = sx (nI k) := by decide +kernel
theorem sx_back : ∀ k, k < 256 → sx (nI k) &&& 255 = nI k := by decide +kernel
theorem sx_lo : ∀ k, k < 128 → sx (nI k) = nI k := by decide +kernel
theorem and_k (x : Int32) : ∃ k, k < 256 ∧ x &&& 255 = nI k := by
  obtain ⟨k, hk, e⟩ := pk_andE x (m := 255) 8 rfl
  exact ⟨k, hk, e⟩
theorem sx2 (x : Int32) : (x.toInt8.toInt32).toInt8.toInt32 = sx x := by
  obtain ⟨k, hk, e⟩ := and_k x
  have := sx_sx k hk
  rw [← e, sx_and] at this
  exact this
/-- all are bytes -/
def BY (xs : List Int32) : Prop := ∀ i, i < xs.length → ∃ k, k < 256 ∧ xs.getD i 0 = nI k
def MBr (h : zm_H) (xs : List Int32) : Prop := ∀ i, i < xs.length → zI h 134 i = sx (xs.getD i 0)
def MB (h : zm_H) (xs : List Int32) : Prop := zI h 125 11 = nI xs.length ∧ xs.length ≤ 500 ∧ MBr h xs
def apA : Nat → Prop := fun c => c = 125 ∨ c = 134
section
variable {h : zm_H}
theorem MB_one {xs : List Int32} {x : Int32} (B : MB h xs) (hl : xs.length < 500) : MB (zsI (zsI h 134 xs.length (sx x)) 125 11 (nI (xs.length + 1))) (xs ++ [x &&& 255]) := by
  refine ⟨by rw [I_sIs, zput_self]; simp, by simp; omega, fun i hi => ?_⟩
  rw [I_sIn (by omega), I_sIs]
  simp only [List.length_append, List.length_cons, List.length_nil] at hi
  by_cases e : i = xs.length
  · subst e
    rw [zput_self]
    have := getD_hi (xs := xs) (ys := [x &&& 255]) (i := 0)
    rw [Nat.add_zero] at this
    rw [this]
    show sx x = sx (x &&& 255)
    rw [sx_and]
  · rw [zput_ne _ _ e, getD_lo (by omega)]
    exact B.2.2 i (by omega)
theorem ap_step {xs : List Int32} {v : Int32} {s : Nat} {R : zm_O → Prop} (m0 : moS h 126) (B : MB h xs) (hl : xs.length < 500) (hs : s < 32) (k : ∀ g, moS g 126 → zFr apA h g → (∀ j, j ≠ 11 → zI g 125 j = zI h 125 j) → MB g (xs ++ [(v >>> (nI s &&& 31)) &&& 255]) → zTo vX6_appendFour rX6_appendFour (2, [some (.ref 125), some (.int v), some (.int (nI s + (-8 : Int32)))], [], g) R) : zTo vX6_appendFour rX6_appendFour (2, [some (.ref 125), some (.int v), some (.int (nI s))], [], h) R := by
  have g := k (zsI (zsI h 134 xs.length (sx (v >>> (nI s &&& 31)))) 125 11 (nI (xs.length + 1))) (moS_kp rfl rfl m0) (zFr.tr (zFr.sI (A := apA) (Or.inr rfl)) (zFr.sI (A := apA) (Or.inl rfl))) (fun j hj => by rw [I_sIs, zput_ne _ _ hj, I_sIn (by omega)]) (MB_one B hl)
  have l11 := B.1
  obtain ⟨t0, t3, tq, t1, t2, t4, t5, t6, t7, t8, t9, t10, t21, t22, t23, t25, n6, n7, n8, n9, n10, n11, n12, n13, n14, n15, n16, n17, n18⟩ := m0
  refine zTo_of gX6_appendFour_2 ?_
  simp only [nI_lt0 (show s < 2 ^ 31 by omega), t0, t10, n14, l11, nI_clamp (show xs.length < 2 ^ 31 by omega), nI_lt0 (show xs.length < 2 ^ 31 by omega), show ¬ 500 ≤ xs.length by omega, K_sI, K_sJ, K_sD, K_sP, K_rI, K_rJ, P_sI, P_sJ, P_sD, P_rI, P_rJ, N_sI, N_sJ, N_sD, N_sP, N_rI, N_rJ, J_sI, J_sD, J_sP, J_rI, I_sJ, I_sD, I_sP, I_rJ, D_sI, D_sJ, D_sP, D_rI, D_rJ, I_sIn (show (125 : Nat) ≠ 134 by omega), nI_1, sx2, zmp_s, zlt_s, zcV_s, zcI_s, zcJ_s, zcA_s, zcD_s, zcF_s, zth_n, zth_t, zrt_s, zQ_l, zQ_r, false_or, or_false, true_or, or_true, false_and, and_false, not_false_eq_true, not_true_eq_false, and_self, true_and, and_true, if_true, if_false, ite_true, ite_false, zgd_t]
  exact g
theorem r_appendFour {xs : List Int32} {v : Int32} (m0 : moS h 126) (B : MB h xs) (hl : xs.length + 4 ≤ 500) : ∃ g, sX6_appendFour [.ref 125, .int v] h = some (.inl none, g) ∧ moS g 126 ∧ zFr apA h g ∧ (∀ j, j ≠ 11 → zI g 125 j = zI h 125 j) ∧ MB g (xs ++ b4 v) := by
  have a2 : nI 24 + (-8 : Int32) = nI 16 := by decide +kernel
  have a3 : nI 16 + (-8 : Int32) = nI 8 := by decide +kernel
  have a4 : nI 8 + (-8 : Int32) = nI 0 := by decide +kernel
  have a5 : nI 0 + (-8 : Int32) = -8 := by decide +kernel
  have n5 : ((-8 : Int32) < 0) = True := by decide +kernel
  have hsim : zW (sX6_appendFour [.ref 125, .int v] h) (fun o => ∃ g, o = (.inl none, g) ∧ moS g 126 ∧ zFr apA h g ∧ (∀ j, j ≠ 11 → zI g 125 j = zI h 125 j) ∧ MB g (xs ++ b4 v)) := by
    refine zsem_to (Nat.le_of_ble_eq_true rfl) (zTo_of gX6_appendFour_0 ?_)
    refine ap_step (s := 24) m0 B (by omega) (by omega) (fun g1 m1 f1 j1 B1 => ?_)
    rw [a2]
    refine ap_step (s := 16) m1 B1 (by simp; omega) (by omega) (fun g2 m2 f2 j2 B2 => ?_)
    rw [a3]
    refine ap_step (s := 8) m2 B2 (by simp; omega) (by omega) (fun g3 m3 f3 j3 B3 => ?_)
    rw [a4]
    refine ap_step (s := 0) m3 B3 (by simp; omega) (by omega) (fun g4 m4 f4 j4 B4 => ?_)
    rw [a5]
    refine zTo_of gX6_appendFour_2 ?_
    simp only [n5, zmp_s, zlt_s, zcV_s, zcI_s, zcJ_s, zcA_s, zcD_s, zcF_s, zth_n, zth_t, zrt_s, zQ_l, zQ_r, false_or, or_false, true_or, or_true, false_and, and_false, not_false_eq_true, not_true_eq_false, and_self, true_and, and_true, if_true, if_false, ite_true, ite_false]
    refine ⟨g4, rfl, m4, ((f1.tr f2).tr f3).tr f4, fun j hj => by rw [j4 j hj, j3 j hj, j2 j hj, j1 j hj], ?_⟩
    have e : (((xs ++ [(v >>> (nI 24 &&& 31)) &&& 255]) ++ [(v >>> (nI 16 &&& 31)) &&& 255]) ++ [(v >>> (nI 8 &&& 31)) &&& 255]) ++ [(v >>> (nI 0 &&& 31)) &&& 255] = xs ++ b4 v := by
      unfold b4
      simp only [List.append_assoc, List.cons_append, List.nil_append]
    rw [← e]; exact B4
  obtain ⟨o, e1, g, rfl, e2⟩ := hsim
  exact ⟨g, e1, e2⟩
/-- what a change of the input leaves -/
def MJ (h : zm_H) (xs : List Int32) (g : zm_H) : Prop := zFr apA h g ∧ (∀ j, j ≠ 0 → j ≠ 11 → zI g 125 j = zI h 125 j) ∧ MB g xs
theorem r_append {N : zLv} {xs : List Int32} {v1 v2 v3 v4 v5 : Int32} (c : MI h N) (B : MB h xs) (hl : xs.length + 20 ≤ 500) : MR (sX6_append [.ref 125, .int v1, .int v2, .int v3, .int v4, .int v5] h) (some (.int (nI (xs.length + 20)))) 0 (MJ h (xs ++ ((((b4 v1 ++ b4 v2) ++ b4 v3) ++ b4 v4) ++ b4 v5))) := by
  have m0 := (c.go (MZ.th c 0)).1
  have B0 : MB (zsI h 125 0 0) xs := ⟨by rw [I_sIs, zput_ne _ _ (by omega)]; exact B.1, B.2.1, fun i hi => by rw [I_sIn (by omega)]; exact B.2.2 i hi⟩
  obtain ⟨g1, e1, m1, f1, j1, B1⟩ := r_appendFour (v := v1) m0 B0 (by omega)
  obtain ⟨g2, e2, m2, f2, j2, B2⟩ := r_appendFour (v := v2) m1 B1 (by rw [List.length_append, b4_len]; omega)
  obtain ⟨g3, e3, m3, f3, j3, B3⟩ := r_appendFour (v := v3) m2 B2 (by rw [List.length_append, List.length_append, b4_len, b4_len]; omega)
  obtain ⟨g4, e4, m4, f4, j4, B4⟩ := r_appendFour (v := v4) m3 B3 (by rw [List.length_append, List.length_append, List.length_append, b4_len, b4_len, b4_len]; omega)
  obtain ⟨g5, e5, m5, f5, j5, B5⟩ := r_appendFour (v := v5) m4 B4 (by rw [List.length_append, List.length_append, List.length_append, List.length_append, b4_len, b4_len, b4_len, b4_len]; omega)
  have l11 := B.1
  have e20 : nI xs.length + (20 : Int32) = nI (xs.length + 20) := nI_add _ 20
  have l500 : ((500 : Int32) < nI (xs.length + 20)) = False := eq_false (nI_nlt (b := 500) (a := xs.length + 20) |> fun q => by
    intro w
    have := (nI_ltI (a := 500) (b := xs.length + 20) (by omega) (by omega)).mp w
    omega)
  have l5 := B5.1
  have ll : (xs ++ b4 v1 ++ b4 v2 ++ b4 v3 ++ b4 v4 ++ b4 v5).length = xs.length + 20 := by
    simp only [List.length_append, b4_len]
  rw [ll] at l5
  have ea : xs ++ b4 v1 ++ b4 v2 ++ b4 v3 ++ b4 v4 ++ b4 v5 = xs ++ ((((b4 v1 ++ b4 v2) ++ b4 v3) ++ b4 v4) ++ b4 v5) := by
    simp only [List.append_assoc]
  rw [ea] at B5
  refine ⟨g5, ?_, ⟨(zFr.sI (A := apA) (Or.inl rfl)).tr ((((f1.tr f2).tr f3).tr f4).tr f5), fun j h0 h11 => by rw [j5 j h11, j4 j h11, j3 j h11, j2 j h11, j1 j h11, I_sIs, zput_ne _ _ h0], B5⟩, by rw [j5 0 (by omega), j4 0 (by omega), j3 0 (by omega), j2 0 (by omega), j1 0 (by omega), th_0]⟩
  refine zsem_eq (Nat.le_of_ble_eq_true rfl) (zTo_of gX6_append_0 ?_)
  simp only [c.1.1, l11, e20, l500, p1_t c.1, i10, m0.1, e1, m1.1, e2, m2.1, e3, m3.1, e4, m4.1, e5, m5.1, l5, zmp_s, zlt_s, zcV_s, zcI_s, zcJ_s, zcA_s, zcD_s, zcF_s, zth_n, zth_t, zrt_s, zQ_l, zQ_r, false_or, or_false, true_or, or_true, false_and, and_false, not_false_eq_true, not_true_eq_false, and_self, true_and, and_true, if_true, if_false, ite_true, ite_false, zgd_t]
theorem r_appendX {N : zLv} {xs : List Int32} {v1 v2 v3 v4 v5 : Int32} (c : MI h N) (B : MB h xs) (hl : ¬ xs.length + 20 ≤ 500) : MR (sX6_append [.ref 125, .int v1, .int v2, .int v3, .int v4, .int v5] h) (some (.int 0)) 1 (MZ N h) := by
  have l11 := B.1
  have hb := B.2.1
  have e20 : nI xs.length + (20 : Int32) = nI (xs.length + 20) := nI_add _ 20
  have l500 : ((500 : Int32) < nI (xs.length + 20)) = True := eq_true ((nI_ltI (a := 500) (b := xs.length + 20) (by omega) (by omega)).mpr (by omega))
  refine ⟨zsI h 125 0 1, ?_, MZ.th c 1, th_0⟩
  refine zsem_eq (Nat.le_of_ble_eq_true rfl) (zTo_of gX6_append_0 ?_)
  simp only [c.1.1, l11, e20, l500, p1_f c.1, zmp_s, zlt_s, zcV_s, zcI_s, zcJ_s, zcA_s, zcD_s, zcF_s, zth_n, zth_t, zrt_s, zQ_l, zQ_r, false_or, or_false, true_or, or_true, false_and, and_false, not_false_eq_true, not_true_eq_false, and_self, true_and, and_true, if_true, if_false, ite_true, ite_false, zgd_t]
theorem getD_take {xs : List Int32} {i n : Nat} (h : i < n) : (xs.take n).getD i 0 = xs.getD i 0 := by
  rw [List.getD_eq_getElem?_getD, List.getD_eq_getElem?_getD, List.getElem?_take_of_lt h]
theorem r_truncate {N : zLv} {xs : List Int32} {k : Nat} (c : MI h N) (B : MB h xs) (hk : k ≤ xs.length) : MR (sX6_truncate [.ref 125, .int (nI k)] h) none 0 (MJ h (xs.take k)) := by
  have l11 := B.1
  have hb := B.2.1
  have m0 := (c.go (MZ.th c 0)).1
  have ei : sX6_in [.long (nI k).toInt64, .long (0 : Int64), .long (nI xs.length).toInt64] h = some (.inl (some (.int 1)), h) := in_l hk (show xs.length < 2 ^ 31 by omega) (nI_l (by omega)) h
  refine ⟨zsI (zsI h 125 0 0) 125 11 (nI k), ?_, ⟨zFr.tr (zFr.sI (A := apA) (Or.inl rfl)) (zFr.sI (A := apA) (Or.inl rfl)), fun j h0 h11 => by rw [I_sIs, zput_ne _ _ h11, I_sIs, zput_ne _ _ h0], ?_⟩, by rw [I_sIs, zput_ne _ _ (by omega), th_0]⟩
  · refine zsem_eq (Nat.le_of_ble_eq_true rfl) (zTo_of gX6_truncate_0 ?_)
    simp only [c.1.1, l11, ei, p1_t c.1, i10, m0.1, zmp_s, zlt_s, zcV_s, zcI_s, zcJ_s, zcA_s, zcD_s, zcF_s, zth_n, zth_t, zrt_s, zQ_l, zQ_r, false_or, or_false, true_or, or_true, false_and, and_false, not_false_eq_true, not_true_eq_false, and_self, true_and, and_true, if_true, if_false, ite_true, ite_false, zgd_t]
  · have lt : (xs.take k).length = k := by rw [List.length_take]; omega
    refine ⟨by rw [I_sIs, zput_self, lt], by omega, fun i hi => ?_⟩
    rw [I_sIn (by omega), I_sIn (by omega), getD_take (by omega)]
    exact B.2.2 i (by omega)
theorem r_truncateX {N : zLv} {xs : List Int32} {x : Int32} (c : MI h N) (B : MB h xs) (hx : x < 0 ∨ ¬ x ≤ nI xs.length) : MR (sX6_truncate [.ref 125, .int x] h) none 1 (MZ N h) := by
  have l11 := B.1
  have hb := B.2.1
  have hx2 : x < 0 ∨ nI (xs.length + 1) ≤ x := by
    rcases hx with q | q
    · exact Or.inl q
    · by_cases w : x < 0
      · exact Or.inl w
      · obtain ⟨j, hj, rfl⟩ := nI_of w
        right
        rw [nI_leI (by omega) hj]
        rw [nI_leI hj (by omega)] at q
        omega
  have ei : sX6_in [.long x.toInt64, .long (0 : Int64), .long (nI xs.length).toInt64] h = some (.inl (some (.int 0)), h) := in_f (show xs.length + 1 < 2 ^ 31 by omega) hx2 (by rw [Int32.toInt_toInt64, nI_toInt (by omega)]; omega) h
  refine ⟨zsI h 125 0 1, ?_, MZ.th c 1, th_0⟩
  refine zsem_eq (Nat.le_of_ble_eq_true rfl) (zTo_of gX6_truncate_0 ?_)
  simp only [c.1.1, l11, ei, p1_f c.1, zmp_s, zlt_s, zcV_s, zcI_s, zcJ_s, zcA_s, zcD_s, zcF_s, zth_n, zth_t, zrt_s, zQ_l, zQ_r, false_or, or_false, true_or, or_true, false_and, and_false, not_false_eq_true, not_true_eq_false, and_self, true_and, and_true, if_true, if_false, ite_true, ite_false, zgd_t]
-- out
def MO (h : zm_H) (ys : List Int32) : Prop := zI h 125 26 = nI ys.length ∧ ys.length ≤ 200 ∧ ∀ i, i < ys.length → zI h 138 i = ys.getD i 0
def ouA : Nat → Prop := fun c => c = 125 ∨ c = 138
theorem MO_one {ys : List Int32} {x : Int32} (B : MO h ys) (hl : ys.length < 200) : MO (zsI (zsI h 138 ys.length x) 125 26 (nI (ys.length + 1))) (ys ++ [x]) := by
  refine ⟨by rw [I_sIs, zput_self]; simp, by simp; omega, fun i hi => ?_⟩
  rw [I_sIn (by omega), I_sIs]
  simp only [List.length_append, List.length_cons, List.length_nil] at hi
  by_cases e : i = ys.length
  · subst e
    rw [zput_self]
    have := getD_hi (xs := ys) (ys := [x]) (i := 0)
    rw [Nat.add_zero] at this
    rw [this]; rfl
  · rw [zput_ne _ _ e, getD_lo (by omega)]
    exact B.2.2 i (by omega)
/-- bytes are written -/
def WO (h : zm_H) (ys : List Int32) (g : zm_H) : Prop := zFr ouA h g ∧ (∀ j, j ≠ 26 → zI g 125 j = zI h 125 j) ∧ MO g ys
theorem WO.tr {g k : zm_H} {ys zs : List Int32} (a : WO h ys g) (b : WO g zs k) : WO h zs k := ⟨a.1.tr b.1, fun j hj => by rw [b.2.1 j hj, a.2.1 j hj], b.2.2⟩
theorem WO.mi {N : zLv} {g : zm_H} {ys : List Int32} (c : MI h N) (a : WO h ys g) : MI g N := ⟨moS_fr a.1 c.1, ML_fr a.1 (by unfold ouA; omega) c.2.1, c.2.2⟩
theorem r_write {ys : List Int32} {k : Nat} (m0 : moS h 126) (B : MO h ys) (hl : ys.length < 200) (hk : k < 128) : ∃ g, sX6_write [.ref 125, .int (nI k)] h = some (.inl none, g) ∧ WO h (ys ++ [nI k]) g := by
  have l26 := B.1
  refine ⟨zsI (zsI h 138 ys.length (nI k)) 125 26 (nI (ys.length + 1)), ?_, zFr.tr (zFr.sI (A := ouA) (Or.inr rfl)) (zFr.sI (A := ouA) (Or.inl rfl)), fun j hj => by rw [I_sIs, zput_ne _ _ hj, I_sIn (by omega)], MO_one B hl⟩
  obtain ⟨t0, t3, tq, t1, t2, t4, t5, t6, t7, t8, t9, t10, t21, t22, t23, t25, n6, n7, n8, n9, n10, n11, n12, n13, n14, n15, n16, n17, n18⟩ := m0
  refine zsem_eq (Nat.le_of_ble_eq_true rfl) (zTo_of gX6_write_0 ?_)
  simp only [t0, t25, n18, l26, nI_clamp (show ys.length < 2 ^ 31 by omega), nI_lt0 (show ys.length < 2 ^ 31 by omega), show ¬ 200 ≤ ys.length by omega, sx2, sx_lo k hk, K_sI, K_sJ, K_sD, K_sP, K_rI, K_rJ, P_sI, P_sJ, P_sD, P_rI, P_rJ, N_sI, N_sJ, N_sD, N_sP, N_rI, N_rJ, J_sI, J_sD, J_sP, J_rI, I_sJ, I_sD, I_sP, I_rJ, D_sI, D_sJ, D_sP, D_rI, D_rJ, I_sIn (show (125 : Nat) ≠ 138 by omega), nI_1, zmp_s, zlt_s, zcV_s, zcI_s, zcJ_s, zcA_s, zcD_s, zcF_s, zth_n, zth_t, zrt_s, zQ_l, zQ_r, false_or, or_false, true_or, or_true, false_and, and_false, not_false_eq_true, not_true_eq_false, and_self, true_and, and_true, if_true, if_false, ite_true, ite_false, zgd_t]
theorem r_writeInt {ys : List Int32} {v : Nat} (m0 : moS h 126) (B : MO h ys) (hl : ys.length + 3 ≤ 200) (hv : v < 1000) : ∃ g, sX6_writeInt [.ref 125, .int (nI v)] h = some (.inl none, g) ∧ WO h (ys ++ ndg v) g := by
  have d10 : nI v / (10 : Int32) = nI (v / 10) := pk_div (d := 10) (by omega) (by omega) (by omega)
  have d100 : nI v / (100 : Int32) = nI (v / 100) := pk_div (d := 100) (by omega) (by omega) (by omega)
  have r10 : nI v - nI (v / 10) * (10 : Int32) = nI (v % 10) := by
    have := pk_rem (a := v) (d := 10) (by omega) (by omega) (by omega)
    rw [← d10]; exact this
  have dd : nI (v / 10) / (10 : Int32) = nI (v / 10 / 10) := pk_div (d := 10) (by omega) (by omega) (by omega)
  have rr : nI (v / 10) - nI (v / 10 / 10) * (10 : Int32) = nI (v / 10 % 10) := by
    have := pk_rem (a := v / 10) (d := 10) (by omega) (by omega) (by omega)
    rw [← dd]; exact this
  have e48 : ∀ x, (48 : Int32) + nI x = nI (48 + x) := fun x => nI_add 48 x
  have l99 : (nI v ≤ (99 : Int32)) = (v ≤ 99) := propext (nI_leI (b := 99) (by omega) (by omega))
  have l9 : (nI v ≤ (9 : Int32)) = (v ≤ 9) := propext (nI_leI (b := 9) (by omega) (by omega))
  have n10 : ((10 : Int32) = 0) = False := eq_false (fun e => nI_ne0 (n := 10) (by omega) (by omega) e)
  have n100 : ((100 : Int32) = 0) = False := eq_false (fun e => nI_ne0 (n := 100) (by omega) (by omega) e)
  unfold ndg
  by_cases a : v ≤ 99
  · by_cases b : v ≤ 9
    · obtain ⟨g1, e1, w1⟩ := r_write (k := 48 + v % 10) m0 B (by omega) (by omega)
      refine ⟨g1, ?_, ?_⟩
      · refine zsem_eq (Nat.le_of_ble_eq_true rfl) (zTo_of gX6_writeInt_0 ?_)
        simp only [l99, l9, a, b, n10, d10, r10, e48, m0.1, e1, zmp_s, zlt_s, zcV_s, zcI_s, zcJ_s, zcA_s, zcD_s, zcF_s, zth_n, zth_t, zrt_s, zQ_l, zQ_r, false_or, or_false, true_or, or_true, false_and, and_false, not_false_eq_true, not_true_eq_false, and_self, true_and, and_true, if_true, if_false, ite_true, ite_false, zgd_t]
      · rw [if_neg (by omega), if_neg (by omega)]; exact w1
    · obtain ⟨g1, e1, w1⟩ := r_write (k := 48 + v / 10 % 10) m0 B (by omega) (by omega)
      have m1 := moS_fr w1.1 m0
      obtain ⟨g2, e2, w2⟩ := r_write (k := 48 + v % 10) m1 w1.2.2 (by simp; omega) (by omega)
      refine ⟨g2, ?_, ?_⟩
      · refine zsem_eq (Nat.le_of_ble_eq_true rfl) (zTo_of gX6_writeInt_0 ?_)
        simp only [l99, l9, a, b, n10, d10, r10, dd, rr, e48, m0.1, e1, m1.1, e2, zmp_s, zlt_s, zcV_s, zcI_s, zcJ_s, zcA_s, zcD_s, zcF_s, zth_n, zth_t, zrt_s, zQ_l, zQ_r, false_or, or_false, true_or, or_true, false_and, and_false, not_false_eq_true, not_true_eq_false, and_self, true_and, and_true, if_true, if_false, ite_true, ite_false, zgd_t]
      · rw [if_neg (by omega), if_pos (by omega)]
        have := w1.tr w2
        rw [List.append_assoc] at this
        exact this
  · obtain ⟨g0, e0, w0⟩ := r_write (k := 48 + v / 100) m0 B (by omega) (by omega)
    have mm := moS_fr w0.1 m0
    obtain ⟨g1, e1, w1⟩ := r_write (k := 48 + v / 10 % 10) mm w0.2.2 (by simp; omega) (by omega)
    have m1 := moS_fr w1.1 mm
    obtain ⟨g2, e2, w2⟩ := r_write (k := 48 + v % 10) m1 w1.2.2 (by simp; omega) (by omega)
    refine ⟨g2, ?_, ?_⟩
    · refine zsem_eq (Nat.le_of_ble_eq_true rfl) (zTo_of gX6_writeInt_0 ?_)
      simp only [l99, l9, a, show ¬ v ≤ 9 by omega, n10, n100, d100, d10, r10, dd, rr, e48, m0.1, e0, mm.1, e1, m1.1, e2, zmp_s, zlt_s, zcV_s, zcI_s, zcJ_s, zcA_s, zcD_s, zcF_s, zth_n, zth_t, zrt_s, zQ_l, zQ_r, false_or, or_false, true_or, or_true, false_and, and_false, not_false_eq_true, not_true_eq_false, and_self, true_and, and_true, if_true, if_false, ite_true, ite_false, zgd_t]
    · rw [if_pos (by omega), if_pos (by omega)]
      have := (w0.tr w1).tr w2
      rw [List.append_assoc, List.append_assoc] at this
      exact this
end
end ZMR
