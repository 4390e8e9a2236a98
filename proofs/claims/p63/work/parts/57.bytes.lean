/-! THE CLASS: the input's and the output's bytes. -/
section ZCH
/-- a row of bytes -/
def BL (h : zm_H) (b q cap : Nat) (xs : List Int32) : Prop := zI h b 1 = nI xs.length ∧ xs.length ≤ cap ∧ ∀ i, i < xs.length → zI h q i = xs.getD i 0
theorem BL_fr {A : Nat → Prop} {h g : zm_H} {b q cap : Nat} {xs : List Int32} (fr : zFr A h g) (hb : ¬ A b) (hq : ¬ A q) (B : BL h b q cap xs) : BL g b q cap xs := ⟨by rw [fr.I hb]; exact B.1, B.2.1, fun i hi => by rw [fr.I hq]; exact B.2.2 i hi⟩
theorem getD_lo {xs ys : List Int32} {i : Nat} (h : i < xs.length) : (xs ++ ys).getD i 0 = xs.getD i 0 := by
  rw [List.getD_eq_getElem?_getD, List.getD_eq_getElem?_getD, List.getElem?_append_left h]
theorem getD_hi {xs ys : List Int32} {i : Nat} : (xs ++ ys).getD (xs.length + i) 0 = ys.getD i 0 := by
  rw [List.getD_eq_getElem?_getD, List.getD_eq_getElem?_getD, List.getElem?_append_right (by omega), Nat.add_sub_cancel_left]
theorem BL_add {h g : zm_H} {b q cap : Nat} {xs ys : List Int32} (B : BL h b q cap xs) (G : byG h b q xs.length ys g) (hc : xs.length + ys.length ≤ cap) : BL g b q cap (xs ++ ys) := by
  refine ⟨by rw [List.length_append]; exact G.2.1, by rw [List.length_append]; exact hc, fun i hi => ?_⟩
  by_cases w : i < xs.length
  · rw [getD_lo w, G.2.2.1 i w]; exact B.2.2 i w
  · obtain ⟨j, rfl⟩ : ∃ j, i = xs.length + j := ⟨i - xs.length, by omega⟩
    rw [getD_hi]
    rw [List.length_append] at hi
    exact G.2.2.2 j (by omega)
theorem CI.inp {h : zm_H} {N : zLv} {xs : List Int32} (c : CI h N) (B : BL h 1 2 500 xs) : byS h 1 2 500 xs.length := by
  have hk := c.1
  obtain ⟨q0, r0, r1, r2, r3, r4, r5, r6, r7, r9, i0, i1, i2, o0, o1, o2, v5, v16, hh, v96, v107, sl0, sl1, sl2, fl0, tb, rw0⟩ := hk
  exact ⟨i0, i1, i2, B.1⟩
theorem CI.out {h : zm_H} {N : zLv} {xs : List Int32} (c : CI h N) (B : BL h 3 4 77 xs) : byS h 3 4 77 xs.length := by
  have hk := c.1
  obtain ⟨q0, r0, r1, r2, r3, r4, r5, r6, r7, r9, i0, i1, i2, o0, o1, o2, v5, v16, hh, v96, v107, sl0, sl1, sl2, fl0, tb, rw0⟩ := hk
  exact ⟨o0, o1, o2, B.1⟩
theorem b4_len (v : Int32) : (b4 v).length = 4 := rfl
theorem m_append {h : zm_H} {N : zLv} {xs : List Int32} {v1 v2 v3 v4 v5 : Int32} (c : CI h N) (B : BL h 1 2 500 xs) (hl : xs.length + 20 ≤ 500) :
    ∃ g, sX5_append [.ref 0, .int v1, .int v2, .int v3, .int v4, .int v5] h = some (.inl (some (.int (nI (xs.length + 20)))), g) ∧ zFr (fun c => c = 1 ∨ c = 2) h g ∧ BL g 1 2 500 (xs ++ ((((b4 v1 ++ b4 v2) ++ b4 v3) ++ b4 v4) ++ b4 v5)) := by
  have b0 := c.inp B
  obtain ⟨g1, s1, t1⟩ := q_addFour v1 b0 (by omega) (by omega) (by omega)
  have b1 := byG_S b0 t1
  obtain ⟨g2, s2, t2⟩ := q_addFour v2 b1 (by rw [b4_len]; omega) (by omega) (by omega)
  have u2 := byG_app t1 t2
  have b2 := byG_S b0 u2
  obtain ⟨g3, s3, t3⟩ := q_addFour v3 b2 (by rw [List.length_append, b4_len, b4_len]; omega) (by omega) (by omega)
  have u3 := byG_app u2 t3
  have b3 := byG_S b0 u3
  obtain ⟨g4, s4, t4⟩ := q_addFour v4 b3 (by rw [List.length_append, List.length_append, b4_len, b4_len, b4_len]; omega) (by omega) (by omega)
  have u4 := byG_app u3 t4
  have b4' := byG_S b0 u4
  obtain ⟨g5, s5, t5⟩ := q_addFour v5 b4' (by rw [List.length_append, List.length_append, List.length_append, b4_len, b4_len, b4_len, b4_len]; omega) (by omega) (by omega)
  have u5 := byG_app u4 t5
  have len : ((((b4 v1 ++ b4 v2) ++ b4 v3) ++ b4 v4) ++ b4 v5).length = 20 := rfl
  have l5 := u5.2.1
  rw [len] at l5
  have K1 := t1.1.K
  have P1 := t1.1.P
  have K2 := u2.1.K
  have P2 := u2.1.P
  have K3 := u3.1.K
  have P3 := u3.1.P
  have K4 := u4.1.K
  have P4 := u4.1.P
  have K5 := u5.1.K
  have P5 := u5.1.P
  have hk := c.1
  obtain ⟨q0, r0, r1, r2, r3, r4, r5, r6, r7, r9, i0, i1, i2, o0, o1, o2, v5, v16, hh, v96, v107, sl0, sl1, sl2, fl0, tb, rw0⟩ := hk
  have li := B.1
  have v1' : (nI xs.length + (20 : Int32) ≤ (500 : Int32)) = True := by
    rw [show nI xs.length + (20 : Int32) = nI (xs.length + 20) from nI_add _ 20]
    exact eq_true ((nI_leI (b := 500) (by omega) (by omega)).mpr hl)
  refine ⟨g5, ?_, u5.1, BL_add B u5 (by rw [len]; exact hl)⟩
  refine zsem_eq (Nat.le_of_ble_eq_true rfl) (zTo_of gX5_append_0 ?_)
  simp only [q0, r0, i0, li, v1', s1, K1, P1, s2, K2, P2, s3, K3, P3, s4, K4, P4, s5, K5, P5, l5, zmp_s, zlt_s, zcV_s, zcI_s, zcJ_s, zcA_s, zcD_s, zcF_s, zth_n, zth_t, zrt_s, zQ_l, zQ_r, false_or, or_false, true_or, or_true, false_and, and_false, not_false_eq_true, not_true_eq_false, and_self, true_and, and_true, if_true, if_false, ite_true, ite_false, zgd_t]
theorem m_appendX {h : zm_H} {N : zLv} {xs : List Int32} {v1 v2 v3 v4 v5 : Int32} (c : CI h N) (B : BL h 1 2 500 xs) (hl : ¬ xs.length + 20 ≤ 500) : sX5_append [.ref 0, .int v1, .int v2, .int v3, .int v4, .int v5] h = some (.inr 0, h) := by
  have hk := c.1
  obtain ⟨q0, r0, r1, r2, r3, r4, r5, r6, r7, r9, i0, i1, i2, o0, o1, o2, v5, v16, hh, v96, v107, sl0, sl1, sl2, fl0, tb, rw0⟩ := hk
  have li := B.1
  have lc := B.2.1
  have v1' : (nI xs.length + (20 : Int32) ≤ (500 : Int32)) = False := by
    rw [show nI xs.length + (20 : Int32) = nI (xs.length + 20) from nI_add _ 20]
    exact eq_false (fun e => hl ((nI_leI (b := 500) (by omega) (by omega)).mp e))
  refine zsem_eq (Nat.le_of_ble_eq_true rfl) (zTo_of gX5_append_0 ?_)
  simp only [q0, r0, i0, li, v1', zmp_s, zlt_s, zcV_s, zcI_s, zcJ_s, zcA_s, zcD_s, zcF_s, zth_n, zth_t, zrt_s, zQ_l, zQ_r, false_or, or_false, true_or, or_true, false_and, and_false, not_false_eq_true, not_true_eq_false, and_self, true_and, and_true, if_true, if_false, ite_true, ite_false, zgd_t]
theorem m_truncate {h : zm_H} {N : zLv} {xs : List Int32} {k : Nat} (c : CI h N) (B : BL h 1 2 500 xs) (hk1 : k ≤ xs.length) :
    ∃ g, sX5_truncate [.ref 0, .int (nI k)] h = some (.inl none, g) ∧ zFr (fun c => c = 1) h g ∧ BL g 1 2 500 (xs.take k) := by
  have hk := c.1
  obtain ⟨q0, r0, r1, r2, r3, r4, r5, r6, r7, r9, i0, i1, i2, o0, o1, o2, v5, v16, hh, v96, v107, sl0, sl1, sl2, fl0, tb, rw0⟩ := hk
  have li := B.1
  have lc := B.2.1
  have v1 : (nI k < 0) = False := nI_lt0 (by omega)
  have v2 : (nI k ≤ nI xs.length) = True := eq_true ((nI_leI (by omega) (by omega)).mpr hk1)
  refine ⟨zsI h 1 1 (nI k), ?_, zFr.sI rfl, ?_, ?_, fun i hi => ?_⟩
  · refine zsem_eq (Nat.le_of_ble_eq_true rfl) (zTo_of gX5_truncate_0 ?_)
    simp only [v1, q0, r0, i0, li, v2, zmp_s, zlt_s, zcV_s, zcI_s, zcJ_s, zcA_s, zcD_s, zcF_s, zth_n, zth_t, zrt_s, zQ_l, zQ_r, false_or, or_false, true_or, or_true, false_and, and_false, not_false_eq_true, not_true_eq_false, and_self, true_and, and_true, if_true, if_false, ite_true, ite_false, zgd_t]
  · rw [I_sIs, zput_self, List.length_take, Nat.min_eq_left hk1]
  · rw [List.length_take]; omega
  · rw [List.length_take, Nat.min_eq_left hk1] at hi
    rw [I_sIn (by omega), B.2.2 i (by omega), List.getD_eq_getElem?_getD, List.getD_eq_getElem?_getD, List.getElem?_take_of_lt hi]
theorem m_truncateX {h : zm_H} {N : zLv} {xs : List Int32} {x : Int32} (c : CI h N) (B : BL h 1 2 500 xs) (hx : x < 0 ∨ ¬ x ≤ nI xs.length) : sX5_truncate [.ref 0, .int x] h = some (.inr 1, h) := by
  have hk := c.1
  obtain ⟨q0, r0, r1, r2, r3, r4, r5, r6, r7, r9, i0, i1, i2, o0, o1, o2, v5, v16, hh, v96, v107, sl0, sl1, sl2, fl0, tb, rw0⟩ := hk
  have li := B.1
  refine zsem_eq (Nat.le_of_ble_eq_true rfl) (zTo_of gX5_truncate_0 ?_)
  by_cases w : x < 0
  · simp only [w, zmp_s, zlt_s, zcV_s, zcI_s, zcJ_s, zcA_s, zcD_s, zcF_s, zth_n, zth_t, zrt_s, zQ_l, zQ_r, false_or, or_false, true_or, or_true, false_and, and_false, not_false_eq_true, not_true_eq_false, and_self, true_and, and_true, if_true, if_false, ite_true, ite_false]
  · simp only [w, q0, r0, i0, li, hx.resolve_left w, zmp_s, zlt_s, zcV_s, zcI_s, zcJ_s, zcA_s, zcD_s, zcF_s, zth_n, zth_t, zrt_s, zQ_l, zQ_r, false_or, or_false, true_or, or_true, false_and, and_false, not_false_eq_true, not_true_eq_false, and_self, true_and, and_true, if_true, if_false, ite_true, ite_false, zgd_t]
end ZCH

