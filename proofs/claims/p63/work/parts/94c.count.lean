/-! THE LAW'S COUNT. -/
section ZLQ2
section
variable {h : zm_H} {N : zLv}
theorem w_cF {mc : zm_M} {Sc : zm_S} {S a : Nat} (c : CI h N) (hS : S < 2 ^ N 0) (ha : a < N 0) (w : S = 2 ^ N 0 - 1) : zsem (vL_count mc Sc) rL_count 6 [.ref 0, .int (nI S), .int (nI a)] h = some (.inl (some (.long (lN (nTT N S a)))), h) := by
  have q0 := c.1.1
  have hW := c.2.2.1.1
  have n11 := hW.1
  have p0 := w_p0 c
  have p3 := w_p3 c
  have n3 := c.2.2.1.2.2.2.1
  have pw := pow_le n11
  have e2 : ((1 : Int32) <<< (nI (N 0) &&& 31)) - (1 : Int32) = nI (2 ^ N 0 - 1) := by
    rw [nx_shl1 (by omega)]
    exact nI_sb (b := 1) (Nat.one_le_two_pow)
  have eS := nI_is (a := S) (b := 2 ^ N 0 - 1) (by omega) (by omega)
  refine zsem_eq (Nat.le_of_ble_eq_true rfl) (zTo_of gL_count_0 ?_)
  have t : (S = 2 ^ N 0 - 1) = True := eq_true w
  have r : nTT N S a = if nme N a then 1 else 0 := by rw [w]; exact nTT_full hW a
  have l1 : lN 1 = (1 : Int64) := by decide +kernel
  have l00 : lN 0 = (0 : Int64) := by decide +kernel
  by_cases w3 : N 3 = 0
  · rw [w3, eI_0] at p3
    have l0 : ((-1 : Int32) < 0) = True := eq_true (by decide)
    have m : nme N a = true := by unfold nme; simp [w3]
    rw [r, if_pos m, l1]
    simp only [q0, p0, e2, eS, t, p3, l0, zmp_s, zlt_s, zcV_s, zcI_s, zcJ_s, zcA_s, zcD_s, zcF_s, zth_n, zth_t, zrt_s, zQ_l, zQ_r, false_or, or_false, true_or, or_true, false_and, and_false, not_false_eq_true, not_true_eq_false, and_self, true_and, and_true, if_true, if_false, ite_true, ite_false, zgd_t]
  · obtain ⟨e, he⟩ : ∃ e, N 3 = e + 1 := ⟨N 3 - 1, by omega⟩
    rw [he, eI_s] at p3
    have l0 : (nI e < 0) = False := nI_lt0 (by omega)
    have ee : (nI e = nI a) = (e = a) := nI_is (by omega) (by omega)
    by_cases w4 : e = a
    · have t4 : (e = a) = True := eq_true w4
      have m : nme N a = true := by unfold nme; simp [he, w4]
      rw [r, if_pos m, l1]
      simp only [q0, p0, e2, eS, t, p3, l0, ee, t4, zmp_s, zlt_s, zcV_s, zcI_s, zcJ_s, zcA_s, zcD_s, zcF_s, zth_n, zth_t, zrt_s, zQ_l, zQ_r, false_or, or_false, true_or, or_true, false_and, and_false, not_false_eq_true, not_true_eq_false, and_self, true_and, and_true, if_true, if_false, ite_true, ite_false, zgd_t]
    · have t4 : (e = a) = False := eq_false w4
      have m : ¬ nme N a = true := by unfold nme; simp [he]; omega
      rw [r, if_neg m, l00]
      simp only [q0, p0, e2, eS, t, p3, l0, ee, t4, zmp_s, zlt_s, zcV_s, zcI_s, zcJ_s, zcA_s, zcD_s, zcF_s, zth_n, zth_t, zrt_s, zQ_l, zQ_r, false_or, or_false, true_or, or_true, false_and, and_false, not_false_eq_true, not_true_eq_false, and_self, true_and, and_true, if_true, if_false, ite_true, ite_false, zgd_t]
theorem w_cL {mc : zm_M} {Sc : zm_S} {S a : Nat} (c : CI h N) (hS : S < 2 ^ N 0) (ha : a < N 0) (w : ¬ S = 2 ^ N 0 - 1) (ih : ∀ k, k < N 0 → S.testBit k = false → Sc [.ref 0, .int (nI (S ||| 2 ^ k)), .int (nI k)] h = some (.inl (some (.long (lN (nTT N (S ||| 2 ^ k) k)))), h)) : zsem (vL_count mc Sc) rL_count 6 [.ref 0, .int (nI S), .int (nI a)] h = some (.inl (some (.long (lN (nTT N S a)))), h) := by
  have q0 := c.1.1
  have hW := c.2.2.1.1
  have n11 := hW.1
  have p0 := w_p0 c
  have p3 := w_p3 c
  have n3 := c.2.2.1.2.2.2.1
  have pw := pow_le n11
  have e2 : ((1 : Int32) <<< (nI (N 0) &&& 31)) - (1 : Int32) = nI (2 ^ N 0 - 1) := by
    rw [nx_shl1 (by omega)]
    exact nI_sb (b := 1) (Nat.one_le_two_pow)
  have eS := nI_is (a := S) (b := 2 ^ N 0 - 1) (by omega) (by omega)
  refine zsem_eq (Nat.le_of_ble_eq_true rfl) (zTo_of gL_count_0 ?_)
  have t : (S = 2 ^ N 0 - 1) = False := eq_false w
  simp only [q0, p0, e2, eS, t, zmp_s, zlt_s, zcV_s, zcI_s, zcJ_s, zcA_s, zcD_s, zcF_s, zth_n, zth_t, zrt_s, zQ_l, zQ_r, false_or, or_false, true_or, or_true, false_and, and_false, not_false_eq_true, not_true_eq_false, and_self, true_and, and_true, if_true, if_false, ite_true, ite_false, zgd_t]
  refine zTo_for (f := fun k => (26, [some (.ref 0), some (.int (nI S)), some (.int (nI a)), some (.long (lN (zsu (ncn N S a) k))), none, some (.int (nI k))], [], h)) (N 0) 0 (Nat.zero_le _) (fun k _ hk => ?_) (zTo_of gL_count_26 ?_)
  · rw [gL_count_26]
    obtain ⟨f1, -, -, f4⟩ := nI_for hk (show N 0 < 2 ^ 31 by omega)
    rw [zsu_s]
    cases e : S.testBit k with
    | true =>
      have z : ncn N S a k = 0 := by unfold ncn nnx; rw [e]; simp
      rw [z]
      simp only [q0, p0, f1, w_has (show S < 2 ^ 31 by omega) (show k < 32 by omega), e, zb_0, f4, Nat.add_zero, zmp_s, zlt_s, zcV_s, zcI_s, zcJ_s, zcA_s, zcD_s, zcF_s, zth_n, zth_t, zrt_s, zQ_l, zQ_r, false_or, or_false, true_or, or_true, false_and, and_false, not_false_eq_true, not_true_eq_false, and_self, true_and, and_true, if_true, if_false, ite_true, ite_false, zgd_t]; rfl
    | false =>
      have ld := w_leads c (show S < 2 ^ 31 by omega) ha hk
      cases e3 : (nld N S a).testBit k with
      | false =>
        have z : ncn N S a k = 0 := by unfold ncn nnx; rw [e3]; simp
        rw [z]
        simp only [q0, p0, f1, w_has (show S < 2 ^ 31 by omega) (show k < 32 by omega), e, zb_0, ld, e3, f4, Nat.add_zero, zmp_s, zlt_s, zcV_s, zcI_s, zcJ_s, zcA_s, zcD_s, zcF_s, zth_n, zth_t, zrt_s, zQ_l, zQ_r, false_or, or_false, true_or, or_true, false_and, and_false, not_false_eq_true, not_true_eq_false, and_self, true_and, and_true, if_true, if_false, ite_true, ite_false, zgd_t]
        try rfl
      | true =>
        have z : ncn N S a k = nTT N (S ||| 2 ^ k) k := by unfold ncn nnx; rw [e, e3]; simp
        have cc := ih k hk e
        have sh : nI S ||| ((1 : Int32) <<< (nI k &&& 31)) = nI (S ||| 2 ^ k) := by rw [nx_shl1 (by omega), nx_or]
        have tf : ((true : Bool) = false) = False := eq_false (by decide)
        rw [z]
        simp only [q0, p0, f1, w_has (show S < 2 ^ 31 by omega) (show k < 32 by omega), e, zb_0, ld, e3, tf, sh, cc, lN_add, f4, zmp_s, zlt_s, zcV_s, zcI_s, zcJ_s, zcA_s, zcD_s, zcF_s, zth_n, zth_t, zrt_s, zQ_l, zQ_r, false_or, or_false, true_or, or_true, false_and, and_false, not_false_eq_true, not_true_eq_false, and_self, true_and, and_true, if_true, if_false, ite_true, ite_false, zgd_t]
  · have r : nTT N S a = zsu (ncn N S a) (N 0) := by
      rw [nTT_eq hW hS]
      unfold nba
      rw [if_neg (fun q => w q.1), Nat.zero_add]
    simp only [q0, p0, nI_le (Nat.le_refl (N 0)) (show N 0 < 2 ^ 31 by omega), r, zmp_s, zlt_s, zcV_s, zcI_s, zcJ_s, zcA_s, zcD_s, zcF_s, zth_n, zth_t, zrt_s, zQ_l, zQ_r, false_or, or_false, true_or, or_true, false_and, and_false, not_false_eq_true, not_true_eq_false, and_self, true_and, and_true, if_true, if_false, ite_true, ite_false, zgd_t]
theorem w_count : ∀ (d : Nat) {S a : Nat}, CI h N → S < 2 ^ N 0 → a < N 0 → N 0 + 1 ≤ npc S (N 0) + d → sL_count d [.ref 0, .int (nI S), .int (nI a)] h = some (.inl (some (.long (lN (nTT N S a)))), h) := by
  intro d
  induction d with
  | zero => intro S a c hS ha hd; have := npc_le S (N 0); omega
  | succ d ih =>
    intro S a c hS ha hd
    rw [sL_count]
    by_cases w : S = 2 ^ N 0 - 1
    · exact w_cF c hS ha w
    · exact w_cL c hS ha w (fun k hk e => ih (S := S ||| 2 ^ k) (a := k) c (or_lt2 hS hk) hk (by rw [npc_or _ hk e]; omega))
theorem w_c6 {S a : Nat} (c : CI h N) (h6 : N 0 ≤ 6) (hS : S < 2 ^ N 0) (ha : a < N 0) (h1 : S.testBit a = true) : sL_c6 [.ref 0, .int (nI S), .int (nI a)] h = some (.inl (some (.long (lN (nTT N S a)))), h) := by
  rw [sL_c6_eq]
  refine w_count 6 c hS ha ?_
  have : 0 < npc S (N 0) := zsu_pos ha (by rw [if_pos h1]; omega)
  omega
end
end ZLQ2
