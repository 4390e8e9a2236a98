/-! THE LAW: a round, and the end (written by wip/whole/cases.py). -/
section ZLP
variable {scr : Nat × (Nat → Int32)} {h : zm_H} {i : Nat} {N : zLv} {P : List zLv} {K : Nat → Option zLv} {xs ys : List Int32}
theorem kL_all (H : LI h N P K xs ys) (hz : zN h < 800000) (hi : i + 6 ≤ scr.1) (hs : scr.1 ≤ 3072) : ∀ k, k < 64 → LG scr h i (nI k) := fun k hk => match k, hk with
  | 0, _ => kL_0 H hi hs
  | 1, _ => kL_1 H hi hs
  | 2, _ => kL_2 H (by omega)
  | 3, _ => kL_3 H hi hs
  | 4, _ => kL_4 H hi hs
  | 5, _ => kL_5 H hi hs
  | 6, _ => kL_6 H hi hs
  | 7, _ => kL_7 H hi hs
  | 8, _ => kL_8 H hi hs
  | 9, _ => kL_9 H hi hs
  | 10, _ => kL_10 H hi hs
  | 11, _ => kL_11 H hi hs
  | 12, _ => kL_12 H hi hs
  | 13, _ => kL_13 H hi hs
  | 14, _ => kL_14 H hi hs
  | 15, _ => kL_15 H hi hs
  | 16, _ => kL_16 H hi hs
  | 17, _ => kL_17 H hi hs
  | 18, _ => kL_18 H hi hs
  | 19, _ => kL_19 H hi hs
  | 20, _ => kL_20 H hi hs
  | 21, _ => kL_21 H hi hs
  | 22, _ => kL_22 H hi hs
  | 23, _ => kL_23 H hi hs
  | 24, _ => kL_24 H hi hs
  | 25, _ => kL_25 H hi hs
  | 26, _ => kL_26 H hi hs
  | 27, _ => kL_27 H hi hs
  | 28, _ => kL_28 H hi hs
  | 29, _ => kL_29 H hi hs
  | 30, _ => kL_30 H hi hs
  | 31, _ => kL_31 H hi hs
  | 32, _ => kL_32 H hi hs
  | 33, _ => kL_33 H hi hs
  | 34, _ => kL_34 H hi hs
  | 35, _ => kL_35 H hi hs
  | 36, _ => kL_36 H hi hs
  | 37, _ => kL_37 H hi hs
  | 38, _ => kL_38 H hi hs
  | 39, _ => kL_39 H hi hs
  | 40, _ => kL_40 H hi hs
  | 41, _ => kL_41 H hi hs
  | 42, _ => kL_42 H hi hs
  | 43, _ => kL_43 H hi hs
  | 44, _ => kL_44 H hi hs
  | 45, _ => kL_45 H hi hs
  | 46, _ => kL_46 H hi hs
  | 47, _ => kL_47 H hi hs
  | 48, _ => kL_48 H hi hs
  | 49, _ => kL_49 H hi hs
  | 50, _ => kL_50 H hi hs
  | 51, _ => kL_51 H hi hs
  | 52, _ => kL_52 H hi hs
  | 53, _ => kL_53 H hi hs
  | 54, _ => kL_54 H hi hs
  | 55, _ => kL_55 H hi hs
  | 56, _ => kL_56 H hi hs
  | 57, _ => kL_57 H hi hs
  | 58, _ => kL_58 H hi hs
  | 59, _ => kL_59 H hi hs
  | 60, _ => kL_d H (by decide +kernel)
  | 61, _ => kL_d H (by decide +kernel)
  | 62, _ => kL_d H (by decide +kernel)
  | 63, _ => kL_d H (by decide +kernel)
  | k + 64, hk => absurd hk (by omega)
theorem lw_lt {n : Nat} (hn : n ≤ 3072) (hi : i ≤ 3072) : (nI n - (6 : Int32) < nI i) = ¬ (i + 6 ≤ n) := by
  apply propext
  by_cases w : 6 ≤ n
  · have e : nI n - (6 : Int32) = nI (n - 6) := pk_sub (b := 6) w
    rw [e, nI_ltI (by omega) (by omega)]
    omega
  · have z : ∀ n, n < 6 → nI n - (6 : Int32) < 0 := by decide +kernel
    have a := Int32.lt_iff_toInt_lt.mp (z n (by omega))
    have b : (nI i).toInt = (i : Int) := nI_toInt (by omega)
    have c : (0 : Int32).toInt = 0 := by decide
    constructor
    · intro _; omega
    · intro _
      rw [Int32.lt_iff_toInt_lt]
      omega
theorem kL_end (hs : scr.1 ≤ 3072) (hi3 : i ≤ 3072) (hi : ¬ i + 6 ≤ scr.1) : zE vL_law scr rL_law (16, lo5 i, [], h) = some (.inr (.inl (some (.int 1)), h)) := by
  refine Eq.trans gL_law_16 ?_
  simp only [lw_lt hs hi3, hi, zmp_s, zlt_s, zcV_s, zcI_s, zcJ_s, zcA_s, zcD_s, zcF_s, zth_n, zth_t, zrt_s, zQ_l, zQ_r, false_or, or_false, true_or, or_true, false_and, and_false, not_false_eq_true, not_true_eq_false, and_self, true_and, and_true, if_true, if_false, ite_true, ite_false, zgd_t]
theorem kL_round (H : LI h N P K xs ys) (hz : zN h < 800000) (hi : i + 6 ≤ scr.1) (hs : scr.1 ≤ 3072) : ∃ x, zE vL_law scr rL_law (16, lo5 i, [], h) = some (.inl (27, lo5 i, [.int x], h)) ∧ LG scr h i x := by
  obtain ⟨k, hk, e⟩ := pk_andE (scr.2 i) (m := 63) 6 rfl
  refine ⟨nI k, ?_, kL_all H hz hi hs k hk⟩
  refine Eq.trans gL_law_16 ?_
  have l0 : (nI i < 0) = False := nI_lt0 (by omega)
  simp only [lw_lt hs (show i ≤ 3072 by omega), hi, l0, nI_clamp (show i < 2 ^ 31 by omega), show ¬ scr.1 ≤ i by omega, e, zmp_s, zlt_s, zcV_s, zcI_s, zcJ_s, zcA_s, zcD_s, zcF_s, zth_n, zth_t, zrt_s, zQ_l, zQ_r, false_or, or_false, true_or, or_true, false_and, and_false, not_false_eq_true, not_true_eq_false, and_self, true_and, and_true, if_true, if_false, ite_true, ite_false, zgd_t]
  rfl
theorem kL_start {h0 : zm_H} (hN : zN h0 = 0) : ∃ h, zE vL_law scr rL_law (0, [some (.ref 2000000), none, none, none, none, none, none, none, none, none], [], h0) = some (.inl (16, lo5 0, [], h)) ∧ LI h N11 [] (fun _ => none) [] [] ∧ zN h = 141 := by
  obtain ⟨g1, g2, s1, n1, s2, n2, L⟩ := k_start hN
  refine ⟨_, ?_, L, ?_⟩
  · refine Eq.trans gL_law_0 ?_
    have w1 : ((1 : Int32) < 0) = False := eq_false (by decide)
    have i1 : (1 : Int32).toNatClampNeg = 1 := by decide +kernel
    simp only [hN, s1, n1, s2, n2, nw_N, show 0 < 900000 by omega, show 125 < 900000 by omega, show 139 < 900000 by omega, show 139 + 1 < 900000 by omega, w1, i1, Nat.le_refl, zmp_s, zlt_s, zcV_s, zcI_s, zcJ_s, zcA_s, zcD_s, zcF_s, zth_n, zth_t, zrt_s, zQ_l, zQ_r, false_or, or_false, true_or, or_true, false_and, and_false, not_false_eq_true, not_true_eq_false, and_self, true_and, and_true, if_true, if_false, ite_true, ite_false, zgd_t]
    rfl
  · show zN g2 + 1 + 1 = 141
    omega
end ZLP
