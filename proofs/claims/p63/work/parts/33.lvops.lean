/-! A LEVEL OF THE CLASS: its methods. -/
section ZLO
theorem zQ_gd {env : List (zm_M × zm_S)} {rows : List zm_R} {R : zm_O → Prop} {c : Prop} {i : Decidable c} {k : Option (zm_T ⊕ zm_O)} (h : c) (q : zQ env rows R k) : zQ env rows R (@zgd _ c i k) := by
  rw [zgd, if_pos h]; exact q
theorem c_0 : (0 : Int32).toNatClampNeg = 0 := by decide +kernel
theorem c_11 : (11 : Int32).toNatClampNeg = 11 := by decide +kernel
theorem c_20 : (20 : Int32).toNatClampNeg = 20 := by decide +kernel
theorem c_10 : (10 : Int32).toNatClampNeg = 10 := by decide +kernel
theorem c_19 : (19 : Int32).toNatClampNeg = 19 := by decide +kernel
theorem p_0 : ((0 : Int32) < 0) = False := by decide +kernel
theorem p_11 : ((11 : Int32) < 0) = False := by decide +kernel
theorem p_20 : ((20 : Int32) < 0) = False := by decide +kernel
theorem sI_rI {h : zm_H} {a i : Nat} {x : Int32} : zsI h a i x = zrI h a (zput (zI h a) i x) := rfl
theorem rI_rI {h : zm_H} {a : Nat} {f g : Nat → Int32} : zrI (zrI h a f) a g = zrI h a g := by
  have e : zrow (zrow (zI h) a f) a g = zrow (zI h) a g := by
    funext b; unfold zrow; split <;> rfl
  show (h.1, h.2.1, zrow (zrow (zI h) a f) a g, h.2.2.2) = (h.1, h.2.1, zrow (zI h) a g, h.2.2.2)
  rw [e]
theorem rI_id {h : zm_H} {a : Nat} : zrI h a (zI h a) = h := by
  have e : zrow (zI h) a (zI h a) = zI h := by
    funext b; unfold zrow; split
    · rename_i q; rw [q]
    · rfl
  show (h.1, h.2.1, zrow (zI h) a (zI h a), h.2.2.2) = h
  rw [e]; rfl
theorem q_fill {h : zm_H} {q n : Nat} {v : Int32} (hk : zK h q = (0, n)) (hn : n < 2 ^ 31) : sJ7_fill_53178 [.ref q, .int v] h = some (.inl none, zrI h q (fun i => if i < n then v else zI h q i)) := by
  refine zsem_eq (Nat.le_of_ble_eq_true rfl) (zTo_of gJ7_fill_53178_0 ?_)
  simp only [hk, zmp_s, zlt_s, zcV_s, zcI_s, zcJ_s, zcA_s, zcD_s, zcF_s, zth_n, zth_t, zrt_s, zQ_l, zQ_r, false_or, or_false, not_false_eq_true, not_true_eq_false, and_self, true_and, and_true, if_true, if_false, ite_true, ite_false, zgd_t]
  have z := zTo_for (env := vJ7_fill_53178) (rows := rJ7_fill_53178) (R := fun y => y = (.inl none, zrI h q (fun i => if i < n then v else zI h q i))) (f := fun r => (5, [some (.ref q), some (.int v), some (.int (nI r)), some (.int (nI n))], [], zrI h q (fun i => if i < r then v else zI h q i))) n 0 (Nat.zero_le _) (fun r _ hr => by
    obtain ⟨f1, f2, f3, f4⟩ := nI_for hr hn
    have f5 : ¬ n ≤ r := by omega
    simp only [gJ7_fill_53178_5, f1, f2, f3, f4, f5, hk, zmp_s, zlt_s, zcV_s, zcI_s, zcJ_s, zcA_s, zcD_s, zcF_s, zth_n, zth_t, zrt_s, zQ_l, zQ_r, false_or, or_false, not_false_eq_true, not_true_eq_false, and_self, true_and, and_true, if_true, if_false, ite_true, ite_false, K_sI, K_sJ, K_sD, K_sP, K_rI, K_rJ, P_sI, P_sJ, P_sD, P_rI, P_rJ, N_sI, N_sJ, N_sD, N_sP, N_rI, N_rJ, J_sI, J_sD, J_sP, J_rI, I_sJ, I_sD, I_sP, I_rJ, D_sI, D_sJ, D_sP, D_rI, D_rJ, zgd_t]
    congr 6
    rw [sI_rI, rI_rI, I_rIs]
    congr 1
    funext i
    unfold zput
    by_cases e : i = r
    · subst e; simp
    · have : (i < r + 1) = (i < r) := propext ⟨fun q => by omega, fun q => by omega⟩
      simp [e, this]) (zTo_of gJ7_fill_53178_5 (by simp only [nI_le (Nat.le_refl _) hn, zmp_s, zlt_s, zcV_s, zcI_s, zcJ_s, zcA_s, zcD_s, zcF_s, zth_n, zth_t, zrt_s, zQ_l, zQ_r, false_or, or_false, not_false_eq_true, not_true_eq_false, and_self, true_and, and_true, if_true, if_false, ite_true, ite_false]))
  have e : zrI h q (fun i => if i < 0 then v else zI h q i) = h := by
    have : (fun i => if i < 0 then v else zI h q i) = zI h q := by funext i; simp
    rw [this, rI_id]
  rw [e] at z
  exact z
/-- part of a copy is done: rows 1 .. k, fields below m -/
def cpn (i : Nat) : Nat := if 4 ≤ i ∧ i ≤ 8 then 20 else 11
def cpf (j : Nat) : Bool := decide (j = 0) || decide (j = 4) || decide (j = 10) || decide (j = 11) || decide (j = 13)
def CP (h : zm_H) (a b k m : Nat) (g : zm_H) : Prop := zFr (lvA a) h g ∧ (1 ≤ k → ∀ r, r < 11 → zJ g (a + 1) r = zJ h (b + 1) r) ∧ (∀ i, 2 ≤ i → i ≤ k → ∀ r, r < cpn i → zI g (a + i) r = zI h (b + i) r) ∧ (∀ j, j < m → cpf j = true → zI g a j = zI h b j)
theorem cp_src {h g : zm_H} {a b k m : Nat} (c : CP h a b k m g) (hab : a + 10 < b ∨ b + 10 < a) (i : Nat) (hi : i ≤ 10) : zI g (b + i) = zI h (b + i) ∧ zJ g (b + i) = zJ h (b + i) := ⟨c.1.I (fun q => by unfold lvA at q; omega), c.1.J (fun q => by unfold lvA at q; omega)⟩
theorem cp_row {h g : zm_H} {a b k m : Nat} (c : CP h a b k m g) (hab : a + 10 < b ∨ b + 10 < a) (n : Nat) (hk : 1 ≤ k) (hi : k ≤ 8) (hn : n = cpn (k + 1)) : CP h a b (k + 1) m (zrI g (a + (k + 1)) (va_cpy (zI g (b + (k + 1))) (zI g (a + (k + 1))) 0 0 n)) := by
  refine ⟨c.1.tr (zFr.rI ⟨by omega, by omega⟩), fun h1 r hr => c.2.1 (by omega) r hr, fun i h2 hik r hr => ?_, fun j hj hf => ?_⟩
  · by_cases e : i = k + 1
    · subst e
      rw [I_rIs, sb_cpy0 (by rw [hn]; exact hr), (cp_src c hab (k + 1) (by omega)).1]
    · rw [I_rIn (by omega)]; exact c.2.2.1 i h2 (by omega) r hr
  · rw [I_rIn (by omega)]; exact c.2.2.2 j hj hf
theorem cp_rowJ {h g : zm_H} {a b m : Nat} (c : CP h a b 0 m g) (hab : a + 10 < b ∨ b + 10 < a) : CP h a b 1 m (zrJ g (a + 1) (va_cpy (zJ g (b + 1)) (zJ g (a + 1)) 0 0 11)) := by
  refine ⟨c.1.tr (zFr.rJ ⟨by omega, by omega⟩), fun h1 r hr => ?_, fun i h2 hik => by omega, fun j hj hf => c.2.2.2 j hj hf⟩
  rw [J_rJs, pk_cpy_in (Nat.zero_le _) (by omega), Nat.zero_add, Nat.sub_zero, (cp_src c hab 1 (by omega)).2]
theorem cp_sc {h g : zm_H} {a b k m : Nat} (c : CP h a b k m g) (hab : a + 10 < b ∨ b + 10 < a) (j : Nat) (hmj : m ≤ j) (hm : ∀ i, i < j → m ≤ i → cpf i = false) : CP h a b k (j + 1) (zsI g a j (zI g b j)) := by
  refine ⟨c.1.tr (zFr.sI ⟨by omega, by omega⟩), fun h1 r hr => c.2.1 h1 r hr, fun i h2 hik r hr => ?_, fun i hi hf => ?_⟩
  · rw [I_sIn (by omega)]; exact c.2.2.1 i h2 hik r hr
  · rw [I_sIs]
    by_cases e : i = j
    · subst e
      have := (cp_src c hab 0 (by omega)).1
      rw [Nat.add_zero] at this
      rw [zput_self, this]
    · rw [zput_ne _ _ e]
      by_cases q : i < m
      · exact c.2.2.2 i q hf
      · rw [hm i (by omega) (by omega)] at hf; cases hf
theorem q_copyFrom {h : zm_H} {a b : Nat} {N : zLv} (hS1 : lvS h a) (hS : lvS h b) (hab : a + 10 < b ∨ b + 10 < a) (hL : KL h b N) (hN : N 0 ≤ 11 ∧ N 1 ≤ 20 ∧ N 4 ≤ 11) (ho : lvO h b) :
    ∃ g, sX2_copyFrom [.ref a, .ref b] h = some (.inl none, g) ∧ zFr (lvA a) h g ∧ KL g a N ∧ lvO g a := by
  obtain ⟨l0, l1, l2, l3, l4, ln, lk, lc, lf, lt, ld, lb, lo, lw⟩ := hL
  obtain ⟨a0, a1, a2, a3, a5, a6, a7, a8, a9, a12, a14, b1, b2, b3, b4, b5, b6, b7, b8, b9, b10⟩ := hS1
  obtain ⟨k0, p1, p2, p3, p5, p6, p7, p8, p9, p12, p14, k1, k2, k3, k4, k5, k6, k7, k8, k9, k10⟩ := hS
  obtain ⟨R, hR⟩ : ∃ R : zm_O → Prop, R = (fun o => ∃ g, o = (.inl none, g) ∧ zFr (lvA a) h g ∧ KL g a N ∧ lvO g a) := ⟨_, rfl⟩
  have fin : ∀ g, CP h a b 9 14 g → R (.inl none, g) := by
    intro g c
    rw [hR]
    refine ⟨g, rfl, c.1, ⟨(c.2.2.2 0 (by omega) rfl).trans l0, (c.2.2.2 4 (by omega) rfl).trans l1, (c.2.2.2 10 (by omega) rfl).trans l2, (c.2.2.2 11 (by omega) rfl).trans l3, (c.2.2.2 13 (by omega) rfl).trans l4,
      fun r hr => (c.2.1 (by omega) r (by omega)).trans (ln r hr), fun r hr => (c.2.2.1 2 (by omega) (by omega) r (Nat.lt_of_lt_of_le hr hN.1)).trans (lk r hr), fun r hr => (c.2.2.1 3 (by omega) (by omega) r (Nat.lt_of_lt_of_le hr hN.1)).trans (lc r hr),
      fun r hr => (c.2.2.1 4 (by omega) (by omega) r (Nat.lt_of_lt_of_le hr hN.2.1)).trans (lf r hr), fun r hr => (c.2.2.1 5 (by omega) (by omega) r (Nat.lt_of_lt_of_le hr hN.2.1)).trans (lt r hr), fun r hr => (c.2.2.1 6 (by omega) (by omega) r (Nat.lt_of_lt_of_le hr hN.2.1)).trans (ld r hr),
      fun r hr => (c.2.2.1 7 (by omega) (by omega) r (Nat.lt_of_lt_of_le hr hN.2.1)).trans (lb r hr), fun r hr => (c.2.2.1 8 (by omega) (by omega) r (Nat.lt_of_lt_of_le hr hN.2.1)).trans (lo r hr), fun r hr => (c.2.2.1 9 (by omega) (by omega) r (Nat.lt_of_lt_of_le hr hN.2.2)).trans (lw r hr)⟩, fun i hi => ?_⟩
    rw [c.2.2.1 8 (by omega) (by omega) i hi]
    exact ho i hi
  have s88 : ∀ g, CP h a b 9 12 g → zTo vX2_copyFrom rX2_copyFrom (88, [some (.ref a), some (.ref b)], [], g) R := by
    intro g c
    have K := c.1.K
    have P := c.1.P
    refine zTo_of gX2_copyFrom_88 ?_
    simp only [K, P, a0, k0, c_0, c_11, c_20, p_0, p_11, p_20, zmp_s, zlt_s, zcV_s, zcI_s, zcJ_s, zcA_s, zcD_s, zcF_s, zth_n, zth_t, zrt_s, zQ_l, zQ_r, false_or, or_false, not_false_eq_true, not_true_eq_false, and_self, true_and, and_true, if_true, if_false, ite_true, ite_false, K_sI, K_sJ, K_sD, K_sP, K_rI, K_rJ, P_sI, P_sJ, P_sD, P_rI, P_rJ, N_sI, N_sJ, N_sD, N_sP, N_rI, N_rJ, J_sI, J_sD, J_sP, J_rI, I_sJ, I_sD, I_sP, I_rJ, D_sI, D_sJ, D_sP, D_rI, D_rJ, zgd_t, Nat.zero_add, Nat.le_refl]
    exact fin _ (cp_sc c hab 13 (by omega) (by decide))
  have s72 : ∀ g, CP h a b 8 5 g → zTo vX2_copyFrom rX2_copyFrom (72, [some (.ref a), some (.ref b)], [], g) R := by
    intro g c
    have K := c.1.K
    have P := c.1.P
    refine zTo_of gX2_copyFrom_72 ?_
    simp only [K, P, a0, a12, b9, k0, k9, p12, c_0, c_11, c_20, p_0, p_11, p_20, zmp_s, zlt_s, zcV_s, zcI_s, zcJ_s, zcA_s, zcD_s, zcF_s, zth_n, zth_t, zrt_s, zQ_l, zQ_r, false_or, or_false, not_false_eq_true, not_true_eq_false, and_self, true_and, and_true, if_true, if_false, ite_true, ite_false, K_sI, K_sJ, K_sD, K_sP, K_rI, K_rJ, P_sI, P_sJ, P_sD, P_rI, P_rJ, N_sI, N_sJ, N_sD, N_sP, N_rI, N_rJ, J_sI, J_sD, J_sP, J_rI, I_sJ, I_sD, I_sP, I_rJ, D_sI, D_sJ, D_sP, D_rI, D_rJ, zgd_t, Nat.zero_add, Nat.le_refl]
    exact s88 _ (cp_row (cp_sc (cp_sc c hab 10 (by omega) (by decide)) hab 11 (by omega) (by decide)) hab 11 (by omega) (by omega) rfl)
  have s64 : ∀ g, CP h a b 7 5 g → zTo vX2_copyFrom rX2_copyFrom (64, [some (.ref a), some (.ref b)], [], g) R := by
    intro g c
    have K := c.1.K
    have P := c.1.P
    refine zTo_of gX2_copyFrom_64 ?_
    simp only [K, P, a0, a9, k0, p9, zmp_s, zlt_s, zcV_s, zcI_s, zcJ_s, zcA_s, zcD_s, zcF_s, zth_n, zth_t, zrt_s, zQ_l, zQ_r, K_sI, K_sJ, K_sD, K_sP, K_rI, K_rJ, P_sI, P_sJ, P_sD, P_rI, P_rJ, N_sI, N_sJ, N_sD, N_sP, N_rI, N_rJ, J_sI, J_sD, J_sP, J_rI, I_sJ, I_sD, I_sP, I_rJ, D_sI, D_sJ, D_sP, D_rI, D_rJ, zgd_t]
    refine zQ_gd ⟨by simp only [k8, b8, c_0, c_20, p_0, p_20, false_or, or_false, not_false_eq_true, not_true_eq_false, and_self, true_and, and_true, if_true, if_false, ite_true, ite_false, Nat.zero_add, Nat.le_refl], fun i hi => ?_⟩ ?_
    · rw [c_20] at hi
      rw [c_0, Nat.zero_add, (cp_src c hab 8 (by omega)).1]
      exact ho i hi
    simp only [c_0, c_20, zmp_s, zlt_s, zcV_s, zcI_s, zcJ_s, zcA_s, zcD_s, zcF_s, zth_n, zth_t, zrt_s, zQ_l, zQ_r]
    exact s72 _ (cp_row c hab 20 (by omega) (by omega) rfl)
  have s56 : ∀ g, CP h a b 6 5 g → zTo vX2_copyFrom rX2_copyFrom (56, [some (.ref a), some (.ref b)], [], g) R := by
    intro g c
    have K := c.1.K
    have P := c.1.P
    refine zTo_of gX2_copyFrom_56 ?_
    simp only [K, P, a0, a8, b7, k0, k7, p8, c_0, c_11, c_20, p_0, p_11, p_20, zmp_s, zlt_s, zcV_s, zcI_s, zcJ_s, zcA_s, zcD_s, zcF_s, zth_n, zth_t, zrt_s, zQ_l, zQ_r, false_or, or_false, not_false_eq_true, not_true_eq_false, and_self, true_and, and_true, if_true, if_false, ite_true, ite_false, K_sI, K_sJ, K_sD, K_sP, K_rI, K_rJ, P_sI, P_sJ, P_sD, P_rI, P_rJ, N_sI, N_sJ, N_sD, N_sP, N_rI, N_rJ, J_sI, J_sD, J_sP, J_rI, I_sJ, I_sD, I_sP, I_rJ, D_sI, D_sJ, D_sP, D_rI, D_rJ, zgd_t, Nat.zero_add, Nat.le_refl]
    exact s64 _ (cp_row c hab 20 (by omega) (by omega) rfl)
  have s48 : ∀ g, CP h a b 5 5 g → zTo vX2_copyFrom rX2_copyFrom (48, [some (.ref a), some (.ref b)], [], g) R := by
    intro g c
    have K := c.1.K
    have P := c.1.P
    refine zTo_of gX2_copyFrom_48 ?_
    simp only [K, P, a0, a7, b6, k0, k6, p7, c_0, c_11, c_20, p_0, p_11, p_20, zmp_s, zlt_s, zcV_s, zcI_s, zcJ_s, zcA_s, zcD_s, zcF_s, zth_n, zth_t, zrt_s, zQ_l, zQ_r, false_or, or_false, not_false_eq_true, not_true_eq_false, and_self, true_and, and_true, if_true, if_false, ite_true, ite_false, K_sI, K_sJ, K_sD, K_sP, K_rI, K_rJ, P_sI, P_sJ, P_sD, P_rI, P_rJ, N_sI, N_sJ, N_sD, N_sP, N_rI, N_rJ, J_sI, J_sD, J_sP, J_rI, I_sJ, I_sD, I_sP, I_rJ, D_sI, D_sJ, D_sP, D_rI, D_rJ, zgd_t, Nat.zero_add, Nat.le_refl]
    exact s56 _ (cp_row c hab 20 (by omega) (by omega) rfl)
  have s40 : ∀ g, CP h a b 4 5 g → zTo vX2_copyFrom rX2_copyFrom (40, [some (.ref a), some (.ref b)], [], g) R := by
    intro g c
    have K := c.1.K
    have P := c.1.P
    refine zTo_of gX2_copyFrom_40 ?_
    simp only [K, P, a0, a6, b5, k0, k5, p6, c_0, c_11, c_20, p_0, p_11, p_20, zmp_s, zlt_s, zcV_s, zcI_s, zcJ_s, zcA_s, zcD_s, zcF_s, zth_n, zth_t, zrt_s, zQ_l, zQ_r, false_or, or_false, not_false_eq_true, not_true_eq_false, and_self, true_and, and_true, if_true, if_false, ite_true, ite_false, K_sI, K_sJ, K_sD, K_sP, K_rI, K_rJ, P_sI, P_sJ, P_sD, P_rI, P_rJ, N_sI, N_sJ, N_sD, N_sP, N_rI, N_rJ, J_sI, J_sD, J_sP, J_rI, I_sJ, I_sD, I_sP, I_rJ, D_sI, D_sJ, D_sP, D_rI, D_rJ, zgd_t, Nat.zero_add, Nat.le_refl]
    exact s48 _ (cp_row c hab 20 (by omega) (by omega) rfl)
  have s28 : ∀ g, CP h a b 3 1 g → zTo vX2_copyFrom rX2_copyFrom (28, [some (.ref a), some (.ref b)], [], g) R := by
    intro g c
    have K := c.1.K
    have P := c.1.P
    refine zTo_of gX2_copyFrom_28 ?_
    simp only [K, P, a0, a5, b4, k0, k4, p5, c_0, c_11, c_20, p_0, p_11, p_20, zmp_s, zlt_s, zcV_s, zcI_s, zcJ_s, zcA_s, zcD_s, zcF_s, zth_n, zth_t, zrt_s, zQ_l, zQ_r, false_or, or_false, not_false_eq_true, not_true_eq_false, and_self, true_and, and_true, if_true, if_false, ite_true, ite_false, K_sI, K_sJ, K_sD, K_sP, K_rI, K_rJ, P_sI, P_sJ, P_sD, P_rI, P_rJ, N_sI, N_sJ, N_sD, N_sP, N_rI, N_rJ, J_sI, J_sD, J_sP, J_rI, I_sJ, I_sD, I_sP, I_rJ, D_sI, D_sJ, D_sP, D_rI, D_rJ, zgd_t, Nat.zero_add, Nat.le_refl]
    exact s40 _ (cp_row (cp_sc c hab 4 (by omega) (by decide)) hab 20 (by omega) (by omega) rfl)
  have s20 : ∀ g, CP h a b 2 1 g → zTo vX2_copyFrom rX2_copyFrom (20, [some (.ref a), some (.ref b)], [], g) R := by
    intro g c
    have K := c.1.K
    have P := c.1.P
    refine zTo_of gX2_copyFrom_20 ?_
    simp only [K, P, a0, a3, b3, k0, k3, p3, c_0, c_11, c_20, p_0, p_11, p_20, zmp_s, zlt_s, zcV_s, zcI_s, zcJ_s, zcA_s, zcD_s, zcF_s, zth_n, zth_t, zrt_s, zQ_l, zQ_r, false_or, or_false, not_false_eq_true, not_true_eq_false, and_self, true_and, and_true, if_true, if_false, ite_true, ite_false, K_sI, K_sJ, K_sD, K_sP, K_rI, K_rJ, P_sI, P_sJ, P_sD, P_rI, P_rJ, N_sI, N_sJ, N_sD, N_sP, N_rI, N_rJ, J_sI, J_sD, J_sP, J_rI, I_sJ, I_sD, I_sP, I_rJ, D_sI, D_sJ, D_sP, D_rI, D_rJ, zgd_t, Nat.zero_add, Nat.le_refl]
    exact s28 _ (cp_row c hab 11 (by omega) (by omega) rfl)
  have s12 : ∀ g, CP h a b 1 1 g → zTo vX2_copyFrom rX2_copyFrom (12, [some (.ref a), some (.ref b)], [], g) R := by
    intro g c
    have K := c.1.K
    have P := c.1.P
    refine zTo_of gX2_copyFrom_12 ?_
    simp only [K, P, a0, a2, b2, k0, k2, p2, c_0, c_11, c_20, p_0, p_11, p_20, zmp_s, zlt_s, zcV_s, zcI_s, zcJ_s, zcA_s, zcD_s, zcF_s, zth_n, zth_t, zrt_s, zQ_l, zQ_r, false_or, or_false, not_false_eq_true, not_true_eq_false, and_self, true_and, and_true, if_true, if_false, ite_true, ite_false, K_sI, K_sJ, K_sD, K_sP, K_rI, K_rJ, P_sI, P_sJ, P_sD, P_rI, P_rJ, N_sI, N_sJ, N_sD, N_sP, N_rI, N_rJ, J_sI, J_sD, J_sP, J_rI, I_sJ, I_sD, I_sP, I_rJ, D_sI, D_sJ, D_sP, D_rI, D_rJ, zgd_t, Nat.zero_add, Nat.le_refl]
    exact s20 _ (cp_row c hab 11 (by omega) (by omega) rfl)
  have s0 : ∀ g, CP h a b 0 0 g → zTo vX2_copyFrom rX2_copyFrom (0, [some (.ref a), some (.ref b)], [], g) R := by
    intro g c
    have K := c.1.K
    have P := c.1.P
    refine zTo_of gX2_copyFrom_0 ?_
    simp only [K, P, a0, a1, b1, k0, k1, p1, c_0, c_11, c_20, p_0, p_11, p_20, zmp_s, zlt_s, zcV_s, zcI_s, zcJ_s, zcA_s, zcD_s, zcF_s, zth_n, zth_t, zrt_s, zQ_l, zQ_r, false_or, or_false, not_false_eq_true, not_true_eq_false, and_self, true_and, and_true, if_true, if_false, ite_true, ite_false, K_sI, K_sJ, K_sD, K_sP, K_rI, K_rJ, P_sI, P_sJ, P_sD, P_rI, P_rJ, N_sI, N_sJ, N_sD, N_sP, N_rI, N_rJ, J_sI, J_sD, J_sP, J_rI, I_sJ, I_sD, I_sP, I_rJ, D_sI, D_sJ, D_sP, D_rI, D_rJ, zgd_t, Nat.zero_add, Nat.le_refl]
    exact s12 _ (cp_rowJ (cp_sc c hab 0 (by omega) (by decide)) hab)
  have hsim : zW (sX2_copyFrom [.ref a, .ref b] h) R := zsem_to (Nat.le_of_ble_eq_true rfl) (s0 h ⟨zFr.rf, fun q => by omega, fun i h2 hi => by omega, fun j hj => by omega⟩)
  rw [hR] at hsim
  obtain ⟨o, h1, g, rfl, h2⟩ := hsim
  exact ⟨g, h1, h2⟩
theorem q_lock {h : zm_H} {a d : Nat} {k n : Nat} (hS : lvS h a) (hd : d < 20) : sX2_lock [.ref a, .int (nI d), .int (nI k), .int (nI n)] h = some (.inl none, zsI (zsI h (a + 6) d (nI k)) (a + 7) d (nI n)) := by
  obtain ⟨k0, p1, p2, p3, p5, p6, p7, p8, p9, p12, p14, k1, k2, k3, k4, k5, k6, k7, k8, k9, k10⟩ := hS
  obtain ⟨f1, f2, f3, f4⟩ := nI_for hd (by omega)
  have f5 : ¬ 20 ≤ d := by omega
  refine zsem_eq (Nat.le_of_ble_eq_true rfl) (zTo_of gX2_lock_0 ?_)
  simp only [k0, p7, k6, p8, k7, f2, f3, f5, zmp_s, zlt_s, zcV_s, zcI_s, zcJ_s, zcA_s, zcD_s, zcF_s, zth_n, zth_t, zrt_s, zQ_l, zQ_r, false_or, or_false, not_false_eq_true, not_true_eq_false, and_self, true_and, and_true, if_true, if_false, ite_true, ite_false, K_sI, K_sJ, K_sD, K_sP, K_rI, K_rJ, P_sI, P_sJ, P_sD, P_rI, P_rJ, N_sI, N_sJ, N_sD, N_sP, N_rI, N_rJ, J_sI, J_sD, J_sP, J_rI, I_sJ, I_sD, I_sP, I_rJ, D_sI, D_sJ, D_sP, D_rI, D_rJ, zgd_t]
theorem q_beginAt {h : zm_H} {a r : Nat} (hS : lvS h a) : sX2_beginAt [.ref a, .int (nI r)] h = some (.inl none, zsI (zsI (zsI h a 10 (nI r)) (a + 9) 0 (nI r)) a 13 (nI 1)) := by
  obtain ⟨k0, p1, p2, p3, p5, p6, p7, p8, p9, p12, p14, k1, k2, k3, k4, k5, k6, k7, k8, k9, k10⟩ := hS
  refine zsem_eq (Nat.le_of_ble_eq_true rfl) (zTo_of gX2_beginAt_0 ?_)
  simp only [k0, p12, k9, c_0, p_0, zmp_s, zlt_s, zcV_s, zcI_s, zcJ_s, zcA_s, zcD_s, zcF_s, zth_n, zth_t, zrt_s, zQ_l, zQ_r, false_or, or_false, not_false_eq_true, not_true_eq_false, and_self, true_and, and_true, if_true, if_false, ite_true, ite_false, K_sI, K_sJ, K_sD, K_sP, K_rI, K_rJ, P_sI, P_sJ, P_sD, P_rI, P_rJ, N_sI, N_sJ, N_sD, N_sP, N_rI, N_rJ, J_sI, J_sD, J_sP, J_rI, I_sJ, I_sD, I_sP, I_rJ, D_sI, D_sJ, D_sP, D_rI, D_rJ, zgd_t]
  rfl
theorem KL_beginAt {h : zm_H} {a : Nat} {N : zLv} (hL : KL h a N) (hb : N 0 ≤ 11 ∧ N 4 ≤ 11) (r : Nat) : KL (zsI (zsI (zsI h a 10 (nI r)) (a + 9) 0 (nI r)) a 13 (nI 1)) a (zput (zput (zput N 2 r) (5 + 0) r) 4 1) := by
  have c1 := KL_start hL r
  have c2 := KL_walk c1 (by rw [zput_ne _ _ (by omega), zput_ne _ _ (by omega)]; exact hb) 0 r (by omega)
  refine KL_len c2 1 (fun k hk => ?_)
  have e : k = 0 := by omega
  subst e
  rw [I_sIs, zput_self, zput_self]
theorem q_openDoors {h : zm_H} {a : Nat} {N : zLv} {S : Nat} (hS : lvS h a) (hL : KL h a N) (hW : WB N) (hs : S < 2 ^ 31) (hK : nkeys N S < 2 ^ 31) (hC : ncoins N S < 2 ^ 31) : sX2_openDoors [.ref a, .int (nI S)] h = some (.inl (some (.int (nI (zfo (fun d acc => if nopen N d (nkeys N S) (ncoins N S) then acc ||| 2 ^ d else acc) 0 (N 1))))), h) := by
  have hS0 := hS
  have hL0 := hL
  have w1 := hW.2.1
  obtain ⟨k0, p1, p2, p3, p5, p6, p7, p8, p9, p12, p14, k1, k2, k3, k4, k5, k6, k7, k8, k9, k10⟩ := hS
  obtain ⟨l0, l1, l2, l3, l4, ln, lk, lc, lf, lt, ld, lb, lo, lw⟩ := hL
  refine zsem_eq (Nat.le_of_ble_eq_true rfl) (zTo_of gX2_openDoors_0 ?_)
  simp only [k0, zgd_t, q_keysIn hS0 hL0 hW.1 hs, q_coinsIn hS0 hL0 hW.1 hs, zmp_s, zlt_s, zcV_s, zcI_s, zcJ_s, zcA_s, zcD_s, zcF_s, zth_n, zth_t, zrt_s, zQ_l, zQ_r]
  refine zTo_for (f := fun d => (12, [some (.ref a), none, some (.int (nI (nkeys N S))), some (.int (nI (ncoins N S))), some (.int (nI (zfo (fun d acc => if nopen N d (nkeys N S) (ncoins N S) then acc ||| 2 ^ d else acc) 0 d))), some (.int (nI d))], [], h)) (N 1) 0 (Nat.zero_le _) (fun d _ hd => ?_) (zTo_of gX2_openDoors_12 ?_)
  · obtain ⟨f1, f2, f3, f4⟩ := nI_for hd (by omega)
    simp only [gX2_openDoors_12, k0, l1, f1, f4, q_opens hS0 hL0 hW hd hK hC, zfo_s, zb_0, zmp_s, zlt_s, zcV_s, zcI_s, zcJ_s, zcA_s, zcD_s, zcF_s, zth_n, zth_t, zrt_s, zQ_l, zQ_r, false_or, or_false, not_false_eq_true, not_true_eq_false, and_self, true_and, and_true, if_true, if_false, ite_true, ite_false, zgd_t, nx_shl1 (show d < 32 by omega), nx_or]
    cases nopen N d (nkeys N S) (ncoins N S) <;> simp
  · simp only [k0, l1, zgd_t, nI_le (Nat.le_refl _) (show N 1 < 2 ^ 31 by omega), zmp_s, zlt_s, zcV_s, zcI_s, zcJ_s, zcA_s, zcD_s, zcF_s, zth_n, zth_t, zrt_s, zQ_l, zQ_r, false_or, or_false, not_false_eq_true, not_true_eq_false, and_self, true_and, and_true, if_true, if_false, ite_true, ite_false]
def ndf (N : zLv) (r d : Nat) : Bool := decide (N (49 + 5 * d) = r) || (decide (N (50 + 5 * d) = r) && decide (N (53 + 5 * d) = 0))
def ndi (N : zLv) (r d : Nat) : Bool := decide (N (50 + 5 * d) = r) || (decide (N (49 + 5 * d) = r) && decide (N (53 + 5 * d) = 0))
def nmask (f : Nat → Bool) (n : Nat) : Nat := zfo (fun d acc => if f d then acc ||| 2 ^ d else acc) 0 n
theorem nmask_bit (f : Nat → Bool) : ∀ (n k : Nat), (nmask f n).testBit k = (decide (k < n) && f k) := by
  intro n
  induction n with
  | zero => intro k; simp [nmask, zfo]
  | succ n ih =>
    intro k
    have ih2 := ih k
    unfold nmask at ih2 ⊢
    rw [zfo_s]
    by_cases q : f n = true
    · rw [if_pos q, tb_or, ih2]
      by_cases e : n = k
      · subst e; simp [q]
      · have : (k < n + 1) = (k < n) := propext ⟨fun _ => by omega, fun _ => by omega⟩
        simp [e, this]
    · rw [if_neg q, ih2]
      by_cases e : n = k
      · subst e; simp [q]
      · have : (k < n + 1) = (k < n) := propext ⟨fun _ => by omega, fun _ => by omega⟩
        simp [this]
theorem nmask_lt (f : Nat → Bool) (n : Nat) : nmask f n < 2 ^ n := by
  refine tb_lt (fun k hk => ?_)
  have : ¬ k < n := by omega
  rw [nmask_bit]; simp [this]
theorem q_doorsFrom {h : zm_H} {a : Nat} {N : zLv} {r : Nat} (hS : lvS h a) (hL : KL h a N) (hW : WB N) (hr : r < 2 ^ 31) : sX2_doorsFrom [.ref a, .int (nI r)] h = some (.inl (some (.int (nI (nmask (ndf N r) (N 1))))), h) := by
  obtain ⟨w0, w1, w4, wr, wd, ww⟩ := hW
  obtain ⟨k0, p1, p2, p3, p5, p6, p7, p8, p9, p12, p14, k1, k2, k3, k4, k5, k6, k7, k8, k9, k10⟩ := hS
  obtain ⟨l0, l1, l2, l3, l4, ln, lk, lc, lf, lt, ld, lb, lo, lw⟩ := hL
  refine zsem_eq (Nat.le_of_ble_eq_true rfl) (zTo_of gX2_doorsFrom_0 (zTo_for (f := fun d => (4, [some (.ref a), some (.int (nI r)), some (.int (nI (nmask (ndf N r) d))), some (.int (nI d))], [], h)) (N 1) 0 (Nat.zero_le _) (fun d _ hd => ?_) (zTo_of gX2_doorsFrom_4 ?_)))
  · obtain ⟨f1, f2, f3, f4⟩ := nI_for hd (by omega)
    have f5 : ¬ 20 ≤ d := by omega
    obtain ⟨d1, d2, d3, d4, d5, d6, d7⟩ := wd d hd
    unfold nmask
    simp only [gX2_doorsFrom_4, k0, l1, f1, f2, f3, f4, f5, p5, k4, p6, k5, p9, k8, lf d hd, lt d hd, lo d hd, zfo_s, zmp_s, zlt_s, zcV_s, zcI_s, zcJ_s, zcA_s, zcD_s, zcF_s, zth_n, zth_t, zrt_s, zQ_l, zQ_r, false_or, or_false, not_false_eq_true, not_true_eq_false, and_self, true_and, and_true, if_true, if_false, ite_true, ite_false, zgd_t, nx_shl1 (show d < 32 by omega), nx_or, nI_eq (show N (49 + 5 * d) < 2 ^ 31 by omega) hr, nI_eq (show N (50 + 5 * d) < 2 ^ 31 by omega) hr, nI_eq0 (show N (53 + 5 * d) < 2 ^ 31 by omega)]
    unfold ndf
    by_cases e1 : N (49 + 5 * d) = r
    · simp [e1]
    · by_cases e2 : N (50 + 5 * d) = r
      · by_cases e3 : N (53 + 5 * d) = 0
        · simp [e1, e2, e3]
        · simp [e1, e2, e3]
      · simp [e1, e2]
  · simp only [k0, l1, zgd_t, nI_le (Nat.le_refl _) (show N 1 < 2 ^ 31 by omega), zmp_s, zlt_s, zcV_s, zcI_s, zcJ_s, zcA_s, zcD_s, zcF_s, zth_n, zth_t, zrt_s, zQ_l, zQ_r, false_or, or_false, not_false_eq_true, not_true_eq_false, and_self, true_and, and_true, if_true, if_false, ite_true, ite_false]
theorem q_doorsInto {h : zm_H} {a : Nat} {N : zLv} {r : Nat} (hS : lvS h a) (hL : KL h a N) (hW : WB N) (hr : r < 2 ^ 31) : sX2_doorsInto [.ref a, .int (nI r)] h = some (.inl (some (.int (nI (nmask (ndi N r) (N 1))))), h) := by
  obtain ⟨w0, w1, w4, wr, wd, ww⟩ := hW
  obtain ⟨k0, p1, p2, p3, p5, p6, p7, p8, p9, p12, p14, k1, k2, k3, k4, k5, k6, k7, k8, k9, k10⟩ := hS
  obtain ⟨l0, l1, l2, l3, l4, ln, lk, lc, lf, lt, ld, lb, lo, lw⟩ := hL
  refine zsem_eq (Nat.le_of_ble_eq_true rfl) (zTo_of gX2_doorsInto_0 (zTo_for (f := fun d => (4, [some (.ref a), some (.int (nI r)), some (.int (nI (nmask (ndi N r) d))), some (.int (nI d))], [], h)) (N 1) 0 (Nat.zero_le _) (fun d _ hd => ?_) (zTo_of gX2_doorsInto_4 ?_)))
  · obtain ⟨f1, f2, f3, f4⟩ := nI_for hd (by omega)
    have f5 : ¬ 20 ≤ d := by omega
    obtain ⟨d1, d2, d3, d4, d5, d6, d7⟩ := wd d hd
    unfold nmask
    simp only [gX2_doorsInto_4, k0, l1, f1, f2, f3, f4, f5, p5, k4, p6, k5, p9, k8, lf d hd, lt d hd, lo d hd, zfo_s, zmp_s, zlt_s, zcV_s, zcI_s, zcJ_s, zcA_s, zcD_s, zcF_s, zth_n, zth_t, zrt_s, zQ_l, zQ_r, false_or, or_false, not_false_eq_true, not_true_eq_false, and_self, true_and, and_true, if_true, if_false, ite_true, ite_false, zgd_t, nx_shl1 (show d < 32 by omega), nx_or, nI_eq (show N (49 + 5 * d) < 2 ^ 31 by omega) hr, nI_eq (show N (50 + 5 * d) < 2 ^ 31 by omega) hr, nI_eq0 (show N (53 + 5 * d) < 2 ^ 31 by omega)]
    unfold ndi
    by_cases e1 : N (50 + 5 * d) = r
    · simp [e1]
    · by_cases e2 : N (49 + 5 * d) = r
      · by_cases e3 : N (53 + 5 * d) = 0
        · simp [e1, e2, e3]
        · simp [e1, e2, e3]
      · simp [e1, e2]
  · simp only [k0, l1, zgd_t, nI_le (Nat.le_refl _) (show N 1 < 2 ^ 31 by omega), zmp_s, zlt_s, zcV_s, zcI_s, zcJ_s, zcA_s, zcD_s, zcF_s, zth_n, zth_t, zrt_s, zQ_l, zQ_r, false_or, or_false, not_false_eq_true, not_true_eq_false, and_self, true_and, and_true, if_true, if_false, ite_true, ite_false]
/-- the first of 0 .. n-1 with p -/
def nany (p : Nat → Bool) : Nat → Bool
  | 0 => false
  | n + 1 => nany p n || p n
theorem nany_iff {p : Nat → Bool} {n : Nat} : nany p n = true ↔ ∃ k, k < n ∧ p k = true := by
  induction n with
  | zero => exact ⟨fun h => absurd h (by simp [nany]), fun ⟨k, h, _⟩ => absurd h (by omega)⟩
  | succ n ih =>
    unfold nany
    rw [Bool.or_eq_true, ih]
    constructor
    · rintro (⟨k, h1, h2⟩ | h)
      · exact ⟨k, by omega, h2⟩
      · exact ⟨n, by omega, h⟩
    · rintro ⟨k, h1, h2⟩
      by_cases e : k = n
      · subst e; exact Or.inr h2
      · exact Or.inl ⟨k, by omega, h2⟩
theorem q_anyToll {h : zm_H} {a : Nat} {N : zLv} {S : Nat} (hS : lvS h a) (hL : KL h a N) (hW : WB N) (hs : S < 2 ^ 31) : sX2_anyToll [.ref a, .int (nI S)] h = some (.inl (some (.int (zb (nany (fun d => S.testBit d && decide (N (51 + 5 * d) = 2)) (N 1))))), h) := by
  obtain ⟨w0, w1, w4, wr, wd, ww⟩ := hW
  obtain ⟨k0, p1, p2, p3, p5, p6, p7, p8, p9, p12, p14, k1, k2, k3, k4, k5, k6, k7, k8, k9, k10⟩ := hS
  obtain ⟨l0, l1, l2, l3, l4, ln, lk, lc, lf, lt, ld, lb, lo, lw⟩ := hL
  refine zsem_eq (Nat.le_of_ble_eq_true rfl) (zTo_of gX2_anyToll_0 ?_)
  have key : ∀ e d, d + e = N 1 → nany (fun d => S.testBit d && decide (N (51 + 5 * d) = 2)) d = false → zTo vX2_anyToll rX2_anyToll (2, [some (.ref a), some (.int (nI S)), some (.int (nI d))], [], h) (fun y => y = (.inl (some (.int (zb (nany (fun d => S.testBit d && decide (N (51 + 5 * d) = 2)) (N 1))))), h)) := by
    intro e
    induction e with
    | zero =>
      intro d hd hn
      have hd : d = N 1 := by omega
      subst hd
      refine zTo_of gX2_anyToll_2 ?_
      simp only [k0, l1, zgd_t, nI_le (Nat.le_refl _) (show N 1 < 2 ^ 31 by omega), zmp_s, zlt_s, zcV_s, zcI_s, zcJ_s, zcA_s, zcD_s, zcF_s, zth_n, zth_t, zrt_s, zQ_l, zQ_r, false_or, or_false, not_false_eq_true, not_true_eq_false, and_self, true_and, and_true, if_true, if_false, ite_true, ite_false, hn]
      rfl
    | succ e ih =>
      intro d hd hn
      obtain ⟨f1, f2, f3, f4⟩ := nI_for (show d < N 1 by omega) (by omega)
      have f5 : ¬ 20 ≤ d := by omega
      obtain ⟨d1, d2, d3, d4, d5, d6, d7⟩ := wd d (by omega)
      have e2 : (nI (N (51 + 5 * d)) = 2) = (N (51 + 5 * d) = 2) := propext (nI_eq (b := 2) (by omega) (by omega))
      refine zTo_of gX2_anyToll_2 ?_
      simp only [k0, l1, f1, f2, f3, f4, f5, q_has hs (show d < 32 by omega), zb_0, p7, k6, ld d (by omega), e2, zmp_s, zlt_s, zcV_s, zcI_s, zcJ_s, zcA_s, zcD_s, zcF_s, zth_n, zth_t, zrt_s, zQ_l, zQ_r, false_or, or_false, not_false_eq_true, not_true_eq_false, and_self, true_and, and_true, if_true, if_false, ite_true, ite_false, zgd_t]
      by_cases q1 : S.testBit d = true
      · by_cases q2 : N (51 + 5 * d) = 2
        · simp only [q1, q2, zmp_s, zlt_s, zcV_s, zcI_s, zcJ_s, zcA_s, zcD_s, zcF_s, zth_n, zth_t, zrt_s, zQ_l, zQ_r, false_or, or_false, not_false_eq_true, not_true_eq_false, and_self, true_and, and_true, if_true, if_false, ite_true, ite_false, Bool.true_eq_false]
          have : nany (fun d => S.testBit d && decide (N (51 + 5 * d) = 2)) (N 1) = true := nany_iff.mpr ⟨d, by omega, by simp [q1, q2]⟩
          rw [this]; rfl
        · simp only [q1, q2, zmp_s, zlt_s, zcV_s, zcI_s, zcJ_s, zcA_s, zcD_s, zcF_s, zth_n, zth_t, zrt_s, zQ_l, zQ_r, false_or, or_false, not_false_eq_true, not_true_eq_false, and_self, true_and, and_true, if_true, if_false, ite_true, ite_false, Bool.true_eq_false]
          exact ih (d + 1) (by omega) (by rw [nany, hn]; simp [q2])
      · have q1 : S.testBit d = false := by simpa using q1
        simp only [q1, zmp_s, zlt_s, zcV_s, zcI_s, zcJ_s, zcA_s, zcD_s, zcF_s, zth_n, zth_t, zrt_s, zQ_l, zQ_r, false_or, or_false, not_false_eq_true, not_true_eq_false, and_self, true_and, and_true, if_true, if_false, ite_true, ite_false]
        exact ih (d + 1) (by omega) (by rw [nany, hn]; simp [q1])
  exact key (N 1) 0 (by omega) rfl
end ZLO

