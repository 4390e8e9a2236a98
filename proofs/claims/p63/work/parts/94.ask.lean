/-! THE LAW'S QUESTIONS: keys, coins, locks, ways, tours counted step by step. -/
section ZLQ
theorem w_has {S k : Nat} (hS : S < 2 ^ 31) (hk : k < 32) (h : zm_H) : sL_has [.int (nI S), .int (nI k)] h = some (.inl (some (.int (zb (S.testBit k)))), h) := by
  refine zsem_eq (Nat.le_of_ble_eq_true rfl) (zTo_of gL_has_0 ?_)
  have e : ((nI S >>> (nI k &&& 31)) &&& (1 : Int32)) = zb (S.testBit k) := nx_bit hS hk
  rw [e]
  cases S.testBit k with
  | true => simp only [show (zb true = (1 : Int32)) = True from eq_true rfl, zmp_s, zlt_s, zcV_s, zcI_s, zcJ_s, zcA_s, zcD_s, zcF_s, zth_n, zth_t, zrt_s, zQ_l, zQ_r, false_or, or_false, true_or, or_true, false_and, and_false, not_false_eq_true, not_true_eq_false, and_self, true_and, and_true, if_true, if_false, ite_true, ite_false, zgd_t]; rfl
  | false => simp only [show (zb false = (1 : Int32)) = False from eq_false (by decide), zmp_s, zlt_s, zcV_s, zcI_s, zcJ_s, zcA_s, zcD_s, zcF_s, zth_n, zth_t, zrt_s, zQ_l, zQ_r, false_or, or_false, true_or, or_true, false_and, and_false, not_false_eq_true, not_true_eq_false, and_self, true_and, and_true, if_true, if_false, ite_true, ite_false, zgd_t]; rfl
section
variable {h : zm_H} {N : zLv}
theorem w_p0 (c : CI h N) : sX5_property [.ref 0, .int (0 : Int32)] h = some (.inl (some (.int (nI (N 0)))), h) := m_property c (k := 0) (by omega)
theorem w_p1 (c : CI h N) : sX5_property [.ref 0, .int (1 : Int32)] h = some (.inl (some (.int (nI (N 1)))), h) := m_property c (k := 1) (by omega)
theorem w_p2 (c : CI h N) : sX5_property [.ref 0, .int (2 : Int32)] h = some (.inl (some (.int (nI (N 2)))), h) := m_property c (k := 2) (by omega)
theorem w_p3 (c : CI h N) : sX5_property [.ref 0, .int (3 : Int32)] h = some (.inl (some (.int (eI (N 3)))), h) := m_property c (k := 3) (by omega)
theorem w_p4 (c : CI h N) : sX5_property [.ref 0, .int (4 : Int32)] h = some (.inl (some (.int (nI (N 4)))), h) := m_property c (k := 4) (by omega)
theorem w_p5 (c : CI h N) : sX5_property [.ref 0, .int (5 : Int32)] h = some (.inl (some (.int (nI (N (4 + N 4))))), h) := m_property c (k := 5) (by omega)
theorem w_p6 (c : CI h N) : sX5_property [.ref 0, .int (6 : Int32)] h = some (.inl (some (.int (nI (nset N)))), h) := m_property c (k := 6) (by omega)
theorem w_p7 (c : CI h N) : sX5_property [.ref 0, .int (7 : Int32)] h = some (.inl (some (.int (nI (nkeys N (nset N))))), h) := m_property c (k := 7) (by omega)
theorem w_p8 (c : CI h N) : sX5_property [.ref 0, .int (8 : Int32)] h = some (.inl (some (.int (nI (ncoins N (nset N))))), h) := m_property c (k := 8) (by omega)
theorem w_keys {S : Nat} (c : CI h N) (hS : S < 2 ^ 31) : sL_keys [.ref 0, .int (nI S)] h = some (.inl (some (.int (nI (nkeys N S)))), h) := by
  have q0 := c.1.1
  have p0 := w_p0 c
  have n11 := c.2.2.1.1.1
  refine zsem_eq (Nat.le_of_ble_eq_true rfl) (zTo_of gL_keys_0 ?_)
  simp only [zmp_s, zlt_s, zcV_s, zcI_s, zcJ_s, zcA_s, zcD_s, zcF_s, zth_n, zth_t, zrt_s, zQ_l, zQ_r]
  refine zTo_for (f := fun k => (4, [some (.ref 0), some (.int (nI S)), some (.int (nI (zfo (fun r acc => if S.testBit r then acc ||| N (16 + 3 * r) else acc) 0 k))), some (.int (nI k))], [], h)) (N 0) 0 (Nat.zero_le _) (fun k _ hk => ?_) (zTo_of gL_keys_4 ?_)
  · rw [gL_keys_4]
    obtain ⟨f1, -, -, f4⟩ := nI_for hk (show N 0 < 2 ^ 31 by omega)
    have r0 : sX5_room [.ref 0, .int (nI k), .int (0 : Int32)] h = some (.inl (some (.int (nI (N (16 + 3 * k))))), h) := m_room c hk (k := 0) (by omega)
    rw [zfo_s]
    cases e : S.testBit k with
    | true => simp only [q0, p0, f1, w_has hS (show k < 32 by omega), e, zb_0, r0, f4, nx_or, zmp_s, zlt_s, zcV_s, zcI_s, zcJ_s, zcA_s, zcD_s, zcF_s, zth_n, zth_t, zrt_s, zQ_l, zQ_r, false_or, or_false, true_or, or_true, false_and, and_false, not_false_eq_true, not_true_eq_false, and_self, true_and, and_true, if_true, if_false, ite_true, ite_false, zgd_t]; rfl
    | false => simp only [q0, p0, f1, w_has hS (show k < 32 by omega), e, zb_0, Int32.or_zero, f4, zmp_s, zlt_s, zcV_s, zcI_s, zcJ_s, zcA_s, zcD_s, zcF_s, zth_n, zth_t, zrt_s, zQ_l, zQ_r, false_or, or_false, true_or, or_true, false_and, and_false, not_false_eq_true, not_true_eq_false, and_self, true_and, and_true, if_true, if_false, ite_true, ite_false, zgd_t]; rfl
  · simp only [q0, p0, nI_le (Nat.le_refl (N 0)) (show N 0 < 2 ^ 31 by omega), zmp_s, zlt_s, zcV_s, zcI_s, zcJ_s, zcA_s, zcD_s, zcF_s, zth_n, zth_t, zrt_s, zQ_l, zQ_r, false_or, or_false, true_or, or_true, false_and, and_false, not_false_eq_true, not_true_eq_false, and_self, true_and, and_true, if_true, if_false, ite_true, ite_false, zgd_t]; rfl
theorem w_coins {S : Nat} (c : CI h N) (hS : S < 2 ^ 31) : sL_coins [.ref 0, .int (nI S)] h = some (.inl (some (.int (nI (ncoins N S)))), h) := by
  have q0 := c.1.1
  have p0 := w_p0 c
  have n11 := c.2.2.1.1.1
  refine zsem_eq (Nat.le_of_ble_eq_true rfl) (zTo_of gL_coins_0 ?_)
  simp only [zmp_s, zlt_s, zcV_s, zcI_s, zcJ_s, zcA_s, zcD_s, zcF_s, zth_n, zth_t, zrt_s, zQ_l, zQ_r]
  refine zTo_for (f := fun k => (4, [some (.ref 0), some (.int (nI S)), some (.int (nI (zfo (fun r acc => if S.testBit r then acc + N (17 + 3 * r) else acc) 0 k))), some (.int (nI k))], [], h)) (N 0) 0 (Nat.zero_le _) (fun k _ hk => ?_) (zTo_of gL_coins_4 ?_)
  · rw [gL_coins_4]
    obtain ⟨f1, -, -, f4⟩ := nI_for hk (show N 0 < 2 ^ 31 by omega)
    have r0 : sX5_room [.ref 0, .int (nI k), .int (1 : Int32)] h = some (.inl (some (.int (nI (N (17 + 3 * k))))), h) := m_room c hk (k := 1) (by omega)
    rw [zfo_s]
    cases e : S.testBit k with
    | true => simp only [q0, p0, f1, w_has hS (show k < 32 by omega), e, zb_0, r0, f4, nI_add, zmp_s, zlt_s, zcV_s, zcI_s, zcJ_s, zcA_s, zcD_s, zcF_s, zth_n, zth_t, zrt_s, zQ_l, zQ_r, false_or, or_false, true_or, or_true, false_and, and_false, not_false_eq_true, not_true_eq_false, and_self, true_and, and_true, if_true, if_false, ite_true, ite_false, zgd_t]; rfl
    | false => simp only [q0, p0, f1, w_has hS (show k < 32 by omega), e, zb_0, Int32.add_zero, f4, zmp_s, zlt_s, zcV_s, zcI_s, zcJ_s, zcA_s, zcD_s, zcF_s, zth_n, zth_t, zrt_s, zQ_l, zQ_r, false_or, or_false, true_or, or_true, false_and, and_false, not_false_eq_true, not_true_eq_false, and_self, true_and, and_true, if_true, if_false, ite_true, ite_false, zgd_t]; rfl
  · simp only [q0, p0, nI_le (Nat.le_refl (N 0)) (show N 0 < 2 ^ 31 by omega), zmp_s, zlt_s, zcV_s, zcI_s, zcJ_s, zcA_s, zcD_s, zcF_s, zth_n, zth_t, zrt_s, zQ_l, zQ_r, false_or, or_false, true_or, or_true, false_and, and_false, not_false_eq_true, not_true_eq_false, and_self, true_and, and_true, if_true, if_false, ite_true, ite_false, zgd_t]; rfl
theorem nI_is {a b : Nat} (ha : a < 2 ^ 31) (hb : b < 2 ^ 31) : (nI a = nI b) = (a = b) := propext (nI_eq ha hb)
theorem w_isOpen {S d : Nat} (c : CI h N) (hS : S < 2 ^ 31) (hd : d < N 1) : sL_isOpen [.ref 0, .int (nI d), .int (nI S)] h = some (.inl (some (.int (zb (nopen N d (nkeys N S) (ncoins N S))))), h) := by
  have q0 := c.1.1
  have hW := c.2.2.1.1
  obtain ⟨-, -, -, -, D5, D6, -⟩ := hW.2.2.2.2.1 d hd
  have k8 := nkeys_lt hW S
  have c9 := ncoins_le hW S
  have d2 : sX5_door [.ref 0, .int (nI d), .int (2 : Int32)] h = some (.inl (some (.int (nI (N (51 + 5 * d))))), h) := m_door c hd (k := 2) (by omega)
  have d3 : sX5_door [.ref 0, .int (nI d), .int (3 : Int32)] h = some (.inl (some (.int (nI (N (52 + 5 * d))))), h) := m_door c hd (k := 3) (by omega)
  have ks := w_keys c hS
  have cs := w_coins c hS
  have D4 := (hW.2.2.2.2.1 d hd).2.2.2.1
  have z0 : ∀ a, a < 2 ^ 31 → (nI a = (0 : Int32)) = (a = 0) := fun a ha => nI_eq0 ha
  have z1 : ∀ a, a < 2 ^ 31 → (nI a = (1 : Int32)) = (a = 1) := fun a ha => nI_is (b := 1) ha (by omega)
  have z2 : ∀ a, a < 2 ^ 31 → (nI a = (2 : Int32)) = (a = 2) := fun a ha => nI_is (b := 2) ha (by omega)
  have b0 := z0 (N (51 + 5 * d)) (by omega)
  have b1 := z1 (N (51 + 5 * d)) (by omega)
  have b2 := z2 (N (51 + 5 * d)) (by omega)
  refine zsem_eq (Nat.le_of_ble_eq_true rfl) (zTo_of gL_isOpen_0 ?_)
  unfold nopen
  by_cases e0 : N (51 + 5 * d) = 0
  · have x0 : (N (51 + 5 * d) = 0) = True := eq_true e0
    have x1 : (N (51 + 5 * d) = 1) = False := eq_false (by omega)
    simp only [q0, d2, b0, x0, x1, zmp_s, zlt_s, zcV_s, zcI_s, zcJ_s, zcA_s, zcD_s, zcF_s, zth_n, zth_t, zrt_s, zQ_l, zQ_r, false_or, or_false, true_or, or_true, false_and, and_false, not_false_eq_true, not_true_eq_false, and_self, true_and, and_true, if_true, if_false, ite_true, ite_false, zgd_t, decide_true, Bool.true_or]; rfl
  · have x0 : (N (51 + 5 * d) = 0) = False := eq_false e0
    by_cases e1 : N (51 + 5 * d) = 1
    · have x1 : (N (51 + 5 * d) = 1) = True := eq_true e1
      have x2 : (N (51 + 5 * d) = 2) = False := eq_false (by omega)
      have n8 := D6 e1
      cases e : (nkeys N S).testBit (N (52 + 5 * d)) with
      | true => simp only [q0, d2, b0, x0, b1, x1, ks, d3, w_has (show nkeys N S < 2 ^ 31 by omega) (show N (52 + 5 * d) < 32 by omega), e, zb_0, zmp_s, zlt_s, zcV_s, zcI_s, zcJ_s, zcA_s, zcD_s, zcF_s, zth_n, zth_t, zrt_s, zQ_l, zQ_r, false_or, or_false, true_or, or_true, false_and, and_false, not_false_eq_true, not_true_eq_false, and_self, true_and, and_true, if_true, if_false, ite_true, ite_false, zgd_t]; rfl
      | false => simp only [q0, d2, b0, x0, b1, x1, b2, x2, ks, d3, w_has (show nkeys N S < 2 ^ 31 by omega) (show N (52 + 5 * d) < 32 by omega), e, zb_0, zmp_s, zlt_s, zcV_s, zcI_s, zcJ_s, zcA_s, zcD_s, zcF_s, zth_n, zth_t, zrt_s, zQ_l, zQ_r, false_or, or_false, true_or, or_true, false_and, and_false, not_false_eq_true, not_true_eq_false, and_self, true_and, and_true, if_true, if_false, ite_true, ite_false, zgd_t]; rfl
    · have x1 : (N (51 + 5 * d) = 1) = False := eq_false e1
      have x2 : (N (51 + 5 * d) = 2) = True := eq_true (by omega)
      by_cases e : ncoins N S < N (52 + 5 * d)
      · have y : (nI (ncoins N S) < nI (N (52 + 5 * d))) = True := eq_true (nI_lt e (by omega))
        have y2 : decide (N (52 + 5 * d) ≤ ncoins N S) = false := by simp; omega
        simp only [q0, d2, b0, x0, b1, x1, b2, x2, cs, d3, y, y2, decide_false, Bool.false_or, zmp_s, zlt_s, zcV_s, zcI_s, zcJ_s, zcA_s, zcD_s, zcF_s, zth_n, zth_t, zrt_s, zQ_l, zQ_r, false_or, or_false, true_or, or_true, false_and, and_false, not_false_eq_true, not_true_eq_false, and_self, true_and, and_true, if_true, if_false, ite_true, ite_false, zgd_t]; rfl
      · have y : (nI (ncoins N S) < nI (N (52 + 5 * d))) = False := eq_false (nI_nlt (by omega) (by omega))
        have y2 : decide (N (52 + 5 * d) ≤ ncoins N S) = true := by simp; omega
        simp only [q0, d2, b0, x0, b1, x1, b2, x2, cs, d3, y, y2, decide_false, Bool.false_or, zmp_s, zlt_s, zcV_s, zcI_s, zcJ_s, zcA_s, zcD_s, zcF_s, zth_n, zth_t, zrt_s, zQ_l, zQ_r, false_or, or_false, true_or, or_true, false_and, and_false, not_false_eq_true, not_true_eq_false, and_self, true_and, and_true, if_true, if_false, ite_true, ite_false, zgd_t]; rfl
theorem nany_s {p : Nat → Bool} {n : Nat} : nany p (n + 1) = (nany p n || p n) := by
  cases e : nany p (n + 1) with
  | true =>
    obtain ⟨k, hk, q⟩ := nany_iff.mp e
    by_cases f : k = n
    · subst f; rw [q]; simp
    · have : nany p n = true := nany_iff.mpr ⟨k, by omega, q⟩
      rw [this]; rfl
  | false =>
    have n1 : nany p n = false := by
      cases e1 : nany p n with
      | false => rfl
      | true =>
        obtain ⟨k, hk, q⟩ := nany_iff.mp e1
        rw [nany_iff.mpr ⟨k, by omega, q⟩] at e; cases e
    have n2 : p n = false := by
      cases e1 : p n with
      | false => rfl
      | true => rw [nany_iff.mpr ⟨n, by omega, e1⟩] at e; cases e
    rw [n1, n2]; rfl
theorem zb_or0 {b : Bool} : zb b ||| (0 : Int32) = zb b := Int32.or_zero
theorem zb_or1 {b : Bool} : zb b ||| (1 : Int32) = zb (b || true) := by cases b <;> decide
theorem w_leads {S a b : Nat} (c : CI h N) (hS : S < 2 ^ 31) (ha : a < N 0) (hb : b < N 0) : sL_leads [.ref 0, .int (nI a), .int (nI b), .int (nI S)] h = some (.inl (some (.int (zb ((nld N S a).testBit b)))), h) := by
  have q0 := c.1.1
  have hW := c.2.2.1.1
  have n11 := hW.1
  have n20 := hW.2.1
  have p1 := w_p1 c
  have i0 : ((0 : Int32) = 0) = True := eq_true rfl
  have i1 := i10
  refine zsem_eq (Nat.le_of_ble_eq_true rfl) (zTo_of gL_leads_0 ?_)
  simp only [zmp_s, zlt_s, zcV_s, zcI_s, zcJ_s, zcA_s, zcD_s, zcF_s, zth_n, zth_t, zrt_s, zQ_l, zQ_r]
  have z0 : ∀ a, a < 2 ^ 31 → (nI a = (0 : Int32)) = (a = 0) := fun a ha => nI_eq0 ha
  have key : ∀ m k, k + m = N 1 → zTo vL_leads rL_leads (4, [some (.ref 0), some (.int (nI a)), some (.int (nI b)), some (.int (nI S)), some (.int (zb (nany (fun d => nopen N d (nkeys N S) (ncoins N S) && ndgo N d a b) k))), some (.int (nI k)), none], [], h) (fun y => y = (.inl (some (.int (zb ((nld N S a).testBit b)))), h)) := by
    intro m
    induction m with
    | zero =>
      intro k hk
      have hk : k = N 1 := by omega
      subst hk
      refine zTo_of gL_leads_4 ?_
      have zz : (zb (nany (fun d => nopen N d (nkeys N S) (ncoins N S) && ndgo N d a b) (N 1)) = 0 ∨ zb (nany (fun d => nopen N d (nkeys N S) (ncoins N S) && ndgo N d a b) (N 1)) = 1) = True := eq_true zb_01
      simp only [q0, p1, nI_le (Nat.le_refl (N 1)) (show N 1 < 2 ^ 31 by omega), zz, zmp_s, zlt_s, zcV_s, zcI_s, zcJ_s, zcA_s, zcD_s, zcF_s, zth_n, zth_t, zrt_s, zQ_l, zQ_r, false_or, or_false, true_or, or_true, false_and, and_false, not_false_eq_true, not_true_eq_false, and_self, true_and, and_true, if_true, if_false, ite_true, ite_false, zgd_t]
      unfold nld
      rw [nld_bit]
    | succ m ih =>
      intro k hk
      have hd : k < N 1 := by omega
      obtain ⟨D1, D2, D3, -, -, -, D7⟩ := hW.2.2.2.2.1 k hd
      obtain ⟨f1, -, -, f4⟩ := nI_for hd (show N 1 < 2 ^ 31 by omega)
      have ih := ih (k + 1) (by omega)
      rw [nany_s] at ih
      have d0 : sX5_door [.ref 0, .int (nI k), .int (0 : Int32)] h = some (.inl (some (.int (nI (N (49 + 5 * k))))), h) := m_door c hd (k := 0) (by omega)
      have d1 : sX5_door [.ref 0, .int (nI k), .int (1 : Int32)] h = some (.inl (some (.int (nI (N (50 + 5 * k))))), h) := m_door c hd (k := 1) (by omega)
      have d4 : sX5_door [.ref 0, .int (nI k), .int (4 : Int32)] h = some (.inl (some (.int (nI (N (53 + 5 * k))))), h) := m_door c hd (k := 4) (by omega)
      have op := w_isOpen (d := k) c hS hd
      have e00 := nI_is (a := N (49 + 5 * k)) (b := a) (by omega) (by omega)
      have e11 := nI_is (a := N (50 + 5 * k)) (b := b) (by omega) (by omega)
      have e10 := nI_is (a := N (50 + 5 * k)) (b := a) (by omega) (by omega)
      have e01 := nI_is (a := N (49 + 5 * k)) (b := b) (by omega) (by omega)
      have e4 := z0 (N (53 + 5 * k)) (by omega)
      refine zTo_of gL_leads_4 ?_
      have no : ndgo N k a b = false → zTo vL_leads rL_leads (4, [some (.ref 0), some (.int (nI a)), some (.int (nI b)), some (.int (nI S)), some (.int (zb (nany (fun d => nopen N d (nkeys N S) (ncoins N S) && ndgo N d a b) k))), some (.int (nI (k + 1))), none], [], h) (fun y => y = (.inl (some (.int (zb ((nld N S a).testBit b)))), h)) := by
        intro e
        rw [e, Bool.and_false, Bool.or_false] at ih; exact ih
      have yes : ndgo N k a b = true → nopen N k (nkeys N S) (ncoins N S) = true → zTo vL_leads rL_leads (4, [some (.ref 0), some (.int (nI a)), some (.int (nI b)), some (.int (nI S)), some (.int (zb (nany (fun d => nopen N d (nkeys N S) (ncoins N S) && ndgo N d a b) k || true))), some (.int (nI (k + 1))), none], [], h) (fun y => y = (.inl (some (.int (zb ((nld N S a).testBit b)))), h)) := by
        intro e o
        rw [e, o] at ih; exact ih
      have shut : nopen N k (nkeys N S) (ncoins N S) = false → zTo vL_leads rL_leads (4, [some (.ref 0), some (.int (nI a)), some (.int (nI b)), some (.int (nI S)), some (.int (zb (nany (fun d => nopen N d (nkeys N S) (ncoins N S) && ndgo N d a b) k))), some (.int (nI (k + 1))), none], [], h) (fun y => y = (.inl (some (.int (zb ((nld N S a).testBit b)))), h)) := by
        intro e
        rw [e, Bool.false_and, Bool.or_false] at ih; exact ih
      -- the second stop
      have st21 : ¬ (N (49 + 5 * k) = a ∧ N (50 + 5 * k) = b) → zTo vL_leads rL_leads (21, [some (.ref 0), some (.int (nI a)), some (.int (nI b)), some (.int (nI S)), some (.int (zb (nany (fun d => nopen N d (nkeys N S) (ncoins N S) && ndgo N d a b) k))), some (.int (nI k)), none], [], h) (fun y => y = (.inl (some (.int (zb ((nld N S a).testBit b)))), h)) := by
        intro ne
        refine zTo_of gL_leads_21 ?_
        by_cases w4 : N (53 + 5 * k) = 0
        · have t4 : (N (53 + 5 * k) = 0) = True := eq_true w4
          by_cases w1 : N (50 + 5 * k) = a
          · have t1 : (N (50 + 5 * k) = a) = True := eq_true w1
            by_cases w0 : N (49 + 5 * k) = b
            · have t0 : (N (49 + 5 * k) = b) = True := eq_true w0
              have g : ndgo N k a b = true := by unfold ndgo; simp [w4, w1, w0]
              cases eo : nopen N k (nkeys N S) (ncoins N S) with
              | true =>
                simp only [q0, d4, e4, t4, d1, e10, t1, d0, e01, t0, i1, op, eo, zb_0, zb_or1, f4, zmp_s, zlt_s, zcV_s, zcI_s, zcJ_s, zcA_s, zcD_s, zcF_s, zth_n, zth_t, zrt_s, zQ_l, zQ_r, false_or, or_false, true_or, or_true, false_and, and_false, not_false_eq_true, not_true_eq_false, and_self, true_and, and_true, if_true, if_false, ite_true, ite_false, zgd_t]
                exact yes g eo
              | false =>
                simp only [q0, d4, e4, t4, d1, e10, t1, d0, e01, t0, i1, op, eo, zb_0, zb_or0, f4, zmp_s, zlt_s, zcV_s, zcI_s, zcJ_s, zcA_s, zcD_s, zcF_s, zth_n, zth_t, zrt_s, zQ_l, zQ_r, false_or, or_false, true_or, or_true, false_and, and_false, not_false_eq_true, not_true_eq_false, and_self, true_and, and_true, if_true, if_false, ite_true, ite_false, zgd_t]
                exact shut eo
            · have t0 : (N (49 + 5 * k) = b) = False := eq_false w0
              have g : ndgo N k a b = false := by
                unfold ndgo
                simp only [Bool.or_eq_false_iff, Bool.and_eq_false_iff, decide_eq_false_iff_not]
                omega
              simp only [q0, d4, e4, t4, d1, e10, t1, d0, e01, t0, i0, zb_or0, f4, zmp_s, zlt_s, zcV_s, zcI_s, zcJ_s, zcA_s, zcD_s, zcF_s, zth_n, zth_t, zrt_s, zQ_l, zQ_r, false_or, or_false, true_or, or_true, false_and, and_false, not_false_eq_true, not_true_eq_false, and_self, true_and, and_true, if_true, if_false, ite_true, ite_false, zgd_t]
              exact no g
          · have t1 : (N (50 + 5 * k) = a) = False := eq_false w1
            have g : ndgo N k a b = false := by
              unfold ndgo
              simp only [Bool.or_eq_false_iff, Bool.and_eq_false_iff, decide_eq_false_iff_not]
              omega
            simp only [q0, d4, e4, t4, d1, e10, t1, i0, zb_or0, f4, zmp_s, zlt_s, zcV_s, zcI_s, zcJ_s, zcA_s, zcD_s, zcF_s, zth_n, zth_t, zrt_s, zQ_l, zQ_r, false_or, or_false, true_or, or_true, false_and, and_false, not_false_eq_true, not_true_eq_false, and_self, true_and, and_true, if_true, if_false, ite_true, ite_false, zgd_t]
            exact no g
        · have t4 : (N (53 + 5 * k) = 0) = False := eq_false w4
          have g : ndgo N k a b = false := by
            unfold ndgo
            simp only [Bool.or_eq_false_iff, Bool.and_eq_false_iff, decide_eq_false_iff_not]
            omega
          simp only [q0, d4, e4, t4, i0, zb_or0, f4, zmp_s, zlt_s, zcV_s, zcI_s, zcJ_s, zcA_s, zcD_s, zcF_s, zth_n, zth_t, zrt_s, zQ_l, zQ_r, false_or, or_false, true_or, or_true, false_and, and_false, not_false_eq_true, not_true_eq_false, and_self, true_and, and_true, if_true, if_false, ite_true, ite_false, zgd_t]
          exact no g
      by_cases w0 : N (49 + 5 * k) = a
      · have t0 : (N (49 + 5 * k) = a) = True := eq_true w0
        by_cases w1 : N (50 + 5 * k) = b
        · have t1 : (N (50 + 5 * k) = b) = True := eq_true w1
          have g : ndgo N k a b = true := by unfold ndgo; simp [w0, w1]
          cases eo : nopen N k (nkeys N S) (ncoins N S) with
          | true =>
            simp only [q0, p1, f1, d0, e00, t0, d1, e11, t1, i1, op, eo, zb_0, zb_or1, f4, zmp_s, zlt_s, zcV_s, zcI_s, zcJ_s, zcA_s, zcD_s, zcF_s, zth_n, zth_t, zrt_s, zQ_l, zQ_r, false_or, or_false, true_or, or_true, false_and, and_false, not_false_eq_true, not_true_eq_false, and_self, true_and, and_true, if_true, if_false, ite_true, ite_false, zgd_t]
            exact yes g eo
          | false =>
            simp only [q0, p1, f1, d0, e00, t0, d1, e11, t1, i1, op, eo, zb_0, zb_or0, f4, zmp_s, zlt_s, zcV_s, zcI_s, zcJ_s, zcA_s, zcD_s, zcF_s, zth_n, zth_t, zrt_s, zQ_l, zQ_r, false_or, or_false, true_or, or_true, false_and, and_false, not_false_eq_true, not_true_eq_false, and_self, true_and, and_true, if_true, if_false, ite_true, ite_false, zgd_t]
            exact shut eo
        · have t1 : (N (50 + 5 * k) = b) = False := eq_false w1
          simp only [q0, p1, f1, d0, e00, t0, d1, e11, t1, zmp_s, zlt_s, zcV_s, zcI_s, zcJ_s, zcA_s, zcD_s, zcF_s, zth_n, zth_t, zrt_s, zQ_l, zQ_r, false_or, or_false, true_or, or_true, false_and, and_false, not_false_eq_true, not_true_eq_false, and_self, true_and, and_true, if_true, if_false, ite_true, ite_false, zgd_t]
          exact st21 (fun q => w1 q.2)
      · have t0 : (N (49 + 5 * k) = a) = False := eq_false w0
        simp only [q0, p1, f1, d0, e00, t0, zmp_s, zlt_s, zcV_s, zcI_s, zcJ_s, zcA_s, zcD_s, zcF_s, zth_n, zth_t, zrt_s, zQ_l, zQ_r, false_or, or_false, true_or, or_true, false_and, and_false, not_false_eq_true, not_true_eq_false, and_self, true_and, and_true, if_true, if_false, ite_true, ite_false, zgd_t]
        exact st21 (fun q => w0 q.1)
  exact key (N 1) 0 (by omega)
end
end ZLQ
