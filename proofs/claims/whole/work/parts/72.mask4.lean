/-! THE MODEL: where the walk can come; places; coins; rounds; shares. -/
section ZMK
-- sets that grow
theorem npc_sub {S T n : Nat} (hT : T < 2 ^ n) (hs : ∀ i, S.testBit i = true → T.testBit i = true) : npc S n ≤ npc T n := by
  unfold npc
  refine zsu_le n (fun i _ => ?_)
  cases q : S.testBit i
  · simp
  · rw [hs i q]; simp
theorem npc_grow {S T n : Nat} (hT : T < 2 ^ n) (hs : ∀ i, S.testBit i = true → T.testBit i = true) (hne : T ≠ S) : npc S n + 1 ≤ npc T n := by
  have : ∃ i, T.testBit i = true ∧ S.testBit i = false := by
    refine Classical.byContradiction (fun no => hne (nat_ext (fun i => ?_)))
    cases q : T.testBit i
    · cases w : S.testBit i
      · rfl
      · rw [hs i w] at q; cases q
    · cases w : S.testBit i
      · exact absurd ⟨i, q, w⟩ no
      · rfl
  obtain ⟨i, h1, h2⟩ := this
  have hi : i < n := by
    rcases Nat.lt_or_ge i n with q | q
    · exact q
    · rw [tb_big hT q] at h1; cases h1
  rw [← npc_or n hi h2]
  refine npc_sub hT (fun j hj => ?_)
  rw [tb_or] at hj
  by_cases e : i = j
  · rw [← e]; exact h1
  · have : S.testBit j = true := by simpa [e] using hj
    exact hs j this
theorem nEnt_sub (N : zLv) (S : Nat) {i : Nat} (h : S.testBit i = true) : ∀ n, (nEnt N S n).testBit i = true := by
  intro n
  unfold nEnt
  refine zfo_ind (fun x => Nat.testBit x i = true) h n (fun r x _ hx => ?_)
  split
  · rw [Nat.testBit_or, hx]; rfl
  · exact hx
theorem nRc_s (N : zLv) (k : Nat) : nRc N (k + 1) = nEnt N (nRc N k) (N 0) := rfl
theorem nRc_fix {N : zLv} {k : Nat} (e : nRc N (k + 1) = nRc N k) : ∀ d, nRc N (k + d) = nRc N k := by
  intro d
  induction d with
  | zero => rfl
  | succ d ih => rw [show k + (d + 1) = k + d + 1 by omega, nRc_s, ih, ← nRc_s, e]
section
variable {h : zm_H} {N : zLv}
theorem reach_row (c : MI h N) {S : Nat} (hS : S < 2 ^ N 0) {R : zm_O → Prop} (k : zTo vX6_reachable rX6_reachable (12, [some (.ref 125), some (.int (nI (nEnt N S (N 0)))), some (.int (nI S)), none], [], h) R) : zTo vX6_reachable rX6_reachable (19, [some (.ref 125), some (.int (nI S)), some (.int (nI S)), some (.int 0)], [], h) R := by
  have hW := c.2.2.1
  have h0 := hW.1
  have hp := pow_le h0
  have m1 := c.1.1
  refine zTo_for (f := fun r => (19, [some (.ref 125), some (.int (nI (nEnt N S r))), some (.int (nI S)), some (.int (nI r))], [], h)) (N 0) 0 (Nat.zero_le _) (fun r _ hr => ?_) (zTo_of gX6_reachable_19 ?_)
  · obtain ⟨f1, f2, f3, f4⟩ := nI_for hr (by omega)
    have e : nEnt N S (r + 1) = if S.testBit r = true then nEnt N S r ||| nld N S r else nEnt N S r := rfl
    simp only [gX6_reachable_19, m1, r_rooms c.1 c.2.1, f1, f4, r_has (show S < 2 ^ 31 by omega) (show r < 32 by omega), zb_0, or_0, r_leads c.1 c.2.1 hW (show S < 2 ^ 31 by omega) (show r < 2 ^ 31 by omega), nx_or, e, zmp_s, zlt_s, zcV_s, zcI_s, zcJ_s, zcA_s, zcD_s, zcF_s, zth_n, zth_t, zrt_s, zQ_l, zQ_r, false_or, or_false, true_or, or_true, false_and, and_false, not_false_eq_true, not_true_eq_false, and_self, true_and, and_true, if_true, if_false, ite_true, ite_false, zgd_t]
    cases S.testBit r <;> simp
  · simp only [m1, r_rooms c.1 c.2.1, nI_le (Nat.le_refl _) (show N 0 < 2 ^ 31 by omega), zmp_s, zlt_s, zcV_s, zcI_s, zcJ_s, zcA_s, zcD_s, zcF_s, zth_n, zth_t, zrt_s, zQ_l, zQ_r, false_or, or_false, true_or, or_true, false_and, and_false, not_false_eq_true, not_true_eq_false, and_self, true_and, and_true, if_true, if_false, ite_true, ite_false, zgd_t]
    exact k
theorem r_reachable (c : MI h N) : MR (sX6_reachable [.ref 125] h) (some (.int (nI (nRc N (N 0))))) 0 (MZ N h) := by
  have c1 := c.go (MZ.th c 0)
  have hF := c.2.2
  have hW := hF.1
  have h0 := hW.1
  have hp := pow_le h0
  have h2 := hF.2.2.1
  have l2 := c1.2.1.at (i := 2) (by omega) (by omega)
  have m1 := c1.1
  have lt := fun k => nRc_lt hW h2 k
  have a0 := c.1.1
  refine ⟨zsI h 125 0 0, ?_, MZ.th c 0, th_0⟩
  refine zsem_eq (Nat.le_of_ble_eq_true rfl) (zTo_of gX6_reachable_0 ?_)
  simp only [a0, m1.1, m1.2.2.2.1, m1.2.2.2.2.2.2.2.2.2.2.2.2.2.2.2.2.1, c_2, p_2, l2, show ¬ 149 ≤ 2 by omega, nx_shl1 (show N 2 < 32 by omega), zmp_s, zlt_s, zcV_s, zcI_s, zcJ_s, zcA_s, zcD_s, zcF_s, zth_n, zth_t, zrt_s, zQ_l, zQ_r, false_or, or_false, true_or, or_true, false_and, and_false, not_false_eq_true, not_true_eq_false, and_self, true_and, and_true, if_true, if_false, ite_true, ite_false, zgd_t]
  have key : ∀ d k B, k + d = N 0 → k + 1 ≤ npc (nRc N k) (N 0) → nRc N k ≠ B → B < 2 ^ 31 → zTo vX6_reachable rX6_reachable (12, [some (.ref 125), some (.int (nI (nRc N k))), some (.int (nI B)), none], [], zsI h 125 0 0) (fun y => y = (.inl (some (.int (nI (nRc N (N 0))))), zsI h 125 0 0)) := by
    intro d
    induction d with
    | zero =>
      intro k B hk hn
      have := npc_le (nRc N k) (N 0)
      omega
    | succ d ih =>
      intro k B hk hn hB hB2
      have lk := lt k
      refine zTo_of gX6_reachable_12 ?_
      simp only [nI_eq (show nRc N k < 2 ^ 31 by omega) hB2, hB, zmp_s, zlt_s, zcV_s, zcI_s, zcJ_s, zcA_s, zcD_s, zcF_s, zth_n, zth_t, zrt_s, zQ_l, zQ_r, false_or, or_false, true_or, or_true, false_and, and_false, not_false_eq_true, not_true_eq_false, and_self, true_and, and_true, if_true, if_false, ite_true, ite_false]
      refine reach_row c1 lk ?_
      rw [← nRc_s]
      by_cases e : nRc N (k + 1) = nRc N k
      · have fx := nRc_fix e (d + 1)
        rw [hk] at fx
        rw [e]
        refine zTo_of gX6_reachable_12 ?_
        simp only [zmp_s, zlt_s, zcV_s, zcI_s, zcJ_s, zcA_s, zcD_s, zcF_s, zth_n, zth_t, zrt_s, zQ_l, zQ_r, false_or, or_false, true_or, or_true, false_and, and_false, not_false_eq_true, not_true_eq_false, and_self, true_and, and_true, if_true, if_false, ite_true, ite_false, fx]
      · have gr := npc_grow (lt (k + 1)) (fun i hi => by rw [nRc_s]; exact nEnt_sub N _ hi _) e
        exact ih (k + 1) _ (by omega) (by omega) e (by omega)
  have e0 : nRc N 0 = 2 ^ N 2 := rfl
  have := key (N 0) 0 0 (by omega) (by rw [e0, npc_1 h2]; omega) (by rw [e0]; exact Nat.ne_of_gt (Nat.two_pow_pos _)) (by omega)
  exact this
-- places
theorem nWW_0 {S0 a0 S a : Nat} (h0 : S0.testBit a0 = true) (hb : S.testBit a = false) : nWW N S0 a0 S a = 0 := by
  rcases Nat.eq_zero_or_pos (nWW N S0 a0 S a) with e | e
  · exact e
  · rw [nW_bit h0 e] at hb; cases hb
/-- tours and walks laid -/
def BX (h g : zm_H) (N : zLv) : Prop := MZ N h g ∧ zI g 125 0 = zI h 125 0 ∧ NXT g N (2 ^ N 0) ∧ CMS g (N 0) (nWW N (2 ^ N 2) (N 2)) ∧ WY g N
theorem t_both (c : MI h N) : ∃ g k, sX6_toursNow [.ref 125] h = some (.inl (some (.long (lN (nTo N)))), g) ∧ MI g N ∧ sX6_layComes [.ref 125] g = some (.inl none, k) ∧ BX h k N := by
  obtain ⟨g, e1, w⟩ := t_now c
  have c1 := c.go w.1
  obtain ⟨k, e2, w2⟩ := t_comes c1
  exact ⟨g, k, e1, c1, e2, w.1.tr w2.1, by rw [w2.2.1, w.2.1], w2.2.2.1, w2.2.2.2.1, WY_fr w2.2.2.2.2 (by unfold cmA; omega) w.2.2.2⟩
theorem nSum_e (F : Nat → Nat) : nSum N F = zsu (fun i => F (i + 1)) (2 ^ N 0 - 1) := rfl
theorem t_timesAt (c : MI h N) {r p : Nat} (hr : r < N 0) (hp0 : p < N 0) : ∃ g, sX6_timesAt [.ref 125, .int (nI r), .int (nI p)] h = some (.inl (some (.long (lN (nAt N r p)))), g) ∧ MZ N h g ∧ zI g 125 0 = zI h 125 0 := by
  obtain ⟨g, k, e1, c1, e2, w⟩ := t_both c
  have c2 := c.go w.1
  have hF := c.2.2
  have hW := hF.1
  have h0 := hW.1
  have hp := pow_le h0
  refine ⟨k, ?_, w.1, w.2.1⟩
  refine zsem_eq (Nat.le_of_ble_eq_true rfl) (zTo_of gX6_timesAt_0 ?_)
  simp only [c.1.1, e1, c1.1.1, e2, zmp_s, zlt_s, zcV_s, zcI_s, zcJ_s, zcA_s, zcD_s, zcF_s, zth_n, zth_t, zrt_s, zQ_l, zQ_r, false_or, or_false, true_or, or_true, false_and, and_false, not_false_eq_true, not_true_eq_false, and_self, true_and, and_true, if_true, if_false, ite_true, ite_false, zgd_t]
  unfold nAt
  rw [nSum_e]
  obtain ⟨F, hFF⟩ : ∃ F : Nat → Nat, F = fun i => (fun S => if npc S 11 = p + 1 then nWW N (2 ^ N 2) (N 2) S r * nTT N S r else 0) (i + 1) := ⟨_, rfl⟩
  rw [← hFF]
  have one := Nat.one_le_two_pow (n := N 0)
  have e0 : ∀ x, lN x + (0 : Int64) = lN x := fun x => lN_add x 0
  have key : ∀ d i, i + d = 2 ^ N 0 - 1 → zTo vX6_timesAt rX6_timesAt (9, [some (.ref 125), some (.int (nI r)), some (.int (nI p)), none, none, some (.long (lN (zsu F i))), none, some (.int (nI (i + 1)))], [], k) (fun y => y = (.inl (some (.long (lN (zsu F (2 ^ N 0 - 1))))), k)) := by
    intro d
    induction d with
    | zero =>
      intro i hi
      have hi : i = 2 ^ N 0 - 1 := by omega
      subst hi
      refine zTo_of gX6_timesAt_9 ?_
      simp only [c2.1.1, r_whole c2.1 c2.2.1 h0, nI_lt (show 2 ^ N 0 - 1 < 2 ^ N 0 - 1 + 1 by omega) (show 2 ^ N 0 - 1 + 1 < 2 ^ 31 by omega), zmp_s, zlt_s, zcV_s, zcI_s, zcJ_s, zcA_s, zcD_s, zcF_s, zth_n, zth_t, zrt_s, zQ_l, zQ_r, false_or, or_false, true_or, or_true, false_and, and_false, not_false_eq_true, not_true_eq_false, and_self, true_and, and_true, if_true, if_false, ite_true, ite_false, zgd_t]
    | succ d ih =>
      intro i hi
      have hS : i + 1 < 2 ^ N 0 := by omega
      have nx := ih (i + 1) (by omega)
      have fi : F i = if npc (i + 1) 11 = p + 1 then nWW N (2 ^ N 2) (N 2) (i + 1) r * nTT N (i + 1) r else 0 := by rw [hFF]
      rw [zsu_s, fi] at nx
      have cv := w.2.2.2.1 (i + 1) r hS hr
      have yv := w.2.2.2.2 (i + 1) r (by omega) hS hr
      have ol := npc_le (i + 1) 11
      refine zTo_of gX6_timesAt_9 ?_
      simp only [c2.1.1, r_whole c2.1 c2.2.1 h0, nI_ltI (show 2 ^ N 0 - 1 < 2 ^ 31 by omega) (show i + 1 < 2 ^ 31 by omega), show ¬ 2 ^ N 0 - 1 < i + 1 by omega, r_has (show i + 1 < 2 ^ 31 by omega) (show r < 32 by omega), zb_0, r_ones (show i + 1 < 2048 by omega), nI_1, nI_eq (show npc (i + 1) 11 < 2 ^ 31 by omega) (show p + 1 < 2 ^ 31 by omega), r_comesTo c2.1 (show i + 1 < 2048 by omega) (show r < 11 by omega), r_waysOf c2.1 (show i + 1 < 2048 by omega) (show r < 11 by omega), cv, yv, lN_mul, lN_add, e0, zmp_s, zlt_s, zcV_s, zcI_s, zcJ_s, zcA_s, zcD_s, zcF_s, zth_n, zth_t, zrt_s, zQ_l, zQ_r, false_or, or_false, true_or, or_true, false_and, and_false, not_false_eq_true, not_true_eq_false, and_self, true_and, and_true, if_true, if_false, ite_true, ite_false, zgd_t]
      cases b : (i + 1).testBit r
      · have z : nWW N (2 ^ N 2) (N 2) (i + 1) r = 0 := nWW_0 hF.bit.2 b
        simp only [false_or, or_false, true_or, or_true, false_and, and_false, not_false_eq_true, not_true_eq_false, and_self, true_and, and_true, if_true, if_false, ite_true, ite_false, zmp_s, zlt_s, zcV_s, zcI_s, zcJ_s, zcA_s, zcD_s, zcF_s, zth_n, zth_t, zrt_s, zQ_l, zQ_r]
        rw [z, Nat.zero_mul, ite_self] at nx
        exact nx
      · simp only [Bool.true_eq_false, false_or, or_false, true_or, or_true, false_and, and_false, not_false_eq_true, not_true_eq_false, and_self, true_and, and_true, if_true, if_false, ite_true, ite_false, zmp_s, zlt_s, zcV_s, zcI_s, zcJ_s, zcA_s, zcD_s, zcF_s, zth_n, zth_t, zrt_s, zQ_l, zQ_r]
        unfold nWy
        rw [if_pos b]
        by_cases q : npc (i + 1) 11 = p + 1
        · simp only [q, false_or, or_false, true_or, or_true, false_and, and_false, not_false_eq_true, not_true_eq_false, and_self, true_and, and_true, if_true, if_false, ite_true, ite_false, zmp_s, zlt_s, zcV_s, zcI_s, zcJ_s, zcA_s, zcD_s, zcF_s, zth_n, zth_t, zrt_s, zQ_l, zQ_r] at nx ⊢
          exact nx
        · simp only [q, false_or, or_false, true_or, or_true, false_and, and_false, not_false_eq_true, not_true_eq_false, and_self, true_and, and_true, if_true, if_false, ite_true, ite_false, zmp_s, zlt_s, zcV_s, zcI_s, zcJ_s, zcA_s, zcD_s, zcF_s, zth_n, zth_t, zrt_s, zQ_l, zQ_r] at nx ⊢
          exact nx
  exact key (2 ^ N 0 - 1) 0 (by omega)
theorem r_atPlace (c : MI h N) {r p : Nat} (hr : r < N 0) (hp : p < N 0) : MR (sX6_atPlace [.ref 125, .int (nI r), .int (nI p)] h) (some (.long (lN (nAt N r p)))) 0 (MZ N h) := by
  have c1 := c.go (MZ.th c 0)
  obtain ⟨g, e1, w, w2⟩ := t_timesAt c1 hr hp
  have h0 := c.2.2.1.1
  refine ⟨g, ?_, (MZ.th c 0).tr w, by rw [w2, th_0]⟩
  refine zsem_eq (Nat.le_of_ble_eq_true rfl) (zTo_of gX6_atPlace_0 ?_)
  simp only [c.1.1, r_isRoom c.1 c.2.1 h0 hr, r_isRoom c.1 c.2.1 h0 hp, p2_t c.1, i10, c1.1.1, e1, zmp_s, zlt_s, zcV_s, zcI_s, zcJ_s, zcA_s, zcD_s, zcF_s, zth_n, zth_t, zrt_s, zQ_l, zQ_r, false_or, or_false, true_or, or_true, false_and, and_false, not_false_eq_true, not_true_eq_false, and_self, true_and, and_true, if_true, if_false, ite_true, ite_false, zgd_t]
theorem r_roomB (c : MI h N) (y : Int32) : ∃ b, sX6_isRoom [.ref 125, .int y] h = some (.inl (some (.int (zb b))), h) := by
  have h0 := c.2.2.1.1
  by_cases w : y < 0 ∨ nI (N 0) ≤ y
  · exact ⟨false, r_isRoomX c.1 c.2.1 h0 w⟩
  · have w1 : ¬ y < 0 := fun x => w (Or.inl x)
    obtain ⟨j, hj, rfl⟩ := nI_of w1
    have w2 : j < N 0 := by
      have : ¬ nI (N 0) ≤ nI j := fun x => w (Or.inr x)
      rw [nI_leI (by omega) hj] at this
      omega
    exact ⟨true, r_isRoom c.1 c.2.1 h0 w2⟩
theorem r_atPlaceX (c : MI h N) {x y : Int32} (hx : x < 0 ∨ nI (N 0) ≤ x) : MR (sX6_atPlace [.ref 125, .int x, .int y] h) (some (.long 0)) 1 (MZ N h) := by
  refine ⟨zsI h 125 0 1, ?_, MZ.th c 1, th_0⟩
  obtain ⟨b, e⟩ := r_roomB c y
  refine zsem_eq (Nat.le_of_ble_eq_true rfl) (zTo_of gX6_atPlace_0 ?_)
  simp only [c.1.1, r_isRoomX c.1 c.2.1 c.2.2.1.1 hx, e, p2_1 c.1, zmp_s, zlt_s, zcV_s, zcI_s, zcJ_s, zcA_s, zcD_s, zcF_s, zth_n, zth_t, zrt_s, zQ_l, zQ_r, false_or, or_false, true_or, or_true, false_and, and_false, not_false_eq_true, not_true_eq_false, and_self, true_and, and_true, if_true, if_false, ite_true, ite_false, zgd_t]
theorem r_atPlaceY (c : MI h N) {r : Nat} {y : Int32} (hr : r < N 0) (hy : y < 0 ∨ nI (N 0) ≤ y) : MR (sX6_atPlace [.ref 125, .int (nI r), .int y] h) (some (.long 0)) 2 (MZ N h) := by
  refine ⟨zsI h 125 0 2, ?_, MZ.th c 2, th_0⟩
  refine zsem_eq (Nat.le_of_ble_eq_true rfl) (zTo_of gX6_atPlace_0 ?_)
  simp only [c.1.1, r_isRoom c.1 c.2.1 c.2.2.1.1 hr, r_isRoomX c.1 c.2.1 c.2.2.1.1 hy, p2_2 c.1, zmp_s, zlt_s, zcV_s, zcI_s, zcJ_s, zcA_s, zcD_s, zcF_s, zth_n, zth_t, zrt_s, zQ_l, zQ_r, false_or, or_false, true_or, or_true, false_and, and_false, not_false_eq_true, not_true_eq_false, and_self, true_and, and_true, if_true, if_false, ite_true, ite_false, zgd_t]
theorem r_share (c : MI h N) {r p : Nat} (hr : r < N 0) (hp : p < N 0) : MR (sX6_share [.ref 125, .int (nI r), .int (nI p)] h) (some (.double (nSh N r p))) 0 (MZ N h) := by
  have c1 := c.go (MZ.th c 0)
  obtain ⟨g, e1, w⟩ := t_now c1
  have c2 := c1.go w.1
  have h0 := c.2.2.1.1
  have tl := nTo_lt c.2.2
  have hz := lgeq0 (show nTo N < 2 ^ 63 by omega)
  unfold nSh
  by_cases z : nTo N = 0
  · rw [if_pos z]
    refine ⟨g, ?_, (MZ.th c 0).tr w.1, by rw [w.2.1, th_0]⟩
    refine zsem_eq (Nat.le_of_ble_eq_true rfl) (zTo_of gX6_share_0 ?_)
    simp only [c.1.1, r_isRoom c.1 c.2.1 h0 hr, r_isRoom c.1 c.2.1 h0 hp, p2_t c.1, i10, c1.1.1, e1, hz, eq_true z, zmp_s, zlt_s, zcV_s, zcI_s, zcJ_s, zcA_s, zcD_s, zcF_s, zth_n, zth_t, zrt_s, zQ_l, zQ_r, false_or, or_false, true_or, or_true, false_and, and_false, not_false_eq_true, not_true_eq_false, and_self, true_and, and_true, if_true, if_false, ite_true, ite_false, zgd_t]
  · rw [if_neg z]
    obtain ⟨k, e2, w2, w3⟩ := t_timesAt c2 hr hp
    have ti := lN_toInt63 (n := nTo N) (by omega)
    have dn := ddiv_num (x := lN (nAt N r p)) (y := lN (nTo N)) (fun e => by rw [e] at ti; have : (0 : Int64).toInt = 0 := rfl; omega) (by rw [ti]; omega)
    refine ⟨k, ?_, ((MZ.th c 0).tr w.1).tr w2, by rw [w3, w.2.1, th_0]⟩
    refine zsem_eq (Nat.le_of_ble_eq_true rfl) (zTo_of gX6_share_0 ?_)
    simp only [c.1.1, r_isRoom c.1 c.2.1 h0 hr, r_isRoom c.1 c.2.1 h0 hp, p2_t c.1, i10, c1.1.1, e1, hz, eq_false z, c2.1.1, e2, dn, zmp_s, zlt_s, zcV_s, zcI_s, zcJ_s, zcA_s, zcD_s, zcF_s, zth_n, zth_t, zrt_s, zQ_l, zQ_r, false_or, or_false, true_or, or_true, false_and, and_false, not_false_eq_true, not_true_eq_false, and_self, true_and, and_true, if_true, if_false, ite_true, ite_false, zgd_t]
theorem r_shareX (c : MI h N) {x y : Int32} (hx : x < 0 ∨ nI (N 0) ≤ x) : MR (sX6_share [.ref 125, .int x, .int y] h) (some (.double Jvm.FP.dconst0)) 1 (MZ N h) := by
  refine ⟨zsI h 125 0 1, ?_, MZ.th c 1, th_0⟩
  obtain ⟨b, e⟩ := r_roomB c y
  refine zsem_eq (Nat.le_of_ble_eq_true rfl) (zTo_of gX6_share_0 ?_)
  simp only [c.1.1, r_isRoomX c.1 c.2.1 c.2.2.1.1 hx, e, p2_1 c.1, zmp_s, zlt_s, zcV_s, zcI_s, zcJ_s, zcA_s, zcD_s, zcF_s, zth_n, zth_t, zrt_s, zQ_l, zQ_r, false_or, or_false, true_or, or_true, false_and, and_false, not_false_eq_true, not_true_eq_false, and_self, true_and, and_true, if_true, if_false, ite_true, ite_false, zgd_t]
theorem r_shareY (c : MI h N) {r : Nat} {y : Int32} (hr : r < N 0) (hy : y < 0 ∨ nI (N 0) ≤ y) : MR (sX6_share [.ref 125, .int (nI r), .int y] h) (some (.double Jvm.FP.dconst0)) 2 (MZ N h) := by
  refine ⟨zsI h 125 0 2, ?_, MZ.th c 2, th_0⟩
  refine zsem_eq (Nat.le_of_ble_eq_true rfl) (zTo_of gX6_share_0 ?_)
  simp only [c.1.1, r_isRoom c.1 c.2.1 c.2.2.1.1 hr, r_isRoomX c.1 c.2.1 c.2.2.1.1 hy, p2_2 c.1, zmp_s, zlt_s, zcV_s, zcI_s, zcJ_s, zcA_s, zcD_s, zcF_s, zth_n, zth_t, zrt_s, zQ_l, zQ_r, false_or, or_false, true_or, or_true, false_and, and_false, not_false_eq_true, not_true_eq_false, and_self, true_and, and_true, if_true, if_false, ite_true, ite_false, zgd_t]
theorem r_shown (c : MI h N) : MR (sX6_shown [.ref 125] h) (some (.float (Jvm.FP.fdiv (Jvm.FP.i2f (nI (N 4))) (Jvm.FP.i2f (nI (N 0)))))) 0 (MZ N h) := by
  have c1 := c.go (MZ.th c 0)
  have hF := c.2.2
  have hW := hF.1
  have n1 := hF.2.1
  have m1 := c1.1
  have l4 := c1.2.1.at (i := 4) (by omega) (by omega)
  have dn := (shown_all (N 4) (by have := hW.2.2.1; omega) (N 0) (by have := hW.1; omega)).resolve_left (by omega)
  refine ⟨zsI h 125 0 0, ?_, MZ.th c 0, th_0⟩
  refine zsem_eq (Nat.le_of_ble_eq_true rfl) (zTo_of gX6_shown_0 ?_)
  simp only [c.1.1, m1.1, m1.2.2.2.1, m1.2.2.2.2.2.2.2.2.2.2.2.2.2.2.2.2.1, c_4, p_4, l4, show ¬ 149 ≤ 4 by omega, r_rooms c1.1 c1.2.1, dn, zmp_s, zlt_s, zcV_s, zcI_s, zcJ_s, zcA_s, zcD_s, zcF_s, zth_n, zth_t, zrt_s, zQ_l, zQ_r, false_or, or_false, true_or, or_true, false_and, and_false, not_false_eq_true, not_true_eq_false, and_self, true_and, and_true, if_true, if_false, ite_true, ite_false, zgd_t]
-- two rooms
theorem r_areTwo (c : MI h N) {r o : Nat} (hr : r < N 0) (ho : o < N 0) : sX6_areTwo [.ref 125, .int (nI r), .int (nI o)] h = some (.inl (some (.int 1)), h) := by
  have h0 := c.2.2.1.1
  refine zsem_eq (Nat.le_of_ble_eq_true rfl) (zTo_of gX6_areTwo_0 ?_)
  simp only [c.1.1, r_isRoom c.1 c.2.1 h0 hr, r_isRoom c.1 c.2.1 h0 ho, i10, zmp_s, zlt_s, zcV_s, zcI_s, zcJ_s, zcA_s, zcD_s, zcF_s, zth_n, zth_t, zrt_s, zQ_l, zQ_r, false_or, or_false, true_or, or_true, false_and, and_false, not_false_eq_true, not_true_eq_false, and_self, true_and, and_true, if_true, if_false, ite_true, ite_false, zgd_t]
theorem r_areTwoX (c : MI h N) {x y : Int32} (hx : (x < 0 ∨ nI (N 0) ≤ x) ∨ ((∃ r, r < N 0 ∧ x = nI r) ∧ (y < 0 ∨ nI (N 0) ≤ y))) : sX6_areTwo [.ref 125, .int x, .int y] h = some (.inl (some (.int 0)), h) := by
  have h0 := c.2.2.1.1
  refine zsem_eq (Nat.le_of_ble_eq_true rfl) (zTo_of gX6_areTwo_0 ?_)
  rcases hx with q | ⟨⟨r, hr, rfl⟩, q⟩
  · simp only [c.1.1, r_isRoomX c.1 c.2.1 h0 q, zmp_s, zlt_s, zcV_s, zcI_s, zcJ_s, zcA_s, zcD_s, zcF_s, zth_n, zth_t, zrt_s, zQ_l, zQ_r, false_or, or_false, true_or, or_true, false_and, and_false, not_false_eq_true, not_true_eq_false, and_self, true_and, and_true, if_true, if_false, ite_true, ite_false, zgd_t]
  · simp only [c.1.1, r_isRoom c.1 c.2.1 h0 hr, r_isRoomX c.1 c.2.1 h0 q, i10, zmp_s, zlt_s, zcV_s, zcI_s, zcJ_s, zcA_s, zcD_s, zcF_s, zth_n, zth_t, zrt_s, zQ_l, zQ_r, false_or, or_false, true_or, or_true, false_and, and_false, not_false_eq_true, not_true_eq_false, and_self, true_and, and_true, if_true, if_false, ite_true, ite_false, zgd_t]
theorem r_behind (c : MI h N) {r o : Nat} (hr : r < N 0) (ho : o < N 0) (hne : r ≠ o) : MR (sX6_behind [.ref 125, .int (nI r), .int (nI o)] h) (some (.long (lN (nBe N r o)))) 0 (MZ N h) := by
  have c0 := c.go (MZ.th c 0)
  obtain ⟨g, k, e1, c1, e2, w⟩ := t_both c0
  have c2 := c0.go w.1
  have hF := c.2.2
  have hW := hF.1
  have h0 := hW.1
  have hp := pow_le h0
  have one := Nat.one_le_two_pow (n := N 0)
  refine ⟨k, ?_, (MZ.th c 0).tr w.1, by rw [w.2.1, th_0]⟩
  refine zsem_eq (Nat.le_of_ble_eq_true rfl) (zTo_of gX6_behind_0 ?_)
  simp only [c.1.1, r_areTwo c hr ho, nI_eq (show r < 2 ^ 31 by omega) (show o < 2 ^ 31 by omega), hne, p2_t c.1, i10, c0.1.1, e1, c1.1.1, e2, zmp_s, zlt_s, zcV_s, zcI_s, zcJ_s, zcA_s, zcD_s, zcF_s, zth_n, zth_t, zrt_s, zQ_l, zQ_r, false_or, or_false, true_or, or_true, false_and, and_false, not_false_eq_true, not_true_eq_false, and_self, true_and, and_true, if_true, if_false, ite_true, ite_false, zgd_t]
  unfold nBe
  rw [nSum_e]
  obtain ⟨F, hFF⟩ : ∃ F : Nat → Nat, F = fun i => (fun S => nWW N (2 ^ N 2) (N 2) S r * ncn N S r o) (i + 1) := ⟨_, rfl⟩
  rw [← hFF]
  have e0 : ∀ x, lN x + (0 : Int64) = lN x := fun x => lN_add x 0
  have key : ∀ d i, i + d = 2 ^ N 0 - 1 → zTo vX6_behind rX6_behind (24, [some (.ref 125), some (.int (nI r)), some (.int (nI o)), none, none, some (.long (lN (zsu F i))), none, some (.int (nI (i + 1))), none], [], k) (fun y => y = (.inl (some (.long (lN (zsu F (2 ^ N 0 - 1))))), k)) := by
    intro d
    induction d with
    | zero =>
      intro i hi
      have hi : i = 2 ^ N 0 - 1 := by omega
      subst hi
      refine zTo_of gX6_behind_24 ?_
      simp only [c2.1.1, r_whole c2.1 c2.2.1 h0, nI_lt (show 2 ^ N 0 - 1 < 2 ^ N 0 - 1 + 1 by omega) (show 2 ^ N 0 - 1 + 1 < 2 ^ 31 by omega), zmp_s, zlt_s, zcV_s, zcI_s, zcJ_s, zcA_s, zcD_s, zcF_s, zth_n, zth_t, zrt_s, zQ_l, zQ_r, false_or, or_false, true_or, or_true, false_and, and_false, not_false_eq_true, not_true_eq_false, and_self, true_and, and_true, if_true, if_false, ite_true, ite_false, zgd_t]
    | succ d ih =>
      intro i hi
      have hS : i + 1 < 2 ^ N 0 := by omega
      have nx := ih (i + 1) (by omega)
      have fi : F i = nWW N (2 ^ N 2) (N 2) (i + 1) r * ncn N (i + 1) r o := by rw [hFF]
      rw [zsu_s, fi] at nx
      have cv := w.2.2.2.1 (i + 1) r hS hr
      have xv := w.2.2.1 (i + 1) r (by omega) hS hr
      have xl := nxv_lt hW (i + 1) r
      have m2 := c2.1
      refine zTo_of gX6_behind_24 ?_
      simp only [m2.1, r_whole c2.1 c2.2.1 h0, nI_ltI (show 2 ^ N 0 - 1 < 2 ^ 31 by omega) (show i + 1 < 2 ^ 31 by omega), show ¬ 2 ^ N 0 - 1 < i + 1 by omega, r_has (show i + 1 < 2 ^ 31 by omega) (show r < 32 by omega), zb_0, nI_1, e0, m2.2.2.2.2.2.2.2.1, m2.2.2.2.2.2.2.2.2.2.2.2.2.2.2.2.2.2.2.2.2.1, ix11, nI_clamp (show 11 * (i + 1) + r < 2 ^ 31 by omega), nI_lt0 (show 11 * (i + 1) + r < 2 ^ 31 by omega), show ¬ 22528 ≤ 11 * (i + 1) + r by omega, xv, r_has (show nxv N (i + 1) r < 2 ^ 31 by omega) (show o < 32 by omega), nxv_bit (N := N) (S := i + 1) (a := r) (show o < 32 by omega), i10, zmp_s, zlt_s, zcV_s, zcI_s, zcJ_s, zcA_s, zcD_s, zcF_s, zth_n, zth_t, zrt_s, zQ_l, zQ_r, false_or, or_false, true_or, or_true, false_and, and_false, not_false_eq_true, not_true_eq_false, and_self, true_and, and_true, if_true, if_false, ite_true, ite_false, zgd_t]
      cases b : (i + 1).testBit r
      · have z : nWW N (2 ^ N 2) (N 2) (i + 1) r = 0 := nWW_0 hF.bit.2 b
        simp only [false_or, or_false, true_or, or_true, false_and, and_false, not_false_eq_true, not_true_eq_false, and_self, true_and, and_true, if_true, if_false, ite_true, ite_false, zmp_s, zlt_s, zcV_s, zcI_s, zcJ_s, zcA_s, zcD_s, zcF_s, zth_n, zth_t, zrt_s, zQ_l, zQ_r]
        rw [z, Nat.zero_mul] at nx
        exact nx
      · simp only [Bool.true_eq_false, false_or, or_false, true_or, or_true, false_and, and_false, not_false_eq_true, not_true_eq_false, and_self, true_and, and_true, if_true, if_false, ite_true, ite_false, zmp_s, zlt_s, zcV_s, zcI_s, zcJ_s, zcA_s, zcD_s, zcF_s, zth_n, zth_t, zrt_s, zQ_l, zQ_r]
        by_cases x : nnx N (i + 1) r o = true
        · have yv := ways_cn hW w.2.2.2.2 hS x
          have ol := or_lt2 hS ho
          simp only [x, Bool.true_eq_false, m2.1, nx_shl1 (show o < 32 by omega), nx_or, r_comesTo c2.1 (show i + 1 < 2048 by omega) (show r < 11 by omega), r_waysOf c2.1 (show (i + 1) ||| 2 ^ o < 2048 by omega) (show o < 11 by omega), cv, yv, lN_mul, lN_add, false_or, or_false, true_or, or_true, false_and, and_false, not_false_eq_true, not_true_eq_false, and_self, true_and, and_true, if_true, if_false, ite_true, ite_false, zmp_s, zlt_s, zcV_s, zcI_s, zcJ_s, zcA_s, zcD_s, zcF_s, zth_n, zth_t, zrt_s, zQ_l, zQ_r, zgd_t]
          exact nx
        · have z : ncn N (i + 1) r o = 0 := by unfold ncn; rw [if_neg x]
          rw [z, Nat.mul_zero] at nx
          have x : nnx N (i + 1) r o = false := by simpa using x
          simp only [x, false_or, or_false, true_or, or_true, false_and, and_false, not_false_eq_true, not_true_eq_false, and_self, true_and, and_true, if_true, if_false, ite_true, ite_false, zmp_s, zlt_s, zcV_s, zcI_s, zcJ_s, zcA_s, zcD_s, zcF_s, zth_n, zth_t, zrt_s, zQ_l, zQ_r]
          exact nx
  exact key (2 ^ N 0 - 1) 0 (by omega)
theorem r_behindS (c : MI h N) {r : Nat} (hr : r < N 0) : MR (sX6_behind [.ref 125, .int (nI r), .int (nI r)] h) (some (.long 0)) 2 (MZ N h) := by
  refine ⟨zsI h 125 0 2, ?_, MZ.th c 2, th_0⟩
  refine zsem_eq (Nat.le_of_ble_eq_true rfl) (zTo_of gX6_behind_0 ?_)
  simp only [c.1.1, r_areTwo c hr hr, p2_2 c.1, zmp_s, zlt_s, zcV_s, zcI_s, zcJ_s, zcA_s, zcD_s, zcF_s, zth_n, zth_t, zrt_s, zQ_l, zQ_r, false_or, or_false, true_or, or_true, false_and, and_false, not_false_eq_true, not_true_eq_false, and_self, true_and, and_true, if_true, if_false, ite_true, ite_false, zgd_t]
theorem r_behindX (c : MI h N) {x y : Int32} (hx : (x < 0 ∨ nI (N 0) ≤ x) ∨ ((∃ r, r < N 0 ∧ x = nI r) ∧ (y < 0 ∨ nI (N 0) ≤ y))) : MR (sX6_behind [.ref 125, .int x, .int y] h) (some (.long 0)) 1 (MZ N h) := by
  refine ⟨zsI h 125 0 1, ?_, MZ.th c 1, th_0⟩
  refine zsem_eq (Nat.le_of_ble_eq_true rfl) (zTo_of gX6_behind_0 ?_)
  by_cases e : x = y
  · subst e
    simp only [c.1.1, r_areTwoX c hx, p2_1 c.1, zmp_s, zlt_s, zcV_s, zcI_s, zcJ_s, zcA_s, zcD_s, zcF_s, zth_n, zth_t, zrt_s, zQ_l, zQ_r, false_or, or_false, true_or, or_true, false_and, and_false, not_false_eq_true, not_true_eq_false, and_self, true_and, and_true, if_true, if_false, ite_true, ite_false, zgd_t]
  · simp only [c.1.1, r_areTwoX c hx, e, p2_1 c.1, zmp_s, zlt_s, zcV_s, zcI_s, zcJ_s, zcA_s, zcD_s, zcF_s, zth_n, zth_t, zrt_s, zQ_l, zQ_r, false_or, or_false, true_or, or_true, false_and, and_false, not_false_eq_true, not_true_eq_false, and_self, true_and, and_true, if_true, if_false, ite_true, ite_false, zgd_t]
end
end ZMK
