/-! A LEVEL OF THE CLASS AS NUMBERS. -/
section ZLEV
abbrev zLv : Type := Nat → Nat
/-- -1 for 0, otherwise one less -/
def eI (n : Nat) : Int32 := nI (n + 4294967295)
theorem eI_0 : eI 0 = -1 := by decide +kernel
theorem eI_s (n : Nat) : eI (n + 1) = nI n := by
  unfold eI
  apply Int32.toBitVec_inj.1
  show BitVec.ofNat 32 (n + 1 + 4294967295) = BitVec.ofNat 32 n
  apply BitVec.eq_of_toNat_eq
  simp only [BitVec.toNat_ofNat]
  omega
/-- a name's letters, packed -/
def pk27 : Nat → Nat → Nat
  | 0, _ => 0
  | f + 1, c => if c = 0 then 0 else pk27 f (c / 27) * 256 + (96 + c % 27)
def pkn (c : Nat) : Nat := pk27 7 c
/-- the objects of a level -/
def lvS (h : zm_H) (a : Nat) : Prop := zK h a = (8, 15) ∧ zP h a 1 = some (a + 1) ∧ zP h a 2 = some (a + 2) ∧ zP h a 3 = some (a + 3) ∧ zP h a 5 = some (a + 4) ∧ zP h a 6 = some (a + 5) ∧ zP h a 7 = some (a + 6) ∧ zP h a 8 = some (a + 7) ∧ zP h a 9 = some (a + 8) ∧ zP h a 12 = some (a + 9) ∧ zP h a 14 = some (a + 10) ∧
  zK h (a + 1) = (1, 11) ∧ zK h (a + 2) = (0, 11) ∧ zK h (a + 3) = (0, 11) ∧ zK h (a + 4) = (0, 20) ∧ zK h (a + 5) = (0, 20) ∧ zK h (a + 6) = (0, 20) ∧ zK h (a + 7) = (0, 20) ∧ zK h (a + 8) = (3, 20) ∧ zK h (a + 9) = (0, 11) ∧ zK h (a + 10) = (0, 11)
/-- what they hold: 0 rooms, 1 doors, 2 start, 3 end and one, 4 rooms of the walk, 5 .. the walk, 16 .. rooms (keys, coins, name), 49 .. doors (from, to, kind, number, oneway) -/
def KL (h : zm_H) (a : Nat) (N : zLv) : Prop :=
  zI h a 0 = nI (N 0) ∧ zI h a 4 = nI (N 1) ∧ zI h a 10 = nI (N 2) ∧ zI h a 11 = eI (N 3) ∧ zI h a 13 = nI (N 4) ∧
  (∀ r, r < N 0 → zJ h (a + 1) r = lN (pkn (N (18 + 3 * r)))) ∧ (∀ r, r < N 0 → zI h (a + 2) r = nI (N (16 + 3 * r))) ∧ (∀ r, r < N 0 → zI h (a + 3) r = nI (N (17 + 3 * r))) ∧
  (∀ d, d < N 1 → zI h (a + 4) d = nI (N (49 + 5 * d))) ∧ (∀ d, d < N 1 → zI h (a + 5) d = nI (N (50 + 5 * d))) ∧ (∀ d, d < N 1 → zI h (a + 6) d = nI (N (51 + 5 * d))) ∧ (∀ d, d < N 1 → zI h (a + 7) d = nI (N (52 + 5 * d))) ∧ (∀ d, d < N 1 → zI h (a + 8) d = nI (N (53 + 5 * d))) ∧
  (∀ k, k < N 4 → zI h (a + 9) k = nI (N (5 + k)))
/-- bounds -/
def WB (N : zLv) : Prop := N 0 ≤ 11 ∧ N 1 ≤ 20 ∧ N 4 ≤ 11 ∧ (∀ r, r < N 0 → N (16 + 3 * r) < 256 ∧ N (17 + 3 * r) ≤ 99) ∧ (∀ d, d < N 1 → N (49 + 5 * d) < N 0 ∧ N (50 + 5 * d) < N 0 ∧ N (49 + 5 * d) ≠ N (50 + 5 * d) ∧ N (51 + 5 * d) ≤ 2 ∧ N (52 + 5 * d) ≤ 999 ∧ (N (51 + 5 * d) = 1 → N (52 + 5 * d) < 8) ∧ N (53 + 5 * d) ≤ 1) ∧ (∀ k, k < N 4 → N (5 + k) < N 0)
def nkeys (N : zLv) (S : Nat) : Nat := zfo (fun r acc => if S.testBit r then acc ||| N (16 + 3 * r) else acc) 0 (N 0)
def ncoins (N : zLv) (S : Nat) : Nat := zfo (fun r acc => if S.testBit r then acc + N (17 + 3 * r) else acc) 0 (N 0)
def nset (N : zLv) : Nat := zfo (fun k acc => acc ||| 2 ^ N (5 + k)) 0 (N 4)
def nopen (N : zLv) (d K C : Nat) : Bool := if N (51 + 5 * d) = 1 then K.testBit (N (52 + 5 * d)) else decide (N (51 + 5 * d) = 0) || decide (N (52 + 5 * d) ≤ C)
theorem nI_for {r n : Nat} (hr : r < n) (hn : n < 2 ^ 31) : (nI n ≤ nI r) = False ∧ (nI r).toNatClampNeg = r ∧ (nI r < 0) = False ∧ nI r + (1 : Int32) = nI (r + 1) := ⟨eq_false (nI_ge hr hn), nI_clamp (by omega), nI_lt0 (by omega), nI_1 r⟩
theorem q_has {s k : Nat} (hs : s < 2 ^ 31) (hk : k < 32) (h : zm_H) : sX5_has [.int (nI s), .int (nI k)] h = some (.inl (some (.int (zb (s.testBit k)))), h) := by
  refine zsem_eq (Nat.le_of_ble_eq_true rfl) (zTo_of gX5_has_0 ?_)
  simp only [nx_bit hs hk, zb_0]
  cases s.testBit k <;> rfl
theorem q_keysIn {h : zm_H} {a : Nat} {N : zLv} {S : Nat} (hS : lvS h a) (hL : KL h a N) (hN : N 0 ≤ 11) (hs : S < 2 ^ 31) : sX2_keysIn [.ref a, .int (nI S)] h = some (.inl (some (.int (nI (nkeys N S)))), h) := by
  obtain ⟨k0, p1, p2, p3, p5, p6, p7, p8, p9, p12, p14, k1, k2, k3, k4, k5, k6, k7, k8, k9, k10⟩ := hS
  obtain ⟨l0, l1, l2, l3, l4, ln, lk, lc, lf, lt, ld, lb, lo, lw⟩ := hL
  refine zsem_eq (Nat.le_of_ble_eq_true rfl) (zTo_of gX2_keysIn_0 (zTo_for (f := fun r => (4, [some (.ref a), some (.int (nI S)), some (.int (nI (zfo (fun r acc => if S.testBit r then acc ||| N (16 + 3 * r) else acc) 0 r))), some (.int (nI r))], [], h)) (N 0) 0 (Nat.zero_le _) (fun r _ hr => ?_) (zTo_of gX2_keysIn_4 ?_)))
  · obtain ⟨f1, f2, f3, f4⟩ := nI_for hr (by omega)
    have f5 : ¬ 11 ≤ r := by omega
    simp only [gX2_keysIn_4, k0, l0, f1, q_has hs (show r < 32 by omega), zfo_s, f4, zb_0, zmp_s, zlt_s, zcV_s, zcI_s, zcJ_s, zcA_s, zcD_s, zcF_s, zth_n, zth_t, zrt_s, zQ_l, zQ_r, false_or, or_false, not_false_eq_true, not_true_eq_false, and_self, true_and, and_true, if_true, if_false, ite_true, ite_false, zgd_t, p2, k2, f2, f3, f5, lk r hr, nx_or]
    cases S.testBit r <;> simp
  · simp only [k0, l0, zgd_t, nI_le (Nat.le_refl _) (show N 0 < 2 ^ 31 by omega), zmp_s, zlt_s, zcV_s, zcI_s, zcJ_s, zcA_s, zcD_s, zcF_s, zth_n, zth_t, zrt_s, zQ_l, zQ_r, false_or, or_false, not_false_eq_true, not_true_eq_false, and_self, true_and, and_true, if_true, if_false, ite_true, ite_false]
    rfl
theorem q_coinsIn {h : zm_H} {a : Nat} {N : zLv} {S : Nat} (hS : lvS h a) (hL : KL h a N) (hN : N 0 ≤ 11) (hs : S < 2 ^ 31) : sX2_coinsIn [.ref a, .int (nI S)] h = some (.inl (some (.int (nI (ncoins N S)))), h) := by
  obtain ⟨k0, p1, p2, p3, p5, p6, p7, p8, p9, p12, p14, k1, k2, k3, k4, k5, k6, k7, k8, k9, k10⟩ := hS
  obtain ⟨l0, l1, l2, l3, l4, ln, lk, lc, lf, lt, ld, lb, lo, lw⟩ := hL
  refine zsem_eq (Nat.le_of_ble_eq_true rfl) (zTo_of gX2_coinsIn_0 (zTo_for (f := fun r => (4, [some (.ref a), some (.int (nI S)), some (.int (nI (zfo (fun r acc => if S.testBit r then acc + N (17 + 3 * r) else acc) 0 r))), some (.int (nI r))], [], h)) (N 0) 0 (Nat.zero_le _) (fun r _ hr => ?_) (zTo_of gX2_coinsIn_4 ?_)))
  · obtain ⟨f1, f2, f3, f4⟩ := nI_for hr (by omega)
    have f5 : ¬ 11 ≤ r := by omega
    simp only [gX2_coinsIn_4, k0, l0, f1, q_has hs (show r < 32 by omega), zfo_s, f4, zb_0, zmp_s, zlt_s, zcV_s, zcI_s, zcJ_s, zcA_s, zcD_s, zcF_s, zth_n, zth_t, zrt_s, zQ_l, zQ_r, false_or, or_false, not_false_eq_true, not_true_eq_false, and_self, true_and, and_true, if_true, if_false, ite_true, ite_false, zgd_t, p3, k3, f2, f3, f5, lc r hr, nI_add]
    cases S.testBit r <;> simp
  · simp only [k0, l0, zgd_t, nI_le (Nat.le_refl _) (show N 0 < 2 ^ 31 by omega), zmp_s, zlt_s, zcV_s, zcI_s, zcJ_s, zcA_s, zcD_s, zcF_s, zth_n, zth_t, zrt_s, zQ_l, zQ_r, false_or, or_false, not_false_eq_true, not_true_eq_false, and_self, true_and, and_true, if_true, if_false, ite_true, ite_false]
    rfl
theorem q_walkSet {h : zm_H} {a : Nat} {N : zLv} (hS : lvS h a) (hL : KL h a N) (hN : N 4 ≤ 11) (hw : ∀ k, k < N 4 → N (5 + k) < 32) : sX2_walkSet [.ref a] h = some (.inl (some (.int (nI (nset N)))), h) := by
  obtain ⟨k0, p1, p2, p3, p5, p6, p7, p8, p9, p12, p14, k1, k2, k3, k4, k5, k6, k7, k8, k9, k10⟩ := hS
  obtain ⟨l0, l1, l2, l3, l4, ln, lk, lc, lf, lt, ld, lb, lo, lw⟩ := hL
  refine zsem_eq (Nat.le_of_ble_eq_true rfl) (zTo_of gX2_walkSet_0 (zTo_for (f := fun r => (4, [some (.ref a), some (.int (nI (zfo (fun k acc => acc ||| 2 ^ N (5 + k)) 0 r))), some (.int (nI r))], [], h)) (N 4) 0 (Nat.zero_le _) (fun r _ hr => ?_) (zTo_of gX2_walkSet_4 ?_)))
  · obtain ⟨f1, f2, f3, f4⟩ := nI_for hr (by omega)
    have f5 : ¬ 11 ≤ r := by omega
    simp only [gX2_walkSet_4, k0, l4, f1, zfo_s, f4, zmp_s, zlt_s, zcV_s, zcI_s, zcJ_s, zcA_s, zcD_s, zcF_s, zth_n, zth_t, zrt_s, zQ_l, zQ_r, false_or, or_false, not_false_eq_true, not_true_eq_false, and_self, true_and, and_true, if_true, if_false, ite_true, ite_false, zgd_t, p12, k9, f2, f3, f5, lw r hr, nx_shl1 (hw r hr), nx_or]
  · simp only [k0, l4, zgd_t, nI_le (Nat.le_refl _) (show N 4 < 2 ^ 31 by omega), zmp_s, zlt_s, zcV_s, zcI_s, zcJ_s, zcA_s, zcD_s, zcF_s, zth_n, zth_t, zrt_s, zQ_l, zQ_r, false_or, or_false, not_false_eq_true, not_true_eq_false, and_self, true_and, and_true, if_true, if_false, ite_true, ite_false]
    rfl
theorem q_lastRoom {h : zm_H} {a : Nat} {N : zLv} (hS : lvS h a) (hL : KL h a N) (hN : N 4 ≤ 11) (h1 : 1 ≤ N 4) : sX2_lastRoom [.ref a] h = some (.inl (some (.int (nI (N (4 + N 4))))), h) := by
  obtain ⟨k0, p1, p2, p3, p5, p6, p7, p8, p9, p12, p14, k1, k2, k3, k4, k5, k6, k7, k8, k9, k10⟩ := hS
  obtain ⟨l0, l1, l2, l3, l4, ln, lk, lc, lf, lt, ld, lb, lo, lw⟩ := hL
  have e : nI (N 4) - (1 : Int32) = nI (N 4 - 1) := pk_sub h1
  have f5 : ¬ 11 ≤ N 4 - 1 := by omega
  have f6 := lw (N 4 - 1) (by omega)
  rw [show 5 + (N 4 - 1) = 4 + N 4 by omega] at f6
  refine zsem_eq (Nat.le_of_ble_eq_true rfl) (zTo_of gX2_lastRoom_0 ?_)
  simp only [k0, zgd_t, p12, l4, e, k9, zmp_s, zlt_s, zcV_s, zcI_s, zcJ_s, zcA_s, zcD_s, zcF_s, zth_n, zth_t, zrt_s, zQ_l, zQ_r, false_or, or_false, not_false_eq_true, not_true_eq_false, and_self, true_and, and_true, if_true, if_false, ite_true, ite_false, nI_clamp (show N 4 - 1 < 2 ^ 31 by omega), nI_lt0 (show N 4 - 1 < 2 ^ 31 by omega), f5, f6]
def nplace (N : zLv) (r : Nat) : Nat → Option Nat
  | 0 => none
  | n + 1 => match nplace N r n with
    | some k => some k
    | none => if N (5 + n) = r then some n else none
theorem nplace_some {N : zLv} {r : Nat} : ∀ {n k : Nat}, nplace N r n = some k → k < n ∧ N (5 + k) = r ∧ ∀ j, j < k → N (5 + j) ≠ r := by
  intro n
  induction n with
  | zero => intro k h; cases h
  | succ n ih =>
    intro k h
    unfold nplace at h
    split at h
    · rename_i q hq; cases h; obtain ⟨h1, h2⟩ := ih hq; exact ⟨by omega, h2⟩
    · rename_i hq
      split at h
      · rename_i e; cases h
        refine ⟨by omega, e, fun j hj e2 => ?_⟩
        have : ∀ m, nplace N r m = none → ∀ j, j < m → N (5 + j) ≠ r := by
          intro m
          induction m with
          | zero => intro _ j hj; omega
          | succ m ihm =>
            intro hm j hj
            unfold nplace at hm
            split at hm
            · cases hm
            · rename_i hq2
              split at hm
              · cases hm
              · rename_i hne
                by_cases e3 : j = m
                · rw [e3]; exact hne
                · exact ihm hq2 j (by omega)
        exact this n hq j hj e2
      · cases h
theorem nplace_none {N : zLv} {r : Nat} : ∀ {n : Nat}, nplace N r n = none ↔ ∀ j, j < n → N (5 + j) ≠ r := by
  intro n
  induction n with
  | zero => exact ⟨fun _ j hj => by omega, fun _ => rfl⟩
  | succ n ih =>
    unfold nplace
    constructor
    · intro h j hj
      split at h
      · cases h
      · rename_i hq
        split at h
        · cases h
        · rename_i hne
          by_cases e : j = n
          · rw [e]; exact hne
          · exact ih.mp hq j (by omega)
    · intro h
      rw [ih.mpr (fun j hj => h j (by omega))]
      exact if_neg (h n (by omega))
/-- a place, or -1 -/
def oI : Option Nat → Int32
  | some k => nI k
  | none => -1
theorem q_placeOf {h : zm_H} {a : Nat} {N : zLv} {r : Nat} (hS : lvS h a) (hL : KL h a N) (hN : N 4 ≤ 11) (hw : ∀ k, k < N 4 → N (5 + k) < 32) (hr : r < 2 ^ 31) : sX2_placeOf [.ref a, .int (nI r)] h = some (.inl (some (.int (oI (nplace N r (N 4))))), h) := by
  obtain ⟨k0, p1, p2, p3, p5, p6, p7, p8, p9, p12, p14, k1, k2, k3, k4, k5, k6, k7, k8, k9, k10⟩ := hS
  obtain ⟨l0, l1, l2, l3, l4, ln, lk, lc, lf, lt, ld, lb, lo, lw⟩ := hL
  refine zsem_eq (Nat.le_of_ble_eq_true rfl) (zTo_of gX2_placeOf_0 ?_)
  have key : ∀ d k, k + d = N 4 → nplace N r k = none → zTo vX2_placeOf rX2_placeOf (2, [some (.ref a), some (.int (nI r)), some (.int (nI k))], [], h) (fun y => y = (.inl (some (.int (oI (nplace N r (N 4))))), h)) := by
    intro d
    induction d with
    | zero =>
      intro k hk hn
      have hk : k = N 4 := by omega
      subst hk
      refine zTo_of gX2_placeOf_2 ?_
      simp only [k0, l4, zgd_t, nI_le (Nat.le_refl _) (show N 4 < 2 ^ 31 by omega), zmp_s, zlt_s, zcV_s, zcI_s, zcJ_s, zcA_s, zcD_s, zcF_s, zth_n, zth_t, zrt_s, zQ_l, zQ_r, false_or, or_false, not_false_eq_true, not_true_eq_false, and_self, true_and, and_true, if_true, if_false, ite_true, ite_false]
      rw [hn]; rfl
    | succ d ih =>
      intro k hk hn
      obtain ⟨f1, f2, f3, f4⟩ := nI_for (show k < N 4 by omega) (by omega)
      have f5 : ¬ 11 ≤ k := by omega
      refine zTo_of gX2_placeOf_2 ?_
      simp only [k0, l4, f1, f4, zmp_s, zlt_s, zcV_s, zcI_s, zcJ_s, zcA_s, zcD_s, zcF_s, zth_n, zth_t, zrt_s, zQ_l, zQ_r, false_or, or_false, not_false_eq_true, not_true_eq_false, and_self, true_and, and_true, if_true, if_false, ite_true, ite_false, zgd_t, p12, k9, f2, f3, f5, lw k (by omega), nI_eq (show N (5 + k) < 2 ^ 31 from Nat.lt_of_lt_of_le (hw k (by omega)) (by omega)) hr]
      by_cases e : N (5 + k) = r
      · simp only [e, zmp_s, zlt_s, zcV_s, zcI_s, zcJ_s, zcA_s, zcD_s, zcF_s, zth_n, zth_t, zrt_s, zQ_l, zQ_r, false_or, or_false, not_false_eq_true, not_true_eq_false, and_self, true_and, and_true, if_true, if_false, ite_true, ite_false]
        have : nplace N r (N 4) = some k := by
          cases q : nplace N r (N 4) with
          | none => exact absurd e (nplace_none.mp q k (by omega))
          | some j =>
            obtain ⟨h1, h2, h3⟩ := nplace_some q
            have h4 := nplace_none.mp hn
            by_cases h5 : j < k
            · exact absurd h2 (h4 j h5)
            · by_cases h6 : k < j
              · exact absurd e (h3 k h6)
              · rw [show j = k by omega]
        rw [this]; rfl
      · simp only [e, zmp_s, zlt_s, zcV_s, zcI_s, zcJ_s, zcA_s, zcD_s, zcF_s, zth_n, zth_t, zrt_s, zQ_l, zQ_r, false_or, or_false, not_false_eq_true, not_true_eq_false, and_self, true_and, and_true, if_true, if_false, ite_true, ite_false]
        exact ih (k + 1) (by omega) (by rw [nplace, hn]; exact if_neg e)
  exact key (N 4) 0 (by omega) rfl
theorem q_everyRoom {h : zm_H} {a : Nat} {N : zLv} (hS : lvS h a) (hL : KL h a N) (hN : N 0 ≤ 11) : sX2_everyRoom [.ref a] h = some (.inl (some (.int (nI (2 ^ N 0 - 1)))), h) := by
  obtain ⟨k0, p1, p2, p3, p5, p6, p7, p8, p9, p12, p14, k1, k2, k3, k4, k5, k6, k7, k8, k9, k10⟩ := hS
  obtain ⟨l0, l1, l2, l3, l4, ln, lk, lc, lf, lt, ld, lb, lo, lw⟩ := hL
  refine zsem_eq (Nat.le_of_ble_eq_true rfl) (zTo_of gX2_everyRoom_0 ?_)
  have e : nI (2 ^ N 0) - (1 : Int32) = nI (2 ^ N 0 - 1) := pk_sub Nat.one_le_two_pow
  simp only [k0, zgd_t, l0, nx_shl1 (show N 0 < 32 by omega), e, zmp_s, zlt_s, zcV_s, zcI_s, zcJ_s, zcA_s, zcD_s, zcF_s, zth_n, zth_t, zrt_s, zQ_l, zQ_r]
theorem q_mayEnd {h : zm_H} {a : Nat} {N : zLv} {r : Nat} (hS : lvS h a) (hL : KL h a N) (hN : N 3 ≤ 11) (hr : r < 2 ^ 31) : sX2_mayEnd [.ref a, .int (nI r)] h = some (.inl (some (.int (zb (decide (N 3 = 0) || decide (N 3 = r + 1))))), h) := by
  obtain ⟨k0, p1, p2, p3, p5, p6, p7, p8, p9, p12, p14, k1, k2, k3, k4, k5, k6, k7, k8, k9, k10⟩ := hS
  obtain ⟨l0, l1, l2, l3, l4, ln, lk, lc, lf, lt, ld, lb, lo, lw⟩ := hL
  refine zsem_eq (Nat.le_of_ble_eq_true rfl) (zTo_of gX2_mayEnd_0 ?_)
  simp only [k0, zgd_t, l3, zmp_s, zlt_s, zcV_s, zcI_s, zcJ_s, zcA_s, zcD_s, zcF_s, zth_n, zth_t, zrt_s, zQ_l, zQ_r]
  cases e : N 3 with
  | zero => simp only [eI_0, zmp_s, zlt_s, zcV_s, zcI_s, zcJ_s, zcA_s, zcD_s, zcF_s, zth_n, zth_t, zrt_s, zQ_l, zQ_r, false_or, or_false, not_false_eq_true, not_true_eq_false, and_self, true_and, and_true, if_true, if_false, ite_true, ite_false]; rfl
  | succ n =>
    have e1 : ¬ (nI n = -1) := by
      rw [nI_m1]
      intro q
      have := congrArg Int32.toBitVec q
      have h2 : BitVec.ofNat 32 n = BitVec.ofNat 32 4294967295 := this
      have h3 := congrArg BitVec.toNat h2
      simp only [BitVec.toNat_ofNat] at h3
      omega
    simp only [eI_s, e1, zmp_s, zlt_s, zcV_s, zcI_s, zcJ_s, zcA_s, zcD_s, zcF_s, zth_n, zth_t, zrt_s, zQ_l, zQ_r, false_or, or_false, not_false_eq_true, not_true_eq_false, and_self, true_and, and_true, if_true, if_false, ite_true, ite_false, nI_eq (show n < 2 ^ 31 by omega) hr]
    by_cases q : n = r
    · subst q; simp [zb, zQ]
    · have : ¬ (n + 1 = r + 1) := by omega
      simp [zb, q, zQ]
theorem q_opens {h : zm_H} {a : Nat} {N : zLv} {d K C : Nat} (hS : lvS h a) (hL : KL h a N) (hW : WB N) (hd : d < N 1) (hK : K < 2 ^ 31) (hC : C < 2 ^ 31) : sX2_opens [.ref a, .int (nI d), .int (nI K), .int (nI C)] h = some (.inl (some (.int (zb (nopen N d K C)))), h) := by
  obtain ⟨k0, p1, p2, p3, p5, p6, p7, p8, p9, p12, p14, k1, k2, k3, k4, k5, k6, k7, k8, k9, k10⟩ := hS
  obtain ⟨l0, l1, l2, l3, l4, ln, lk, lc, lf, lt, ld, lb, lo, lw⟩ := hL
  obtain ⟨w0, w1, w4, wr, wd, ww⟩ := hW
  obtain ⟨d1, d2, d3, d4, d5, d6, d7⟩ := wd d hd
  obtain ⟨f1, f2, f3, f4⟩ := nI_for hd (by omega)
  have f5 : ¬ 20 ≤ d := by omega
  refine zsem_eq (Nat.le_of_ble_eq_true rfl) (zTo_of gX2_opens_0 ?_)
  unfold nopen
  simp only [k0, zgd_t, p7, k6, f2, f3, f5, ld d hd, p8, k7, lb d hd, zmp_s, zlt_s, zcV_s, zcI_s, zcJ_s, zcA_s, zcD_s, zcF_s, zth_n, zth_t, zrt_s, zQ_l, zQ_r, false_or, or_false, not_false_eq_true, not_true_eq_false, and_self, true_and, and_true, if_true, if_false, ite_true, ite_false]
  have e1 : (nI (N (51 + 5 * d)) = 1) = (N (51 + 5 * d) = 1) := propext (nI_eq (b := 1) (by omega) (by omega))
  simp only [e1, nI_eq0 (show N (51 + 5 * d) < 2 ^ 31 by omega)]
  by_cases q : N (51 + 5 * d) = 1
  · simp only [q, false_or, or_false, not_false_eq_true, not_true_eq_false, and_self, true_and, and_true, if_true, if_false, ite_true, ite_false, q_has hK (show N (52 + 5 * d) < 32 by have := d6 q; omega), zmp_s, zlt_s, zcV_s, zcI_s, zcJ_s, zcA_s, zcD_s, zcF_s, zth_n, zth_t, zrt_s, zQ_l, zQ_r, zgd_t zb_01]
  · simp only [q, false_or, or_false, not_false_eq_true, not_true_eq_false, and_self, true_and, and_true, if_true, if_false, ite_true, ite_false]
    by_cases q0 : N (51 + 5 * d) = 0
    · simp [q0, zQ, zb]
    · simp only [q0, false_or, or_false, not_false_eq_true, not_true_eq_false, and_self, true_and, and_true, if_true, if_false, ite_true, ite_false, nI_ltI hC (show N (52 + 5 * d) < 2 ^ 31 by omega)]
      by_cases q2 : C < N (52 + 5 * d)
      · have q3 : ¬ N (52 + 5 * d) ≤ C := by omega
        simp [q2, q3, zQ, zb]
      · have q3 : N (52 + 5 * d) ≤ C := by omega
        simp [q2, q3, zQ, zb]
end ZLEV

