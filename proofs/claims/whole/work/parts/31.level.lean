/-! A LEVEL OF THE CLASS AS NUMBERS. -/
section ZLEV
abbrev zLv : Type := Nat → Nat
/-- -1 for 0, otherwise one less -/
def eI (n : Nat) : Int32 := nI (n + 4294967295)
theorem eI_0 : eI 0 = -1 := by decide +kernel
theorem eI_s (n : Nat) : eI (n + 1) = nI n := by
  unfold eI
  apply Int32.toBitVec_inj.1
  show BitVec.ofNat 32 (n + 1 + 4294967295) = BitVec.ofNat 32 n
  apply BitVec.eq_of_toNat_eq
  simp only [BitVec.toNat_ofNat]
  omega
/-- a name's letters, packed -/
def pk27 : Nat → Nat → Nat
  | 0, _ => 0
  | f + 1, c => if c = 0 then 0 else pk27 f (c / 27) * 256 + (96 + c % 27)
def pkn (c : Nat) : Nat := pk27 7 c
/-- the objects of a level -/
def lvS (h : zm_H) (a : Nat) : Prop := zK h a = (8, 15) ∧ zP h a 1 = some (a + 1) ∧ zP h a 2 = some (a + 2) ∧ zP h a 3 = some (a + 3) ∧ zP h a 5 = some (a + 4) ∧ zP h a 6 = some (a + 5) ∧ zP h a 7 = some (a + 6) ∧ zP h a 8 = some (a + 7) ∧ zP h a 9 = some (a + 8) ∧ zP h a 12 = some (a + 9) ∧ zP h a 14 = some (a + 10) ∧
  zK h (a + 1) = (1, 11) ∧ zK h (a + 2) = (0, 11) ∧ zK h (a + 3) = (0, 11) ∧ zK h (a + 4) = (0, 20) ∧ zK h (a + 5) = (0, 20) ∧ zK h (a + 6) = (0, 20) ∧ zK h (a + 7) = (0, 20) ∧ zK h (a + 8) = (3, 20) ∧ zK h (a + 9) = (0, 11) ∧ zK h (a + 10) = (0, 11)
/-- what they hold: 0 rooms, 1 doors, 2 start, 3 end and one, 4 rooms of the walk, 5 .. the walk, 16 .. rooms (keys, coins, name), 49 .. doors (from, to, kind, number, oneway) -/
def KL (h : zm_H) (a : Nat) (N : zLv) : Prop :=
  zI h a 0 = nI (N 0) ∧ zI h a 4 = nI (N 1) ∧ zI h a 10 = nI (N 2) ∧ zI h a 11 = eI (N 3) ∧ zI h a 13 = nI (N 4) ∧
  (∀ r, r < N 0 → zJ h (a + 1) r = lN (pkn (N (18 + 3 * r)))) ∧ (∀ r, r < N 0 → zI h (a + 2) r = nI (N (16 + 3 * r))) ∧ (∀ r, r < N 0 → zI h (a + 3) r = nI (N (17 + 3 * r))) ∧
  (∀ d, d < N 1 → zI h (a + 4) d = nI (N (49 + 5 * d))) ∧ (∀ d, d < N 1 → zI h (a + 5) d = nI (N (50 + 5 * d))) ∧ (∀ d, d < N 1 → zI h (a + 6) d = nI (N (51 + 5 * d))) ∧ (∀ d, d < N 1 → zI h (a + 7) d = nI (N (52 + 5 * d))) ∧ (∀ d, d < N 1 → zI h (a + 8) d = nI (N (53 + 5 * d))) ∧
  (∀ k, k < N 4 → zI h (a + 9) k = nI (N (5 + k)))
/-- bounds -/
def WB (N : zLv) : Prop := N 0 ≤ 11 ∧ N 1 ≤ 20 ∧ N 4 ≤ 11 ∧ (∀ r, r < N 0 → N (16 + 3 * r) < 256 ∧ N (17 + 3 * r) ≤ 99) ∧ (∀ d, d < N 1 → N (49 + 5 * d) < N 0 ∧ N (50 + 5 * d) < N 0 ∧ N (49 + 5 * d) ≠ N (50 + 5 * d) ∧ N (51 + 5 * d) ≤ 2 ∧ N (52 + 5 * d) ≤ 999 ∧ (N (51 + 5 * d) = 1 → N (52 + 5 * d) < 8) ∧ N (53 + 5 * d) ≤ 1) ∧ (∀ k, k < N 4 → N (5 + k) < N 0)
def nkeys (N : zLv) (S : Nat) : Nat := zfo (fun r acc => if S.testBit r then acc ||| N (16 + 3 * r) else acc) 0 (N 0)
def ncoins (N : zLv) (S : Nat) : Nat := zfo (fun r acc => if S.testBit r then acc + N (17 + 3 * r) else acc) 0 (N 0)
def nset (N : zLv) : Nat := zfo (fun k acc => acc ||| 2 ^ N (5 + k)) 0 (N 4)
def nopen (N : zLv) (d K C : Nat) : Bool := if N (51 + 5 * d) = 1 then K.testBit (N (52 + 5 * d)) else decide (N (51 + 5 * d) = 0) || decide (N (52 + 5 * d) ≤ C)
theorem nI_for {r n : Nat} (hr : r < n) (hn : n < 2 ^ 31) : (nI n ≤ nI r) = False ∧ (nI r).toNatClampNeg = r ∧ (nI r < 0) = False ∧ nI r + (1 : Int32) = nI (r + 1) := ⟨eq_false (nI_ge hr hn), nI_clamp (by omega), nI_lt0 (by omega), nI_1 r⟩
theorem q_has {s k : Nat} (hs : s < 2 ^ 31) (hk : k < 32) (h : zm_H) : sX5_has [.int (nI s), .int (nI k)] h = some (.inl (some (.int (zb (s.testBit k)))), h) := by
  refine zsem_eq (by decide) (zTo_of gX5_has_0 ?_)
  rw [nx_bit hs hk, zb_0]
  cases s.testBit k <;> rfl
theorem q_keysIn {h : zm_H} {a : Nat} {N : zLv} {S : Nat} (hS : lvS h a) (hL : KL h a N) (hN : N 0 ≤ 11) (hs : S < 2 ^ 31) : sX2_keysIn [.ref a, .int (nI S)] h = some (.inl (some (.int (nI (nkeys N S)))), h) := by
  obtain ⟨k0, p1, p2, p3, p5, p6, p7, p8, p9, p12, p14, k1, k2, k3, k4, k5, k6, k7, k8, k9, k10⟩ := hS
  obtain ⟨l0, l1, l2, l3, l4, ln, lk, lc, lf, lt, ld, lb, lo, lw⟩ := hL
  refine zsem_eq (by decide) (zTo_of gX2_keysIn_0 (zTo_for (f := fun r => (4, [some (.ref a), some (.int (nI S)), some (.int (nI (zfo (fun r acc => if S.testBit r then acc ||| N (16 + 3 * r) else acc) 0 r))), some (.int (nI r))], [], h)) (N 0) 0 (Nat.zero_le _) (fun r _ hr => ?_) (zTo_of gX2_keysIn_4 ?_)))
  · obtain ⟨f1, f2, f3, f4⟩ := nI_for hr (by omega)
    have f5 : ¬ 11 ≤ r := by omega
    simp only [gX2_keysIn_4, k0, l0, f1, q_has hs (show r < 32 by omega), zfo_s, f4, zb_0, zmp_s, zlt_s, zcV_s, zcI_s, zcJ_s, zcA_s, zcD_s, zcF_s, zth_n, zth_t, zrt_s, zQ_l, zQ_r, false_or, or_false, not_false_eq_true, not_true_eq_false, and_self, true_and, and_true, if_true, if_false, ite_true, ite_false, zgd_t, p2, k2, f2, f3, f5, lk r hr, nx_or]
    cases S.testBit r <;> simp
  · simp only [k0, l0, zgd_t, nI_le (Nat.le_refl _) (show N 0 < 2 ^ 31 by omega), zmp_s, zlt_s, zcV_s, zcI_s, zcJ_s, zcA_s, zcD_s, zcF_s, zth_n, zth_t, zrt_s, zQ_l, zQ_r, false_or, or_false, not_false_eq_true, not_true_eq_false, and_self, true_and, and_true, if_true, if_false, ite_true, ite_false]
    rfl
end ZLEV
