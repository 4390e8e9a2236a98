/-! THE CLASS: coins, rounds, shares. -/
section ZC7
theorem zfo_coin {N : zLv} {S r : Nat} (hb : S.testBit r = true) : ∀ n, r < n → N (17 + 3 * r) ≤ zfo (fun r acc => if S.testBit r then acc + N (17 + 3 * r) else acc) 0 n := by
  intro n
  induction n with
  | zero => intro h; omega
  | succ n ih =>
    intro h
    rw [zfo_s]
    by_cases e : r = n
    · subst e
      rw [if_pos hb]; omega
    · have := ih (by omega)
      split <;> omega
theorem coin_le {N : zLv} {S r : Nat} (hr : r < N 0) (hb : S.testBit r = true) : N (17 + 3 * r) ≤ ncoins N S := zfo_coin hb (N 0) hr
theorem all_bit {n r : Nat} (hr : r < n) : (2 ^ n - 1).testBit r = true := by
  rw [Nat.testBit_two_pow_sub_one]; simp [hr]
/-- least coins, and one; none is 0 -/
def nLc (N : zLv) (n : Nat) : Nat := zfo (fun r acc => if (nEn N).testBit r = true ∧ (acc = 0 ∨ ncoins N (2 ^ N 0 - 1) - N (17 + 3 * r) + 1 < acc) then ncoins N (2 ^ N 0 - 1) - N (17 + 3 * r) + 1 else acc) 0 n
theorem nLc_lt {N : zLv} (hW : WB N) (n : Nat) : nLc N n ≤ 1090 := by
  refine zfo_ind (fun x => x ≤ 1090) (by omega) n (fun i x hi hx => ?_)
  have := ncoins_le hW (2 ^ N 0 - 1)
  show (if (nEn N).testBit i = true ∧ (x = 0 ∨ ncoins N (2 ^ N 0 - 1) - N (17 + 3 * i) + 1 < x) then ncoins N (2 ^ N 0 - 1) - N (17 + 3 * i) + 1 else x) ≤ 1090
  by_cases w : (nEn N).testBit i = true ∧ (x = 0 ∨ ncoins N (2 ^ N 0 - 1) - N (17 + 3 * i) + 1 < x)
  · rw [if_pos w]; exact Nat.succ_le_succ (Nat.le_trans (Nat.sub_le _ _) this)
  · rw [if_neg w]; exact hx
theorem nLc_0 (N : zLv) : nLc N 0 = 0 := rfl
theorem nLc_s (N : zLv) (k : Nat) : nLc N (k + 1) = if (nEn N).testBit k = true ∧ (nLc N k = 0 ∨ ncoins N (2 ^ N 0 - 1) - N (17 + 3 * k) + 1 < nLc N k) then ncoins N (2 ^ N 0 - 1) - N (17 + 3 * k) + 1 else nLc N k := by
  unfold nLc
  rw [zfo_s]
theorem eI_m1 {a : Nat} (h : a < 2 ^ 31) : (eI a = -1) = (a = 0) := by
  cases a with
  | zero => rw [eI_0]; simp
  | succ a =>
    rw [eI_s]
    refine propext ⟨fun e => ?_, fun e => by omega⟩
    have := nI_pos (n := a) (by omega)
    rw [e] at this
    exact absurd (by decide) this
def nRd (N : zLv) : Nat := zsu (fun r => if (nEn N).testBit r = true ∧ (nld N (2 ^ N 0 - 1) r).testBit (N 2) = true then nTt N r else 0) (N 0)
-- shares
theorem d_num {x : UInt64} (h : Jvm.FP.Core.val64 x ≠ .nan) : x &&& 0x7fffffffffffffff ≤ 0x7ff0000000000000 := by
  rw [UInt64.le_iff_toNat_le, UInt64.toNat_and]
  show x.toNat &&& (2 ^ 63 - 1) ≤ 9218868437227405312
  rw [Nat.and_two_pow_sub_one_eq_mod]
  refine Nat.le_of_not_lt (fun q => h ?_)
  show Jvm.FP.Core.decode Jvm.FP.Core.b64 x.toNat = .nan
  unfold Jvm.FP.Core.decode
  have e1 : Jvm.FP.Core.fieldE Jvm.FP.Core.b64 x.toNat = Jvm.FP.Core.b64.exps - 1 := by
    show x.toNat / 2 ^ 52 % 2 ^ 11 = 2 ^ 11 - 1
    omega
  have e2 : ¬ Jvm.FP.Core.fieldT Jvm.FP.Core.b64 x.toNat = 0 := by
    show ¬ x.toNat % 2 ^ 52 = 0
    omega
  rw [if_pos e1, if_neg e2]
theorem l2d_fin (x : Int64) : Jvm.FP.Core.val64 (Jvm.FP.l2d x) ≠ .nan := by
  show Jvm.FP.Core.val64 (Jvm.FP.Core.l2d x) ≠ .nan
  rw [Jvm.FP.Core.val64_l2d]
  unfold Jvm.FP.Core.ofInt Jvm.FP.Core.round Jvm.FP.Core.roundRatio Jvm.FP.Core.roundAt Jvm.FP.Core.settle Jvm.FP.Core.bound
  intro q
  simp only at q
  split at q
  · exact absurd q (by simp)
  · split at q <;> split at q <;> exact absurd q (by simp)
theorem ddiv_num {x y : Int64} (hy : y ≠ 0) (hy2 : y.toInt.natAbs ≤ 2 ^ 53) : Jvm.FP.ddiv (Jvm.FP.l2d x) (Jvm.FP.l2d y) &&& 0x7fffffffffffffff ≤ 0x7ff0000000000000 := by
  refine d_num ?_
  show Jvm.FP.Core.val64 (Jvm.FP.Core.ddiv (Jvm.FP.Core.l2d x) (Jvm.FP.Core.l2d y)) ≠ .nan
  rw [Jvm.FP.Core.val64_ddiv]
  have hx := l2d_fin x
  have hx : Jvm.FP.Core.val64 (Jvm.FP.Core.l2d x) ≠ .nan := hx
  have wy : Jvm.FP.Core.Whole y.toInt (Jvm.FP.Core.val64 (Jvm.FP.Core.l2d y)) := Jvm.FP.Core.l2d_int hy2
  generalize Jvm.FP.Core.val64 (Jvm.FP.Core.l2d y) = v at wy
  generalize Jvm.FP.Core.val64 (Jvm.FP.Core.l2d x) = u at hx
  cases v with
  | nan => exact wy.elim
  | inf s => exact wy.elim
  | fin t d r =>
    have d0 : d ≠ 0 := by
      intro e
      have := (Jvm.FP.Core.whole_zero wy).mp e
      exact hy (Int64.toInt_inj.mp (by rw [this]; rfl))
    cases u with
    | nan => exact absurd rfl hx
    | inf s => simp [Jvm.FP.Core.quotient]
    | fin s c q =>
      simp only [Jvm.FP.Core.quotient, if_neg d0]
      unfold Jvm.FP.Core.roundRatio Jvm.FP.Core.roundAt Jvm.FP.Core.settle Jvm.FP.Core.bound
      intro q
      split at q
      · exact absurd q (by simp)
      · split at q <;> split at q <;> exact absurd q (by simp)
theorem lN_toInt63 {n : Nat} (h : n < 2 ^ 62) : (lN n).toInt = (n : Int) := lg_ofNat_toInt (by omega)
def nSh (N : zLv) (r p : Nat) : UInt64 := if nTo N = 0 then Jvm.FP.dconst0 else Jvm.FP.ddiv (Jvm.FP.l2d (lN (nAt N r p))) (Jvm.FP.l2d (lN (nTo N)))
theorem shown_all : ∀ a, a < 12 → ∀ b, b < 12 → b = 0 ∨ Jvm.FP.fdiv (Jvm.FP.i2f (nI a)) (Jvm.FP.i2f (nI b)) &&& 0x7fffffff ≤ 0x7f800000 := by decide +kernel
end ZC7

