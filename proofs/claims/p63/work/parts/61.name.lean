/-! THE CLASS: a whole name. -/
section ZCL2
theorem nl_shl8 (n : Nat) : lN n <<< ((8 : Int32).toInt64 &&& 63) = lN (n * 256) := by
  have e : ((8 : Int32).toInt64 &&& 63) = (8 : Int64) := by decide +kernel
  rw [e]
  apply Int64.toBitVec_inj.mp
  rw [Int64.toBitVec_shiftLeft]
  have e2 : ((8 : Int64).toBitVec.smod 64) = 8#64 := by decide +kernel
  rw [e2]
  apply BitVec.eq_of_toNat_eq
  show ((Int64.ofNat n).toBitVec <<< 8#64).toNat = (Int64.ofNat (n * 256)).toBitVec.toNat
  rw [BitVec.shiftLeft_eq', BitVec.toNat_shiftLeft, Nat.shiftLeft_eq]
  show (BitVec.ofNat 64 n).toNat * 2 ^ 8 % 2 ^ 64 = (BitVec.ofNat 64 (n * 256)).toNat
  rw [BitVec.toNat_ofNat, BitVec.toNat_ofNat]
  omega
theorem nl_or {a b : Nat} : lN a ||| lN b = lN (a ||| b) := by
  apply Int64.toBitVec_inj.mp
  rw [Int64.toBitVec_or]
  apply BitVec.eq_of_toNat_eq
  show ((BitVec.ofNat 64 a) ||| (BitVec.ofNat 64 b)).toNat = (BitVec.ofNat 64 (a ||| b)).toNat
  rw [BitVec.toNat_or, BitVec.toNat_ofNat, BitVec.toNat_ofNat, BitVec.toNat_ofNat, Nat.or_mod_two_pow]
theorem or_byte {a b : Nat} (h : b < 256) : a * 256 ||| b = a * 256 + b := by
  have := Nat.two_pow_add_eq_or_of_lt (i := 8) h a
  rw [Nat.mul_comm] at this
  exact this.symm
theorem pkn_app {c k : Nat} (hc : c < 27 ^ 6) (hk : 1 ≤ k ∧ k < 27) : pkn (c * 27 + k) = pkn c * 256 + (96 + k) := by
  have e : pkn c = pk27 6 c := pk27_more 6 c hc
  rw [e]
  show pk27 7 (c * 27 + k) = _
  rw [pk27, if_neg (by omega), show (c * 27 + k) / 27 = c by omega, show (c * 27 + k) % 27 = k by omega]
/-- the code of the first k bytes, if they are letters -/
def nmc (xs : List Int32) : Nat → Option Nat
  | 0 => some 0
  | k + 1 => match nmc xs k with
    | none => none
    | some c => if xs.getD k 0 < 97 then none else if xs.getD k 0 ≤ 122 then some (c * 27 + ((xs.getD k 0).toNatClampNeg - 96)) else none
theorem nmc_none {xs : List Int32} {k : Nat} (h : nmc xs k = none) : ∀ n, k ≤ n → nmc xs n = none := by
  intro n hn
  induction n with
  | zero => rw [show k = 0 by omega] at h; exact h
  | succ n ih =>
    by_cases e : k = n + 1
    · rw [← e]; exact h
    · rw [nmc, ih (by omega)]
def nmw (xs : List Int32) : Nat := if 6 < xs.length then 0 else match nmc xs xs.length with
  | none => 0
  | some c => pkn c
end ZCL2

