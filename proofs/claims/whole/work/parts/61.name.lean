/-! THE CLASS: a whole name. -/
section ZCL2
theorem nl_shl8 (n : Nat) : lN n <<< ((8 : Int32).toInt64 &&& 63) = lN (n * 256) := by
  have e : ((8 : Int32).toInt64 &&& 63) = (8 : Int64) := by decide +kernel
  rw [e]
  apply Int64.toBitVec_inj.mp
  rw [Int64.toBitVec_shiftLeft]
  have e2 : ((8 : Int64).toBitVec.smod 64) = 8#64 := by decide +kernel
  rw [e2]
  apply BitVec.eq_of_toNat_eq
  show ((Int64.ofNat n).toBitVec <<< 8#64).toNat = (Int64.ofNat (n * 256)).toBitVec.toNat
  rw [BitVec.shiftLeft_eq', BitVec.toNat_shiftLeft, Nat.shiftLeft_eq]
  show (BitVec.ofNat 64 n).toNat * 2 ^ 8 % 2 ^ 64 = (BitVec.ofNat 64 (n * 256)).toNat
  rw [BitVec.toNat_ofNat, BitVec.toNat_ofNat]
  omega
theorem nl_or {a b : Nat} : lN a ||| lN b = lN (a ||| b) := by
  apply Int64.toBitVec_inj.mp
  rw [Int64.toBitVec_or]
  apply BitVec.eq_of_toNat_eq
  show ((BitVec.ofNat 64 a) ||| (BitVec.ofNat 64 b)).toNat = (BitVec.ofNat 64 (a ||| b)).toNat
  rw [BitVec.toNat_or, BitVec.toNat_ofNat, BitVec.toNat_ofNat, BitVec.toNat_ofNat, Nat.or_mod_two_pow]
theorem or_byte {a b : Nat} (h : b < 256) : a * 256 ||| b = a * 256 + b := by
  have := Nat.two_pow_add_eq_or_of_lt (i := 8) h a
  rw [Nat.mul_comm] at this
  exact this.symm
theorem pkn_app {c k : Nat} (hc : c < 27 ^ 6) (hk : 1 ≤ k ∧ k < 27) : pkn (c * 27 + k) = pkn c * 256 + (96 + k) := by
  have e : pkn c = pk27 6 c := pk27_more 6 c hc
  rw [e]
  show pk27 7 (c * 27 + k) = _
  rw [pk27, if_neg (by omega), show (c * 27 + k) / 27 = c by omega, show (c * 27 + k) % 27 = k by omega]
/-- the code of the first k bytes, if they are letters -/
def nmc (xs : List Int32) : Nat → Option Nat
  | 0 => some 0
  | k + 1 => match nmc xs k with
    | none => none
    | some c => if xs.getD k 0 < 97 then none else if xs.getD k 0 ≤ 122 then some (c * 27 + ((xs.getD k 0).toNatClampNeg - 96)) else none
theorem nmc_none {xs : List Int32} {k : Nat} (h : nmc xs k = none) : ∀ n, k ≤ n → nmc xs n = none := by
  intro n hn
  induction n with
  | zero => rw [show k = 0 by omega] at h; exact h
  | succ n ih =>
    by_cases e : k = n + 1
    · rw [← e]; exact h
    · rw [nmc, ih (by omega)]
def nmw (xs : List Int32) : Nat := if 6 < xs.length then 0 else match nmc xs xs.length with
  | none => 0
  | some c => pkn c
theorem m_wholeName {h : zm_H} {b q cap : Nat} {xs : List Int32} (S : byS h b q cap xs.length) (B : BL h b q cap xs) (hcap : cap < 2 ^ 31) : sX0_wholeName [.ref b] h = some (.inl (some (.long (lN (nmw xs)))), h) := by
  obtain ⟨k0, p0, k1, l1⟩ := S
  have lc := B.2.1
  by_cases w : 6 < xs.length
  · have e : nmw xs = 0 := if_pos w
    rw [e]
    have v : (nI xs.length ≤ (6 : Int32)) = False := eq_false (fun q => by have := (nI_leI (b := 6) (by omega) (by omega)).mp q; omega)
    refine zsem_eq (Nat.le_of_ble_eq_true rfl) (zTo_of gX0_wholeName_0 ?_)
    simp only [k0, l1, v, zmp_s, zlt_s, zcV_s, zcI_s, zcJ_s, zcA_s, zcD_s, zcF_s, zth_n, zth_t, zrt_s, zQ_l, zQ_r, false_or, or_false, true_or, or_true, false_and, and_false, not_false_eq_true, not_true_eq_false, and_self, true_and, and_true, if_true, if_false, ite_true, ite_false, zgd_t]
    rfl
  have v : (nI xs.length ≤ (6 : Int32)) = True := eq_true ((nI_leI (b := 6) (by omega) (by omega)).mpr (by omega))
  have key : ∀ d k c, k + d = xs.length → nmc xs k = some c → c < 27 ^ k → zTo vX0_wholeName rX0_wholeName (10, [some (.ref b), some (.long (lN (pkn c))), none, some (.int (nI k))], [], h) (fun y => y = (.inl (some (.long (lN (nmw xs)))), h)) := by
    intro d
    induction d with
    | zero =>
      intro k c hk hc hl
      have hk : k = xs.length := by omega
      have e : nmw xs = pkn c := by unfold nmw; rw [if_neg w, ← hk, hc]
      rw [e]
      refine zTo_of gX0_wholeName_10 ?_
      simp only [k0, l1, hk, nI_le (Nat.le_refl _) (show xs.length < 2 ^ 31 by omega), zmp_s, zlt_s, zcV_s, zcI_s, zcJ_s, zcA_s, zcD_s, zcF_s, zth_n, zth_t, zrt_s, zQ_l, zQ_r, false_or, or_false, true_or, or_true, false_and, and_false, not_false_eq_true, not_true_eq_false, and_self, true_and, and_true, if_true, if_false, ite_true, ite_false, zgd_t]
    | succ d ih =>
      intro k c hk hc hl
      obtain ⟨f1, f2, f3, f4⟩ := nI_for (show k < xs.length by omega) (by omega)
      have bx := B.2.2 k (by omega)
      have c6 : c < 27 ^ 6 := Nat.lt_of_lt_of_le hl (Nat.pow_le_pow_right (by omega) (by omega))
      have bad : nmc xs (k + 1) = none → nmw xs = 0 := fun e => by unfold nmw; rw [if_neg w, nmc_none e _ (by omega)]
      refine zTo_of gX0_wholeName_10 ?_
      simp only [k0, l1, f1, f2, f3, f4, p0, k1, show ¬ cap ≤ k by omega, bx, zmp_s, zlt_s, zcV_s, zcI_s, zcJ_s, zcA_s, zcD_s, zcF_s, zth_n, zth_t, zrt_s, zQ_l, zQ_r, false_or, or_false, true_or, or_true, false_and, and_false, not_false_eq_true, not_true_eq_false, and_self, true_and, and_true, if_true, if_false, ite_true, ite_false, zgd_t]
      by_cases a : xs.getD k 0 < 97
      · have e := bad (by rw [nmc, hc]; exact if_pos a)
        rw [e]
        simp only [a, zmp_s, zlt_s, zcV_s, zcI_s, zcJ_s, zcA_s, zcD_s, zcF_s, zth_n, zth_t, zrt_s, zQ_l, zQ_r, false_or, or_false, true_or, or_true, false_and, and_false, not_false_eq_true, not_true_eq_false, and_self, true_and, and_true, if_true, if_false, ite_true, ite_false]
        rfl
      · by_cases z : xs.getD k 0 ≤ 122
        · obtain ⟨j, hj, ex⟩ := nI_of2 (x := xs.getD k 0) (M := 122) (n := 122) rfl (fun q => a (Int32.lt_trans q (by decide))) z
          have j97 : 97 ≤ j := by
            refine Nat.le_of_not_lt (fun q => a ?_)
            rw [ex]; exact (nI_ltI (b := 97) (by omega) (by omega)).mpr q
          simp only [a, z, zmp_s, zlt_s, zcV_s, zcI_s, zcJ_s, zcA_s, zcD_s, zcF_s, zth_n, zth_t, zrt_s, zQ_l, zQ_r, false_or, or_false, true_or, or_true, false_and, and_false, not_false_eq_true, not_true_eq_false, and_self, true_and, and_true, if_true, if_false, ite_true, ite_false]
          have e1 : nmc xs (k + 1) = some (c * 27 + (j - 96)) := by
            rw [nmc, hc]
            show (if xs.getD k 0 < 97 then none else if xs.getD k 0 ≤ 122 then some (c * 27 + ((xs.getD k 0).toNatClampNeg - 96)) else none) = _
            rw [if_neg a, if_pos z, ex, nI_clamp (by omega)]
          have e2 : (lN (pkn c) <<< ((8 : Int32).toInt64 &&& 63)) ||| (xs.getD k 0).toInt64 = lN (pkn (c * 27 + (j - 96))) := by
            rw [nl_shl8, ex, nI_l (by omega), nl_or, or_byte (by omega), pkn_app c6 (by omega), show 96 + (j - 96) = j by omega]
          rw [e2]
          refine ih (k + 1) _ (by omega) e1 ?_
          rw [Nat.pow_succ]; omega
        · have e := bad (by rw [nmc, hc]; show (if xs.getD k 0 < 97 then none else if xs.getD k 0 ≤ 122 then some (c * 27 + ((xs.getD k 0).toNatClampNeg - 96)) else none) = none; rw [if_neg a, if_neg z])
          rw [e]
          simp only [a, z, zmp_s, zlt_s, zcV_s, zcI_s, zcJ_s, zcA_s, zcD_s, zcF_s, zth_n, zth_t, zrt_s, zQ_l, zQ_r, false_or, or_false, true_or, or_true, false_and, and_false, not_false_eq_true, not_true_eq_false, and_self, true_and, and_true, if_true, if_false, ite_true, ite_false]
          rfl
  refine zsem_eq (Nat.le_of_ble_eq_true rfl) (zTo_of gX0_wholeName_0 ?_)
  simp only [k0, l1, v, zmp_s, zlt_s, zcV_s, zcI_s, zcJ_s, zcA_s, zcD_s, zcF_s, zth_n, zth_t, zrt_s, zQ_l, zQ_r, false_or, or_false, true_or, or_true, false_and, and_false, not_false_eq_true, not_true_eq_false, and_self, true_and, and_true, if_true, if_false, ite_true, ite_false, zgd_t]
  exact key xs.length 0 0 (by omega) rfl (by omega)
end ZCL2
