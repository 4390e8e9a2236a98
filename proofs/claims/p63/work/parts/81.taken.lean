/-! TAKEN: bytes, words, rooms by name. -/
section ZMID
theorem i10 : ((1 : Int32) = 0) = False := eq_false (fun e => nI_ne0 (n := 1) (by omega) (by omega) e)
theorem eI_eq {k l : Nat} (hk : k < 2 ^ 31) (hl : l < 2 ^ 31) : (nI k = eI l) = (k + 1 = l) := by
  cases l with
  | zero =>
    rw [eI_0, nI_m1]
    refine propext ⟨fun w => ?_, fun w => by omega⟩
    have h3 := congrArg (fun y => (Int32.toBitVec y).toNat) w
    have h4 : (BitVec.ofNat 32 k).toNat = (BitVec.ofNat 32 4294967295).toNat := h3
    simp only [BitVec.toNat_ofNat] at h4
    omega
  | succ n =>
    rw [eI_s]
    apply propext
    rw [nI_eq hk (by omega)]
    omega
/-- one door more, of any kind -/
def nAo (N : zLv) (r s k v o : Nat) : zLv := zput (zput (zput (zput (zput (zput N 1 (N 1 + 1)) (49 + 5 * N 1) r) (50 + 5 * N 1) s) (51 + 5 * N 1) k) (52 + 5 * N 1) v) (53 + 5 * N 1) o
/-- all are bytes -/
def BY (xs : List Int32) : Prop := ∀ i, i < xs.length → ∃ k, k < 256 ∧ xs.getD i 0 = nI k
theorem pk27_inj : ∀ f c d, c < 27 ^ f → d < 27 ^ f → pk27 f c = pk27 f d → c = d := by
  intro f
  induction f with
  | zero => intro c d hc hd _; rw [Nat.pow_zero] at hc hd; omega
  | succ f ih =>
    intro c d hc hd e
    rw [pk27, pk27] at e
    rw [Nat.pow_succ] at hc hd
    by_cases c0 : c = 0
    · by_cases d0 : d = 0
      · omega
      · rw [if_pos c0, if_neg d0] at e; omega
    · by_cases d0 : d = 0
      · rw [if_neg c0, if_pos d0] at e; omega
      · rw [if_neg c0, if_neg d0] at e
        have e1 : c % 27 = d % 27 := by omega
        have e2 : pk27 f (c / 27) = pk27 f (d / 27) := by omega
        have := ih (c / 27) (d / 27) (by omega) (by omega) e2
        omega
theorem pkn_inj {c d : Nat} (hc : c < 27 ^ 6) (hd : d < 27 ^ 6) (e : pkn c = pkn d) : c = d := by
  have l : (27 : Nat) ^ 6 ≤ 27 ^ 7 := Nat.pow_le_pow_right (by omega) (by omega)
  exact pk27_inj 7 c d (by omega) (by omega) e
theorem pkn_0 {c : Nat} (hc : c < 27 ^ 6) : (pkn c = 0) = (c = 0) := by
  refine propext ⟨fun e => pkn_inj hc (by decide) e, fun e => by rw [e]; rfl⟩
/-- the code of n letters from place a -/
def nmd (xs : List Int32) (a : Nat) : Nat → Nat
  | 0 => 0
  | k + 1 => nmd xs a k * 27 + ((xs.getD (a + k) 0).toNatClampNeg - 96)
def LT (xs : List Int32) (a n : Nat) : Prop := ∀ i, i < n → ∃ k, 97 ≤ k ∧ k ≤ 122 ∧ xs.getD (a + i) 0 = nI k
theorem nmd_lt {xs : List Int32} {a : Nat} : ∀ n, LT xs a n → nmd xs a n < 27 ^ n ∧ (0 < n → 0 < nmd xs a n) := by
  intro n
  induction n with
  | zero => intro _; exact ⟨Nat.one_pos, fun x => absurd x (Nat.lt_irrefl 0)⟩
  | succ n ih =>
    intro L
    obtain ⟨i1, i2⟩ := ih (fun i hi => L i (by omega))
    obtain ⟨k, k1, k2, e⟩ := L n (by omega)
    rw [nmd, e, nI_clamp (by omega), Nat.pow_succ]
    constructor
    · omega
    · intro _; omega
/-- the room with a name's code -/
def nRn (N : zLv) (c : Nat) : Option Nat := if c = 0 then none else nfind (fun r => decide (N (18 + 3 * r) = c)) (N 0)
theorem nRn_lt {N : zLv} {c r : Nat} (e : nRn N c = some r) : r < N 0 := by
  unfold nRn at e
  split at e
  · cases e
  · exact (nfind_lt e).1
end ZMID
