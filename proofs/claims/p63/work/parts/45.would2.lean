/-! THE CLASS: keys and doors that are needed, doors opened. -/
section ZC5
theorem nDrop_lo {N : zLv} {d i : Nat} (h : i < 49) (h1 : i ≠ 1) : nDrop N d i = N i := by
  unfold nDrop
  rw [zput_ne _ _ h1, nMv_lo h]
theorem nDrop_1 {N : zLv} {d : Nat} : nDrop N d 1 = N 1 - 1 := by
  unfold nDrop
  rw [zput_self]
theorem nDrop_at {N : zLv} {d i j : Nat} (hi : i < N 1 - 1) (hj : j < 5) : nDrop N d (49 + j + 5 * i) = if d ≤ i then N (49 + j + 5 * (i + 1)) else N (49 + j + 5 * i) := by
  unfold nDrop
  rw [zput_ne _ _ (by omega)]
  unfold nMv
  by_cases e : d ≤ i
  · rw [if_pos e, if_pos (by omega), show 49 + j + 5 * i + 5 = 49 + j + 5 * (i + 1) by omega]
  · rw [if_neg e, if_neg (by omega)]
theorem WB_nDrop {N : zLv} (hW : WB N) (d : Nat) : WB (nDrop N d) := by
  have h4 := hW.2.2.1
  have h0 := hW.1
  refine ⟨by rw [nDrop_lo (by omega) (by omega)]; exact hW.1, by rw [nDrop_1]; have := hW.2.1; omega, by rw [nDrop_lo (by omega) (by omega)]; exact hW.2.2.1, fun r hr => ?_, fun i hi => ?_, fun k hk => ?_⟩
  · rw [nDrop_lo (by omega) (by omega)] at hr
    rw [nDrop_lo (by omega) (by omega), nDrop_lo (by omega) (by omega)]
    exact hW.2.2.2.1 r hr
  · rw [nDrop_1] at hi
    rw [nDrop_lo (i := 0) (by omega) (by omega)]
    have e0 := nDrop_at (N := N) (d := d) (j := 0) hi (by omega)
    have e1 := nDrop_at (N := N) (d := d) (j := 1) hi (by omega)
    have e2 := nDrop_at (N := N) (d := d) (j := 2) hi (by omega)
    have e3 := nDrop_at (N := N) (d := d) (j := 3) hi (by omega)
    have e4 := nDrop_at (N := N) (d := d) (j := 4) hi (by omega)
    simp only [Nat.add_zero, Nat.reduceAdd] at e0 e1 e2 e3 e4
    rw [e0, e1, e2, e3, e4]
    by_cases w : d ≤ i
    · simp only [if_pos w]; exact hW.2.2.2.2.1 (i + 1) (by omega)
    · simp only [if_neg w]; exact hW.2.2.2.2.1 i (by omega)
  · rw [nDrop_lo (by omega) (by omega)] at hk
    rw [nDrop_lo (by omega) (by omega), nDrop_lo (by omega) (by omega)]
    exact hW.2.2.2.2.2 k hk
def nTwd (N : zLv) (d : Nat) : Nat := nTT (nDrop N d) (2 ^ N 2) (N 2)
/-- with a door open -/
def nOp (N : zLv) (d : Nat) : zLv := zput (zput (zput N (51 + 5 * d) 0) (52 + 5 * d) 0) (53 + 5 * d) 0
theorem nOp_lo {N : zLv} {d i : Nat} (h : i < 49) : nOp N d i = N i := by
  unfold nOp
  rw [zput_ne _ _ (by omega), zput_ne _ _ (by omega), zput_ne _ _ (by omega)]
theorem WB_nOp {N : zLv} (hW : WB N) (d : Nat) : WB (nOp N d) := by
  have h4 := hW.2.2.1
  have h0 := hW.1
  refine ⟨by rw [nOp_lo (by omega)]; exact hW.1, by rw [nOp_lo (by omega)]; exact hW.2.1, by rw [nOp_lo (by omega)]; exact hW.2.2.1, fun r hr => ?_, fun i hi => ?_, fun k hk => ?_⟩
  · rw [nOp_lo (by omega)] at hr
    rw [nOp_lo (by omega), nOp_lo (by omega)]
    exact hW.2.2.2.1 r hr
  · rw [nOp_lo (by omega)] at hi
    rw [nOp_lo (i := 0) (by omega)]
    obtain ⟨a1, a2, a3, a4, a5, a6, a7⟩ := hW.2.2.2.2.1 i hi
    have e0 : nOp N d (49 + 5 * i) = N (49 + 5 * i) := by unfold nOp; rw [zput_ne _ _ (by omega), zput_ne _ _ (by omega), zput_ne _ _ (by omega)]
    have e1 : nOp N d (50 + 5 * i) = N (50 + 5 * i) := by unfold nOp; rw [zput_ne _ _ (by omega), zput_ne _ _ (by omega), zput_ne _ _ (by omega)]
    rw [e0, e1]
    by_cases w : i = d
    · subst w
      have e2 : nOp N i (51 + 5 * i) = 0 := by unfold nOp; rw [zput_ne _ _ (by omega), zput_ne _ _ (by omega), zput_self]
      have e3 : nOp N i (52 + 5 * i) = 0 := by unfold nOp; rw [zput_ne _ _ (by omega), zput_self]
      have e4 : nOp N i (53 + 5 * i) = 0 := by unfold nOp; rw [zput_self]
      rw [e2, e3, e4]
      exact ⟨a1, a2, a3, by omega, by omega, by omega, by omega⟩
    · have e2 : nOp N d (51 + 5 * i) = N (51 + 5 * i) := by unfold nOp; rw [zput_ne _ _ (by omega), zput_ne _ _ (by omega), zput_ne _ _ (by omega)]
      have e3 : nOp N d (52 + 5 * i) = N (52 + 5 * i) := by unfold nOp; rw [zput_ne _ _ (by omega), zput_ne _ _ (by omega), zput_ne _ _ (by omega)]
      have e4 : nOp N d (53 + 5 * i) = N (53 + 5 * i) := by unfold nOp; rw [zput_ne _ _ (by omega), zput_ne _ _ (by omega), zput_ne _ _ (by omega)]
      rw [e2, e3, e4]
      exact ⟨a1, a2, a3, a4, a5, a6, a7⟩
  · rw [nOp_lo (by omega)] at hk
    rw [nOp_lo (by omega), nOp_lo (by omega)]
    exact hW.2.2.2.2.2 k hk
def nTio (N : zLv) (d : Nat) : Nat := nTT (nOp N d) (2 ^ N 2) (N 2)
theorem nTio_lt {N : zLv} (hF : WF N) (d : Nat) : nTio N d < 2 ^ 40 := nTT_lt (WB_nOp hF.1 d) (by rw [nOp_lo (by omega)]; exact hF.bit.1) _
theorem nTwo_lt {N : zLv} (hF : WF N) (k : Nat) : nTwo N k < 2 ^ 40 := nTT_lt (WB_nWo hF.1 k (Nat.le_refl _)) (by rw [nWo_lo (by omega)]; exact hF.bit.1) _
theorem nTwd_lt {N : zLv} (hF : WF N) (d : Nat) : nTwd N d < 2 ^ 40 := nTT_lt (WB_nDrop hF.1 d) (by rw [nDrop_lo (by omega) (by omega)]; exact hF.bit.1) _
def nNk (N : zLv) : Nat := if nTo N = 0 then 0 else nmask (fun k => decide (nTwo N k = 0)) 8
def nNd (N : zLv) : Nat := if nTo N = 0 then 0 else nmask (fun k => decide (nTwd N k = 0)) (N 1)
/-- a count or none -/
def bL (n : Nat) : Int64 := if n = 0 then -1 else lN (n - 1)
theorem bLle {a m : Nat} (ha : a < 2 ^ 62) (hm : m < 2 ^ 62) : (lg_cmp (lN a) (bL m) ≤ 0) = (a + 1 ≤ m) := by
  apply propext
  rw [lg_cmp_le]
  unfold bL
  by_cases e : m = 0
  · rw [if_pos e, e]
    have h0 : (0 : Int64) ≤ lN a := by
      show lN 0 ≤ lN a
      rw [pk_lLE (by omega) (by omega)]; omega
    constructor
    · intro q
      exact absurd (Int64.le_trans h0 q) (by decide)
    · intro q; omega
  · rw [if_neg e, pk_lLE (by omega) (by omega)]; omega
def nBs (N : zLv) (n : Nat) : Nat × Nat := zfo (fun d p => if nTio N d + 1 ≤ p.2 then p else (d + 1, nTio N d + 1)) (0, 0) n
theorem nBs_lt {N : zLv} (hF : WF N) (n : Nat) : (nBs N n).2 < 2 ^ 41 := by
  refine zfo_ind (fun p : Nat × Nat => p.2 < 2 ^ 41) (by omega) n (fun i x hi hx => ?_)
  show (if nTio N i + 1 ≤ x.2 then x else (i + 1, nTio N i + 1)).2 < 2 ^ 41
  split
  · exact hx
  · show nTio N i + 1 < 2 ^ 41
    have := nTio_lt hF i; omega
end ZC5

