/-! THE CLASS: walks, tours and doors written. -/
section ZCI
theorem nlt_le : ∀ f c, (nlt f c).length ≤ f := by
  intro f
  induction f with
  | zero => intro c; exact Nat.le_refl _
  | succ f ih =>
    intro c
    unfold nlt
    split
    · exact Nat.zero_le _
    · rw [List.length_append]
      have := ih (c / 27)
      simp
      omega
/-- the rooms w 0 .. as they are written -/
def nwr (N : zLv) (w : Nat → Nat) : Nat → List Int32
  | 0 => []
  | k + 1 => nwr N w k ++ ((if k = 0 then [] else [62]) ++ nlt 6 (N (18 + 3 * w k)))
theorem nwr_le (N : zLv) (w : Nat → Nat) : ∀ n, (nwr N w n).length ≤ 7 * n := by
  intro n
  induction n with
  | zero => exact Nat.le_refl _
  | succ n ih =>
    unfold nwr
    rw [List.length_append, List.length_append]
    have := nlt_le 6 (N (18 + 3 * w n))
    split
    · show _ + (0 + _) ≤ _; omega
    · show _ + (1 + _) ≤ _; omega
end ZCI

