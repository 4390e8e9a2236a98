/-! NONE AND ONE. -/
theorem eI_m1 {a : Nat} (h : a < 2 ^ 31) : (eI a = -1) = (a = 0) := by
  cases a with
  | zero => rw [eI_0]; simp
  | succ a =>
    rw [eI_s]
    refine propext ⟨fun e => ?_, fun e => by omega⟩
    have := nI_pos (n := a) (by omega)
    rw [e] at this
    exact absurd (by decide) this
