/-! THE JDK'S TWO METHODS OF A STRING, over the keywords. -/
def mJ0_length_8abf5 : zm_M := (yJ0_length_8abf5, cJ0_length_8abf5, 1, (some .int), (4, 0, 0, 150), 0, [], (0, 0))
def mJ0_charAt_5068e : zm_M := (yJ0_charAt_5068e, cJ0_charAt_5068e, 2, (some .char), (4, 0, 0, 150), 1, [], (0, 0))
/-- the k-th keyword's bytes -/
def zkw (k : Nat) : List Int32 := zkey.getD k []
def sJ0_length_8abf5 : zm_S := fun av h => match av with
  | [.ref k] => if 1000000 ≤ k ∧ k < 1000008 then some (.inl (some (.int (nI (zkw (k - 1000000)).length))), h) else none
  | _ => none
def sJ0_charAt_5068e : zm_S := fun av h => match av with
  | [.ref k, .int i] => if (1000000 ≤ k ∧ k < 1000008) ∧ ¬ (i < 0 ∨ (zkw (k - 1000000)).length ≤ i.toNatClampNeg) then some (.inl (some (.int ((zkw (k - 1000000)).getD i.toNatClampNeg 0))), h) else none
  | _ => none
theorem tJ0_length_8abf5 {l : Launch} (hlt : l.stackTraces = false) : MetA l mJ0_length_8abf5 sJ0_length_8abf5 := by
  sorry
theorem tJ0_charAt_5068e {l : Launch} (hlt : l.stackTraces = false) : MetA l mJ0_charAt_5068e sJ0_charAt_5068e := by
  sorry
