/-! THE CLASS: a room found by its name. -/
section ZCM
theorem nmw_lt (xs : List Int32) : nmw xs < 2 ^ 56 := by
  unfold nmw
  split
  · omega
  · split
    · omega
    · exact pkn_lt _
def nFd (N : zLv) (xs : List Int32) : Int32 := if nmw xs = 0 then -1 else oI (nfind (fun r => decide (pkn (N (18 + 3 * r)) = nmw xs)) (N 0))
end ZCM

