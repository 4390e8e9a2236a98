/-! THE CLASS: the walk and tours written. -/
section ZCJ
theorem nwr_le1 (N : zLv) (w : Nat → Nat) : ∀ n, (nwr N w (n + 1)).length ≤ 7 * n + 6 := by
  intro n
  induction n with
  | zero =>
    unfold nwr nwr
    have := nlt_le 6 (N (18 + 3 * w 0))
    simp
    omega
  | succ n ih =>
    rw [nwr, List.length_append, List.length_append, if_neg (by omega)]
    have := nlt_le 6 (N (18 + 3 * w (n + 1)))
    show _ + (1 + _) ≤ _
    omega
/-- the walk as it is written -/
def nww (N : zLv) : List Int32 := nwr N (nwk N) (N 4) ++ (if nCo N = 0 then [33] else [])
theorem nTp_lt {N : zLv} (hF : WF N) {k : Nat} (hk : k < nTo N) {p : Nat} (hp : p < N 0) : nTp N k p < N 0 := by
  have wf := nWa_ok hF hk
  have := wf.wk (k := p) (by rw [show nWa N k 4 = N 0 from nWl_4]; exact hp)
  rw [show nWa N k 0 = N 0 from nWl_lo hF.1.1 (by omega)] at this
  have e : nwk (nWa N k) p = nTp N k p := nWl_at hp
  rw [e] at this
  exact this
end ZCJ

