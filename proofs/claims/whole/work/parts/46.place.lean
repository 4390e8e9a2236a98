/-! THE CLASS: where rooms stand, coins, rounds, shares. -/
section ZC6
/-- a sum over all sets of rooms but none -/
def nSum (N : zLv) (F : Nat → Nat) : Nat := zsu (fun i => F (i + 1)) (2 ^ N 0 - 1)
def nAh (N : zLv) (r o : Nat) : Nat := nSum N (fun S => if S.testBit o then 0 else nWW N (2 ^ N 2) (N 2) S r * nTT N S r)
def nAt (N : zLv) (r p : Nat) : Nat := nSum N (fun S => if npc S 11 = p + 1 then nWW N (2 ^ N 2) (N 2) S r * nTT N S r else 0)
def nBe (N : zLv) (r o : Nat) : Nat := nSum N (fun S => nWW N (2 ^ N 2) (N 2) S r * ncn N S r o)
theorem m_ahead {h : zm_H} {N : zLv} {r o : Nat} (c : CI h N) (hr : r < N 0) (ho : o < N 0) (hne : r ≠ o) : ∃ g, sX5_ahead [.ref 0, .int (nI r), .int (nI o)] h = some (.inl (some (.long (lN (nAh N r o)))), g) ∧ CQ N h g := by
  have q00 := c.1.1
  have nr := m_needTwo c hr ho hne
  obtain ⟨g, s1, cq, tg⟩ := m_solved c
  have c2 := c.go cq
  obtain ⟨hk, hL, hF, hst, ho5, ho16⟩ := c2
  obtain ⟨q0, r0, r1, r2, r3, r4, r5, r6, r7, r9, i0, i1, i2, o0, o1, o2, v5, v16, hh, v96, v107, sl0, sl1, sl2, fl0, tb, rw0⟩ := hk
  have hW := hF.1
  have hn := hW.1
  have y5 := v5.1
  have y119 := tb.1
  have one := Nat.one_le_two_pow (n := N 0)
  have hp := pow_le hn
  have er := q_everyRoom v5 hL hW.1
  refine ⟨g, ?_, cq⟩
  refine zsem_eq (Nat.le_of_ble_eq_true rfl) (zTo_of gX5_ahead_0 ?_)
  simp only [q00, nr, s1, zmp_s, zlt_s, zcV_s, zcI_s, zcJ_s, zcA_s, zcD_s, zcF_s, zth_n, zth_t, zrt_s, zQ_l, zQ_r, false_or, or_false, true_or, or_true, false_and, and_false, not_false_eq_true, not_true_eq_false, and_self, true_and, and_true, if_true, if_false, ite_true, ite_false, zgd_t]
  sorry
end ZC6
