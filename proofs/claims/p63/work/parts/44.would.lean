/-! THE CLASS: where the walk can come, and what would be. -/
section ZC4
def nEnt (N : zLv) (S n : Nat) : Nat := zfo (fun r acc => if S.testBit r then acc ||| nld N S r else acc) S n
def nRc (N : zLv) (k : Nat) : Nat := zfo (fun _ S => nEnt N S (N 0)) (2 ^ N 2) k
theorem nEnt_lt {N : zLv} (hW : WB N) {S : Nat} (hS : S < 2 ^ N 0) (n : Nat) : nEnt N S n < 2 ^ N 0 := by
  refine zfo_ind (fun x => x < 2 ^ N 0) hS n (fun i x hi hx => ?_)
  show (if S.testBit i then x ||| nld N S i else x) < 2 ^ N 0
  split
  · exact Nat.or_lt_two_pow hx (nld_lt hW S i)
  · exact hx
theorem nRc_lt {N : zLv} (hW : WB N) (h2 : N 2 < N 0) (k : Nat) : nRc N k < 2 ^ N 0 := by
  refine zfo_ind (fun x => x < 2 ^ N 0) (Nat.pow_lt_pow_right (by omega) h2) k (fun i x hi hx => nEnt_lt hW hx (N 0))
theorem p11 {N : zLv} (hW : WB N) {S : Nat} (hS : S < 2 ^ N 0) : S < 2048 := Nat.lt_of_lt_of_le hS (Nat.pow_le_pow_right (n := 2) (by omega) hW.1)
-- the draft
theorem CI.draft {h g : zm_H} {N : zLv} (c : CI h N) (fr : zFr (lvA L16) h g) (ho : lvO g L16) : CQ N h g := by
  obtain ⟨hk, hL, hF, hst, ho5, ho16⟩ := c
  refine ⟨fr.mono (fun c hc => by unfold lvA at hc; rw [L16e] at hc; unfold scA; omega), ?_, ?_, ?_, ho⟩
  · rw [fr.I (fun e => by unfold lvA at e; rw [L16e] at e; omega)]
  · rw [fr.I (fun e => by unfold lvA at e; rw [L16e] at e; omega)]
  · have z0 : zI g 0 = zI h 0 := fr.I (fun e => by unfold lvA at e; rw [L16e] at e; omega)
    rcases hst with st | ⟨st, tg⟩
    · left; rw [z0]; exact st
    · right; exact ⟨by rw [z0]; exact st, TBg_off fr (fun i hi e => by unfold lvA at e; rw [L16e] at e; omega) tg⟩
theorem m_copyD {h : zm_H} {N : zLv} (c : CI h N) : ∃ g, sX2_copyFrom [.ref L16, .ref L5] h = some (.inl none, g) ∧ zFr (lvA L16) h g ∧ KL g L16 N ∧ lvO g L16 ∧ CQ N h g := by
  have hW := c.2.2.1.1
  obtain ⟨g, s1, fr, kl, lo⟩ := q_copyFrom (a := L16) (b := L5) c.1.2.2.2.2.2.2.2.2.2.2.2.2.2.2.2.2.2.1 c.1.2.2.2.2.2.2.2.2.2.2.2.2.2.2.2.2.1 (by rw [L5e, L16e]; omega) c.2.1 ⟨hW.1, hW.2.1, hW.2.2.1⟩ c.2.2.2.2.1
  exact ⟨g, s1, fr, kl, lo, c.draft fr lo⟩
/-- tours of the draft -/
theorem m_countD {h : zm_H} {N M : zLv} (c : CI h N) (hL : KL h L16 M) (hW : WB M) (h3 : M 3 ≤ 11) (h2 : M 2 < M 0) : ∃ g, sX5_countTours [.ref 0, .ref L16, .int (zI h L16 10)] h = some (.inl (some (.long (lN (nTT M (2 ^ M 2) (M 2))))), g) ∧ CQ N h g := by
  obtain ⟨g, s1, fr, h8, hj⟩ := m_countTours c.1 c.1.2.2.2.2.2.2.2.2.2.2.2.2.2.2.2.2.2.1 (by rw [L16e]; omega) (by rw [L16e]; omega) hL hW h3 h2
  refine ⟨g, ?_, c.count (Or.inr rfl) fr h8 hj⟩
  rw [hL.2.2.1]
  exact s1
/-- without a key -/
def nWo (N : zLv) (key n : Nat) : zLv := fun i => if 16 ≤ i ∧ i < 16 + 3 * n ∧ i % 3 = 1 then N i &&& (2 ^ key ^^^ 4294967295) else N i
theorem nWo_step (N : zLv) (key n : Nat) : zput (nWo N key n) (16 + 3 * n) (nWo N key n (16 + 3 * n) &&& (2 ^ key ^^^ 4294967295)) = nWo N key (n + 1) := by
  funext i
  unfold zput nWo
  by_cases e : i = 16 + 3 * n
  · rw [if_pos e, if_neg (by omega), if_pos (by omega), e]
  · rw [if_neg e]
    by_cases e2 : 16 ≤ i ∧ i < 16 + 3 * n ∧ i % 3 = 1
    · rw [if_pos e2, if_pos (by omega)]
    · rw [if_neg e2, if_neg (by omega)]
theorem nWo_lo {N : zLv} {key n i : Nat} (h : ¬ (16 ≤ i ∧ i < 16 + 3 * n ∧ i % 3 = 1)) : nWo N key n i = N i := if_neg h
theorem nWo_le {N : zLv} {key n i : Nat} : nWo N key n i ≤ N i := by
  unfold nWo
  split
  · exact Nat.and_le_left
  · exact Nat.le_refl _
theorem nWo_0 (N : zLv) (key : Nat) : nWo N key 0 = N := by
  funext i; exact if_neg (by omega)
theorem WB_nWo {N : zLv} (hW : WB N) (key : Nat) {n : Nat} (hn : n ≤ N 0) : WB (nWo N key n) := by
  have hn2 := hW.1
  have e : ∀ i, i < 16 ∨ 49 ≤ i ∨ i % 3 ≠ 1 → nWo N key n i = N i := fun i hi => nWo_lo (by omega)
  refine ⟨by rw [e 0 (by omega)]; exact hW.1, by rw [e 1 (by omega)]; exact hW.2.1, by rw [e 4 (by omega)]; exact hW.2.2.1, fun r hr => ?_, fun d hd => ?_, fun k hk => ?_⟩
  · rw [e 0 (by omega)] at hr
    have := hW.2.2.2.1 r hr
    rw [e (17 + 3 * r) (by omega)]
    exact ⟨Nat.lt_of_le_of_lt nWo_le this.1, this.2⟩
  · rw [e 1 (by omega)] at hd
    rw [e 0 (by omega), e (49 + 5 * d) (by omega), e (50 + 5 * d) (by omega), e (51 + 5 * d) (by omega), e (52 + 5 * d) (by omega), e (53 + 5 * d) (by omega)]
    exact hW.2.2.2.2.1 d hd
  · rw [e 4 (by omega)] at hk
    have := hW.2.2.1
    rw [e 0 (by omega), e (5 + k) (by omega)]
    exact hW.2.2.2.2.2 k hk
def nTwo (N : zLv) (key : Nat) : Nat := nTT (nWo N key (N 0)) (2 ^ N 2) (N 2)
end ZC4

