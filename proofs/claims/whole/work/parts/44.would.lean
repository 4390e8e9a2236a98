/-! THE CLASS: where the walk can come, and what would be. -/
section ZC4
def nEnt (N : zLv) (S n : Nat) : Nat := zfo (fun r acc => if S.testBit r then acc ||| nld N S r else acc) S n
def nRc (N : zLv) (k : Nat) : Nat := zfo (fun _ S => nEnt N S (N 0)) (2 ^ N 2) k
theorem nEnt_lt {N : zLv} (hW : WB N) {S : Nat} (hS : S < 2 ^ N 0) (n : Nat) : nEnt N S n < 2 ^ N 0 := by
  refine zfo_ind (fun x => x < 2 ^ N 0) hS n (fun i x hi hx => ?_)
  show (if S.testBit i then x ||| nld N S i else x) < 2 ^ N 0
  split
  · exact Nat.or_lt_two_pow hx (nld_lt hW S i)
  · exact hx
theorem nRc_lt {N : zLv} (hW : WB N) (h2 : N 2 < N 0) (k : Nat) : nRc N k < 2 ^ N 0 := by
  refine zfo_ind (fun x => x < 2 ^ N 0) (Nat.pow_lt_pow_right (by omega) h2) k (fun i x hi hx => nEnt_lt hW hx (N 0))
theorem p11 {N : zLv} (hW : WB N) {S : Nat} (hS : S < 2 ^ N 0) : S < 2048 := Nat.lt_of_lt_of_le hS (Nat.pow_le_pow_right (n := 2) (by omega) hW.1)
theorem m_reachable {h : zm_H} {N : zLv} (c : CI h N) : ∃ g, sX5_reachable [.ref 0] h = some (.inl (some (.int (nI (nRc N (N 0))))), g) ∧ CQ N h g := by
  have hF := c.2.2.1
  have hW := hF.1
  have hn := hW.1
  obtain ⟨R, hR⟩ : ∃ R : zm_O → Prop, R = (fun o => ∃ g, o = (.inl (some (.int (nI (nRc N (N 0))))), g) ∧ CQ N h g) := ⟨_, rfl⟩
  have inner : ∀ d r k S E g (x2 : Int32), r + d = N 0 → S < 2 ^ N 0 → CQ N h g → E = nEnt N S r → (∀ i, i < N 0 → zI g 15 i = nI (nld N S i)) →
      zTo vX5_reachable rX5_reachable (8, [some (.ref 0), some (.int (nI (nEnt N S (N 0)))), some (.int (nI (k + 1))), none, none, none], [], g) R →
      zTo vX5_reachable rX5_reachable (22, [some (.ref 0), some (.int (nI S)), some (.int (nI k)), some (.ref 15), some (.int (nI E)), some (.int (nI r))], [], g) R := by
    intro d
    induction d with
    | zero =>
      intro r k S E g x2 hr hS cq hE hl nx
      have hr : r = N 0 := by omega
      have c1 := c.go cq
      have q0 := c1.1.1
      have r2 := c1.1.2.2.2.1
      have y5 := c1.1.2.2.2.2.2.2.2.2.2.2.2.2.2.2.2.2.1.1
      have l0 := c1.2.1.1
      refine zTo_of gX5_reachable_22 ?_
      simp only [q0, r2, y5, l0, hr, nI_le (Nat.le_refl _) (show N 0 < 2 ^ 31 by omega), nI_1, zmp_s, zlt_s, zcV_s, zcI_s, zcJ_s, zcA_s, zcD_s, zcF_s, zth_n, zth_t, zrt_s, zQ_l, zQ_r, false_or, or_false, true_or, or_true, false_and, and_false, not_false_eq_true, not_true_eq_false, and_self, true_and, and_true, if_true, if_false, ite_true, ite_false, zgd_t]
      rw [hE, hr]
      exact nx
    | succ d ih =>
      intro r k S E g x2 hr hS cq hE hl nx
      have c1 := c.go cq
      have q0 := c1.1.1
      have r2 := c1.1.2.2.2.1
      have y5 := c1.1.2.2.2.2.2.2.2.2.2.2.2.2.2.2.2.2.1.1
      have k10 := c1.1.2.2.2.2.2.2.2.2.2.2.2.2.2.2.2.2.1.2.2.2.2.2.2.2.2.2.2.2.2.2.2.2.2.2.2.2.2
      have k15 : zK g 15 = (0, 11) := k10
      have l0 := c1.2.1.1
      obtain ⟨f1, f2, f3, f4⟩ := nI_for (show r < N 0 by omega) (by omega)
      have hS' := p11 hW hS
      refine zTo_of gX5_reachable_22 ?_
      simp only [q0, r2, y5, l0, f1, q_has (show S < 2 ^ 31 by omega) (show r < 32 by omega), zb_0, zmp_s, zlt_s, zcV_s, zcI_s, zcJ_s, zcA_s, zcD_s, zcF_s, zth_n, zth_t, zrt_s, zQ_l, zQ_r, false_or, or_false, true_or, or_true, false_and, and_false, not_false_eq_true, not_true_eq_false, and_self, true_and, and_true, if_true, if_false, ite_true, ite_false, zgd_t]
      cases w : S.testBit r with
      | false =>
        simp only [false_or, or_false, true_or, or_true, false_and, and_false, not_false_eq_true, not_true_eq_false, and_self, true_and, and_true, if_true, if_false, ite_true, ite_false, zmp_s, zlt_s, zcV_s, zcI_s, zcJ_s, zcA_s, zcD_s, zcF_s, zth_n, zth_t, zrt_s, zQ_l, zQ_r, f4]
        refine ih (r + 1) k S E g x2 (by omega) hS cq ?_ hl nx
        rw [hE]; unfold nEnt; rw [zfo_s, if_neg (by simp [w])]
      | true =>
        simp only [f2, f3, f4, k15, show ¬ 11 ≤ r by omega, hl r (by omega), nx_or, false_or, or_false, true_or, or_true, false_and, and_false, not_false_eq_true, not_true_eq_false, and_self, true_and, and_true, if_true, if_false, ite_true, ite_false, zmp_s, zlt_s, zcV_s, zcI_s, zcJ_s, zcA_s, zcD_s, zcF_s, zth_n, zth_t, zrt_s, zQ_l, zQ_r, zgd_t]
        refine ih (r + 1) k S _ g x2 (by omega) hS cq ?_ hl nx
        rw [hE]; unfold nEnt; rw [zfo_s, if_pos w]
  have outer : ∀ d k g, k + d = N 0 → CQ N h g → zTo vX5_reachable rX5_reachable (8, [some (.ref 0), some (.int (nI (nRc N k))), some (.int (nI k)), none, none, none], [], g) R := by
    intro d
    induction d with
    | zero =>
      intro k g hr cq
      have hr : k = N 0 := by omega
      have c1 := c.go cq
      have q0 := c1.1.1
      have r2 := c1.1.2.2.2.1
      have y5 := c1.1.2.2.2.2.2.2.2.2.2.2.2.2.2.2.2.2.1.1
      have l0 := c1.2.1.1
      refine zTo_of gX5_reachable_8 ?_
      simp only [q0, r2, y5, l0, hr, nI_le (Nat.le_refl _) (show N 0 < 2 ^ 31 by omega), zmp_s, zlt_s, zcV_s, zcI_s, zcJ_s, zcA_s, zcD_s, zcF_s, zth_n, zth_t, zrt_s, zQ_l, zQ_r, false_or, or_false, true_or, or_true, false_and, and_false, not_false_eq_true, not_true_eq_false, and_self, true_and, and_true, if_true, if_false, ite_true, ite_false, zgd_t]
      rw [hR]
      exact ⟨g, rfl, cq⟩
    | succ d ih =>
      intro k g hr cq
      have c1 := c.go cq
      have q0 := c1.1.1
      have r2 := c1.1.2.2.2.1
      have v5 := c1.1.2.2.2.2.2.2.2.2.2.2.2.2.2.2.2.2.1
      have y5 := v5.1
      have l0 := c1.2.1.1
      have hS := nRc_lt hW hF.2.2.1 k
      have hS' := p11 hW hS
      obtain ⟨f1, f2, f3, f4⟩ := nI_for (show k < N 0 by omega) (by omega)
      have w2 := q_leads (S := nRc N k) v5 c1.2.1 hW (by omega) (by have := nkeys_lt hW (nRc N k); omega) (by have := ncoins_le hW (nRc N k); omega)
      obtain ⟨g2, hg⟩ : ∃ g2, g2 = zrI g (L5 + 10) (nldF N (nRc N k) (zI g (L5 + 10)) (N 1)) := ⟨_, rfl⟩
      rw [← hg] at w2
      have cq2 : CQ N g g2 := by rw [hg]; exact c1.lead _
      refine zTo_of gX5_reachable_8 ?_
      simp only [q0, r2, y5, l0, f1, w2, zmp_s, zlt_s, zcV_s, zcI_s, zcJ_s, zcA_s, zcD_s, zcF_s, zth_n, zth_t, zrt_s, zQ_l, zQ_r, false_or, or_false, true_or, or_true, false_and, and_false, not_false_eq_true, not_true_eq_false, and_self, true_and, and_true, if_true, if_false, ite_true, ite_false, zgd_t]
      refine inner (N 0) 0 k (nRc N k) _ g2 0 (by omega) hS (cq.tr cq2) rfl (fun i hi => ?_) (ih (k + 1) g2 (by omega) (cq.tr cq2))
      rw [hg, show (15 : Nat) = L5 + 10 from rfl, I_rIs]
      exact if_pos (by omega)
  have q0 := c.1.1
  have r2 := c.1.2.2.2.1
  have y5 := c.1.2.2.2.2.2.2.2.2.2.2.2.2.2.2.2.2.1.1
  have l2 := c.2.1.2.2.1
  have e1 : (1 : Int32) <<< (nI (N 2) &&& 31) = nI (2 ^ N 2) := nx_shl1 (by have := hF.2.2.1; omega)
  have hsim : zW (sX5_reachable [.ref 0] h) R := by
    refine zsem_to (Nat.le_of_ble_eq_true rfl) (zTo_of gX5_reachable_0 ?_)
    simp only [q0, r2, y5, l2, e1, zmp_s, zlt_s, zcV_s, zcI_s, zcJ_s, zcA_s, zcD_s, zcF_s, zth_n, zth_t, zrt_s, zQ_l, zQ_r, false_or, or_false, true_or, or_true, false_and, and_false, not_false_eq_true, not_true_eq_false, and_self, true_and, and_true, if_true, if_false, ite_true, ite_false, zgd_t]
    exact outer (N 0) 0 h (by omega) c.rf
  rw [hR] at hsim
  obtain ⟨o, h1, g, rfl, h2⟩ := hsim
  exact ⟨g, h1, h2⟩
-- the draft
theorem CI.draft {h g : zm_H} {N : zLv} (c : CI h N) (fr : zFr (lvA L16) h g) (ho : lvO g L16) : CQ N h g := by
  obtain ⟨hk, hL, hF, hst, ho5, ho16⟩ := c
  refine ⟨fr.mono (fun c hc => by unfold lvA at hc; rw [L16e] at hc; unfold scA; omega), ?_, ?_, ?_, ho⟩
  · rw [fr.I (fun e => by unfold lvA at e; rw [L16e] at e; omega)]
  · rw [fr.I (fun e => by unfold lvA at e; rw [L16e] at e; omega)]
  · have z0 : zI g 0 = zI h 0 := fr.I (fun e => by unfold lvA at e; rw [L16e] at e; omega)
    rcases hst with st | ⟨st, tg⟩
    · left; rw [z0]; exact st
    · right; exact ⟨by rw [z0]; exact st, TBg_off fr (fun i hi e => by unfold lvA at e; rw [L16e] at e; omega) tg⟩
theorem m_copyD {h : zm_H} {N : zLv} (c : CI h N) : ∃ g, sX2_copyFrom [.ref L16, .ref L5] h = some (.inl none, g) ∧ zFr (lvA L16) h g ∧ KL g L16 N ∧ lvO g L16 ∧ CQ N h g := by
  have hW := c.2.2.1.1
  obtain ⟨g, s1, fr, kl, lo⟩ := q_copyFrom (a := L16) (b := L5) c.1.2.2.2.2.2.2.2.2.2.2.2.2.2.2.2.2.2.1 c.1.2.2.2.2.2.2.2.2.2.2.2.2.2.2.2.2.1 (by rw [L5e, L16e]; omega) c.2.1 ⟨hW.1, hW.2.1, hW.2.2.1⟩ c.2.2.2.2.1
  exact ⟨g, s1, fr, kl, lo, c.draft fr lo⟩
/-- tours of the draft -/
theorem m_countD {h : zm_H} {N M : zLv} (c : CI h N) (hL : KL h L16 M) (hW : WB M) (h3 : M 3 ≤ 11) (h2 : M 2 < M 0) : ∃ g, sX5_countTours [.ref 0, .ref L16, .int (zI h L16 10)] h = some (.inl (some (.long (lN (nTT M (2 ^ M 2) (M 2))))), g) ∧ CQ N h g := by
  obtain ⟨g, s1, fr, h8, hj⟩ := m_countTours c.1 c.1.2.2.2.2.2.2.2.2.2.2.2.2.2.2.2.2.2.1 (by rw [L16e]; omega) (by rw [L16e]; omega) hL hW h3 h2
  refine ⟨g, ?_, c.count (Or.inr rfl) fr h8 hj⟩
  rw [hL.2.2.1]
  exact s1
/-- without a key -/
def nWo (N : zLv) (key n : Nat) : zLv := fun i => if 16 ≤ i ∧ i < 16 + 3 * n ∧ i % 3 = 1 then N i &&& (2 ^ key ^^^ 4294967295) else N i
theorem nWo_step (N : zLv) (key n : Nat) : zput (nWo N key n) (16 + 3 * n) (nWo N key n (16 + 3 * n) &&& (2 ^ key ^^^ 4294967295)) = nWo N key (n + 1) := by
  funext i
  unfold zput nWo
  by_cases e : i = 16 + 3 * n
  · rw [if_pos e, if_neg (by omega), if_pos (by omega), e]
  · rw [if_neg e]
    by_cases e2 : 16 ≤ i ∧ i < 16 + 3 * n ∧ i % 3 = 1
    · rw [if_pos e2, if_pos (by omega)]
    · rw [if_neg e2, if_neg (by omega)]
theorem nWo_lo {N : zLv} {key n i : Nat} (h : ¬ (16 ≤ i ∧ i < 16 + 3 * n ∧ i % 3 = 1)) : nWo N key n i = N i := if_neg h
theorem nWo_le {N : zLv} {key n i : Nat} : nWo N key n i ≤ N i := by
  unfold nWo
  split
  · exact Nat.and_le_left
  · exact Nat.le_refl _
theorem nWo_0 (N : zLv) (key : Nat) : nWo N key 0 = N := by
  funext i; exact if_neg (by omega)
theorem WB_nWo {N : zLv} (hW : WB N) (key : Nat) {n : Nat} (hn : n ≤ N 0) : WB (nWo N key n) := by
  have hn2 := hW.1
  have e : ∀ i, i < 16 ∨ 49 ≤ i ∨ i % 3 ≠ 1 → nWo N key n i = N i := fun i hi => nWo_lo (by omega)
  refine ⟨by rw [e 0 (by omega)]; exact hW.1, by rw [e 1 (by omega)]; exact hW.2.1, by rw [e 4 (by omega)]; exact hW.2.2.1, fun r hr => ?_, fun d hd => ?_, fun k hk => ?_⟩
  · rw [e 0 (by omega)] at hr
    have := hW.2.2.2.1 r hr
    rw [e (17 + 3 * r) (by omega)]
    exact ⟨Nat.lt_of_le_of_lt nWo_le this.1, this.2⟩
  · rw [e 1 (by omega)] at hd
    rw [e 0 (by omega), e (49 + 5 * d) (by omega), e (50 + 5 * d) (by omega), e (51 + 5 * d) (by omega), e (52 + 5 * d) (by omega), e (53 + 5 * d) (by omega)]
    exact hW.2.2.2.2.1 d hd
  · rw [e 4 (by omega)] at hk
    have := hW.2.2.1
    rw [e 0 (by omega), e (5 + k) (by omega)]
    exact hW.2.2.2.2.2 k hk
def nTwo (N : zLv) (key : Nat) : Nat := nTT (nWo N key (N 0)) (2 ^ N 2) (N 2)
theorem m_without {h : zm_H} {N : zLv} {key : Nat} (c : CI h N) (hk : key < 8) : ∃ g, sX5_without [.ref 0, .int (nI key)] h = some (.inl (some (.long (lN (nTwo N key)))), g) ∧ CQ N h g := by
  have hF := c.2.2.1
  have hW := hF.1
  have hn := hW.1
  obtain ⟨g1, s1, fr1, kl1, lo1, cq1⟩ := m_copyD c
  obtain ⟨R, hR⟩ : ∃ R : zm_O → Prop, R = (fun o => ∃ g, o = (.inl (some (.long (lN (nTwo N key)))), g) ∧ CQ N h g) := ⟨_, rfl⟩
  have loop : ∀ d r g, r + d = N 0 → CQ N h g → KL g L16 (nWo N key r) → zTo vX5_without rX5_without (9, [some (.ref 0), some (.int (nI key)), some (.int (nI r))], [], g) R := by
    intro d
    induction d with
    | zero =>
      intro r g hr cq kl
      have hr : r = N 0 := by omega
      subst hr
      have c1 := c.go cq
      have q0 := c1.1.1
      have r3 := c1.1.2.2.2.2.1
      have y16 := c1.1.2.2.2.2.2.2.2.2.2.2.2.2.2.2.2.2.2.1.1
      have l0 := kl.1
      obtain ⟨g2, s2, cq2⟩ := m_countD c1 kl (WB_nWo hW key (Nat.le_refl _)) (by rw [nWo_lo (by omega)]; have := hF.2.2.2.1; omega) (by rw [nWo_lo (by omega), nWo_lo (by omega)]; exact hF.2.2.1)
      rw [nWo_lo (i := 0) (by omega)] at l0
      rw [nWo_lo (i := 2) (by omega)] at s2
      refine zTo_of gX5_without_9 ?_
      simp only [q0, r3, y16, l0, nI_le (Nat.le_refl _) (show N 0 < 2 ^ 31 by omega), s2, zmp_s, zlt_s, zcV_s, zcI_s, zcJ_s, zcA_s, zcD_s, zcF_s, zth_n, zth_t, zrt_s, zQ_l, zQ_r, false_or, or_false, true_or, or_true, false_and, and_false, not_false_eq_true, not_true_eq_false, and_self, true_and, and_true, if_true, if_false, ite_true, ite_false, zgd_t]
      rw [hR]
      exact ⟨g2, rfl, cq.tr cq2⟩
    | succ d ih =>
      intro r g hr cq kl
      have c1 := c.go cq
      have q0 := c1.1.1
      have r3 := c1.1.2.2.2.2.1
      have v16 := c1.1.2.2.2.2.2.2.2.2.2.2.2.2.2.2.2.2.2.1
      have y16 := v16.1
      have y162 := v16.2.2.1
      have yk := v16.2.2.2.2.2.2.2.2.2.2.2.2.1
      have l0 := kl.1
      rw [nWo_lo (i := 0) (by omega)] at l0
      have lr := kl.2.2.2.2.2.2.1 r (by rw [nWo_lo (by omega)]; omega)
      obtain ⟨f1, f2, f3, f4⟩ := nI_for (show r < N 0 by omega) (by omega)
      have st := KL_keys kl ⟨by rw [nWo_lo (by omega)]; omega, by rw [nWo_lo (by omega)]; exact hW.2.2.1⟩ r (nWo N key r (16 + 3 * r) &&& (2 ^ key ^^^ 4294967295)) (by omega)
      rw [nWo_step] at st
      have frz : zFr (lvA L16) g (zsI g (L16 + 2) r (nI (nWo N key r (16 + 3 * r) &&& (2 ^ key ^^^ 4294967295)))) := zFr.sI (by unfold lvA; omega)
      have lo : lvO (zsI g (L16 + 2) r (nI (nWo N key r (16 + 3 * r) &&& (2 ^ key ^^^ 4294967295)))) L16 := lvO_fr (A := fun c => c = L16 + 2) (zFr.sI rfl) (by omega) c1.2.2.2.2.2
      refine zTo_of gX5_without_9 ?_
      simp only [q0, r3, y16, y162, yk, l0, f1, f2, f3, f4, lr, show ¬ 11 ≤ r by omega, nx_shl1 (show key < 32 by omega), nI_not, zmp_s, zlt_s, zcV_s, zcI_s, zcJ_s, zcA_s, zcD_s, zcF_s, zth_n, zth_t, zrt_s, zQ_l, zQ_r, false_or, or_false, true_or, or_true, false_and, and_false, not_false_eq_true, not_true_eq_false, and_self, true_and, and_true, if_true, if_false, ite_true, ite_false, zgd_t]
      exact ih (r + 1) _ (by omega) (cq.tr (c1.draft frz lo)) st
  have q0 := c.1.1
  have r2 := c.1.2.2.2.1
  have r3 := c.1.2.2.2.2.1
  have y16 := c.1.2.2.2.2.2.2.2.2.2.2.2.2.2.2.2.2.2.1.1
  have hsim : zW (sX5_without [.ref 0, .int (nI key)] h) R := by
    refine zsem_to (Nat.le_of_ble_eq_true rfl) (zTo_of gX5_without_0 ?_)
    simp only [m_needKey hk, q0, r2, r3, y16, s1, zmp_s, zlt_s, zcV_s, zcI_s, zcJ_s, zcA_s, zcD_s, zcF_s, zth_n, zth_t, zrt_s, zQ_l, zQ_r, false_or, or_false, true_or, or_true, false_and, and_false, not_false_eq_true, not_true_eq_false, and_self, true_and, and_true, if_true, if_false, ite_true, ite_false, zgd_t]
    exact loop (N 0) 0 g1 (by omega) cq1 (by rw [nWo_0]; exact kl1)
  rw [hR] at hsim
  obtain ⟨o, h1, g, rfl, h2⟩ := hsim
  exact ⟨g, h1, h2⟩
theorem m_withoutX {h : zm_H} {x : Int32} (hx : x < 0 ∨ nI 8 ≤ x) : sX5_without [.ref 0, .int x] h = some (.inr 2, h) := by
  refine zsem_eq (Nat.le_of_ble_eq_true rfl) (zTo_of gX5_without_0 ?_)
  simp only [m_needKeyX hx, zmp_s, zlt_s, zcV_s, zcI_s, zcJ_s, zcA_s, zcD_s, zcF_s, zth_n, zth_t, zrt_s, zQ_l, zQ_r, zgd_t]
end ZC4
