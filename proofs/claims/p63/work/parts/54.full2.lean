/-! THE CLASS: the walk completed, a tour walked. -/
section ZCE
theorem nTT_cg {N M : zLv} (h : ∀ i, i < 4 ∨ 16 ≤ i → M i = N i) : nTT M = nTT N := by
  have e0 := h 0 (by omega)
  have e3 := h 3 (by omega)
  have ex : nnx M = nnx N := nnx_cg (fun i hi => h i (by omega))
  have em : nme M = nme N := by funext r; unfold nme; rw [e3]
  have eb : nba M = nba N := by funext S a; unfold nba; rw [e0, em]
  funext S a
  unfold nTT
  rw [ex, eb, e0]
theorem nWW_cg {N M : zLv} (h : ∀ i, i < 4 ∨ 16 ≤ i → M i = N i) : nWW M = nWW N := by
  have e0 := h 0 (by omega)
  have ex : nnx M = nnx N := nnx_cg (fun i hi => h i (by omega))
  funext S0 a0 S a
  unfold nWW
  rw [ex, e0]
theorem TBg_cg {N M : zLv} {g : zm_H} {t a b : Nat} (h : ∀ i, i < 4 ∨ 16 ≤ i → M i = N i) (H : TBg g t N a b) : TBg g t M a b := by
  have e0 := h 0 (by omega)
  have e3 := h 3 (by omega)
  have ex : nnx M = nnx N := nnx_cg (fun i hi => h i (by omega))
  have em : nme M = nme N := by funext r; unfold nme; rw [e3]
  have el : nld M = nld N := by funext S r; exact nld_cg (fun i hi => h i (by omega)) S r
  unfold TBg TBs at H ⊢
  rw [nTT_cg h, nWW_cg h, ex, em, el, e0]
  exact H
/-- a change of the walk alone -/
theorem CI.chw {h g : zm_H} {N M : zLv} {P : List zLv} (c : CI h N) (H : HH h P) (e : ∀ i, i < 4 ∨ 16 ≤ i → M i = N i) (fr : zFr (lvA L5) h g) (hL : KL g L5 M) (hM : WF M) (ho : lvO g L5) : CT h g M P := by
  have z0 : zI g 0 = zI h 0 := fr.I (fun e => by unfold lvA at e; rw [L5e] at e; omega)
  refine ⟨fr.mono (fun c hc => by unfold lvA at hc; rw [L5e] at hc; unfold chA; omega), by rw [z0], by rw [z0], ⟨ktS_kp fr.K fr.P c.1, hL, hM, ?_, ho, lvO_fr fr (fun e => by unfold lvA at e; rw [L5e, L16e] at e; omega) c.2.2.2.2.2⟩, HH_fr fr (fun c h1 h2 e => by unfold lvA at e; rw [L5e] at e; omega) H⟩
  rcases c.2.2.2.1 with st | ⟨st, tg⟩
  · left; rw [z0]; exact st
  · right
    rw [z0, e 2 (by omega)]
    exact ⟨st, TBg_cg e (TBg_off fr (fun i hi q => by unfold lvA at q; rw [L5e] at q; omega) tg)⟩
def nCm (N : zLv) : zLv := nWl N (nFl N (nwk N) (N 4) 0)
theorem nCm_ok {N : zLv} (hF : WF N) (h0 : nCo N ≠ 0) : nvs N (nsk (nwk N) (N 4), nwk N (N 4 - 1), 0) ∧ npc (nsk (nwk N) (N 4)) (N 0) = N 4 ∧ 0 < nWW N (2 ^ N 2) (N 2) (nsk (nwk N) (N 4)) (nwk N (N 4 - 1)) ∧ WF (nCm N) := by
  have h1 := hF.2.2.2.2.1
  have l : nwk N (N 4 - 1) = N (4 + N 4) := by unfold nwk; rw [show 5 + (N 4 - 1) = 4 + N 4 by omega]
  have pc := hF.pc (N 4 - 1) (by omega)
  rw [show N 4 - 1 + 1 = N 4 by omega] at pc
  have re := hF.reach (N 4 - 1) (by omega)
  rw [show N 4 - 1 + 1 = N 4 by omega] at re
  have v : nvs N (nsk (nwk N) (N 4), nwk N (N 4 - 1), 0) := by
    refine ⟨hF.set_lt (Nat.le_refl _), hF.wk (by omega), nW_bit (nx := nnx N) (n := N 0) (S0 := 2 ^ N 2) (a0 := N 2) hF.bit.2 re, ?_⟩
    show 0 < nTT N (nsk (nwk N) (N 4)) (nwk N (N 4 - 1))
    rw [l, ← nset_nsk]
    have : nTT N (nset N) (N (4 + N 4)) ≠ 0 := h0
    omega
  obtain ⟨a, b⟩ := nFl_ok hF.1 h1 (fun i hi => hF.wk hi) (fun k hk => hF.2.2.2.2.2.2.2.1 k hk) v pc
  refine ⟨v, pc, re, WF_nWl hF ?_ a b⟩
  rw [nFl_lo (by omega)]
  exact hF.2.2.2.2.2.2.1
theorem m_complete {h : zm_H} {N : zLv} {P : List zLv} (c : CI h N) (H : HH h P) (h0 : nCo N ≠ 0) :
    ∃ g, sX5_complete [.ref 0] h = some (.inl (some (.int (nI (N 0 - N 4)))), g) ∧ CT h g (nCm N) (pst N P) := by
  have hF := c.2.2.1
  have hW := hF.1
  have hn := hW.1
  have h1 := hF.2.2.2.2.1
  have h40 := hF.2.2.2.2.2.1
  have cl := nCo_lt hF
  obtain ⟨v, pc, re, wf⟩ := nCm_ok hF h0
  obtain ⟨g1, s1, cq1⟩ := m_completions c
  have t1 := cq1.t c H
  have c1 := t1.2.2.2.1
  obtain ⟨g2, s2, t2, -⟩ := m_record c1 t1.2.2.2.2
  have c2 := t2.2.2.2.1
  obtain ⟨g3, s3, cq3, tg⟩ := m_solved c2
  have t3 := cq3.t c2 t2.2.2.2.2
  have c3 := t3.2.2.2.1
  have hS := c3.1.2.2.2.2.2.2.2.2.2.2.2.2.2.2.2.2.1
  have tb3 := c3.1.2.2.2.2.2.2.2.2.2.2.2.2.2.2.2.2.2.2.2.2.2.2.2.2.2.1
  have k93 := hS.2.2.2.2.2.2.2.2.2.2.2.2.2.2.2.2.2.2.2.1
  have fl := q_follow (h := g3) (t := 119) (q := L5 + 9) (len := N 4) (S0 := 2 ^ N 2) (a0 := N 2) (rank := 0) (N := N) (f := nwk N) tb3 hW tg (by rw [L5e]; omega) k93 ⟨h1, h40⟩ (fun i hi => ⟨c3.2.1.2.2.2.2.2.2.2.2.2.2.2.2.2 i hi, hF.wk hi⟩) v re pc
  obtain ⟨f, hf⟩ : ∃ f, f = nfw N (nsk (nwk N) (N 4), nwk N (N 4 - 1), 0) (N 4) (zI g3 (L5 + 9)) (N 0) := ⟨_, rfl⟩
  rw [← hf] at fl
  obtain ⟨g4, hg4⟩ : ∃ g4, g4 = zrI g3 (L5 + 9) f := ⟨_, rfl⟩
  rw [← hg4] at fl
  obtain ⟨g5, hg5⟩ : ∃ g5, g5 = zsI g4 L5 13 (nI (N 0)) := ⟨_, rfl⟩
  have fr4 : zFr (fun c => c = L5 + 9) g3 g4 := by rw [hg4]; exact zFr.rI rfl
  have fr5 : zFr (fun c => c = L5) g4 g5 := by rw [hg5]; exact zFr.sI rfl
  have kl5 : KL g5 L5 (nCm N) := KL_nWl c3.2.1 hn (by rw [hg5, hg4]) (fun k hk => by
    rw [hf]
    unfold nfw nFl
    by_cases w : k < N 4
    · rw [if_neg (by omega), if_pos w]
      exact c3.2.1.2.2.2.2.2.2.2.2.2.2.2.2.2 k w
    · rw [if_pos ⟨by omega, hk⟩, if_neg w])
  have t5 := c3.chw t3.2.2.2.2 (M := nCm N) (fun i hi => nWl_lo hn hi) ((fr4.mono (fun c hc => by unfold lvA; omega)).tr (fr5.mono (fun c hc => by unfold lvA; omega))) kl5 wf (lvO_fr fr5 (by omega) (lvO_fr fr4 (by omega) c3.2.2.2.2.1))
  have q00 := c.1.1
  have q01 := c1.1.1
  have r21 := c1.1.2.2.2.1
  have y51 := c1.1.2.2.2.2.2.2.2.2.2.2.2.2.2.2.2.2.1.1
  have l41 := c1.2.1.2.2.2.2.1
  have q02 := c2.1.1
  have q03 := c3.1.1
  have r23 := c3.1.2.2.2.1
  have y119 := tb3.1
  have K4 := fr4.K
  have P4 := fr4.P
  have K5 := fr5.K
  have P5 := fr5.P
  have l04 : zI g4 L5 0 = nI (N 0) := by rw [hg4, I_rIn (by omega)]; exact c3.2.1.1
  have l45 : zI g5 L5 13 = nI (N 0) := by rw [hg5, I_sIs, zput_self]
  have hz : (lg_cmp (lN (nCo N)) (0 : Int64) = 0) = False := eq_false (fun e => h0 ((lgeq0 (show nCo N < 2 ^ 63 by omega)).mp e))
  have v4 : nI (N 0) - nI (N 4) = nI (N 0 - N 4) := pk_sub h40
  have fl' : sX4_follow [.ref 119, .ref (L5 + 9), .int (nI (N 4)), .long (0 : Int64)] g3 = some (.inl none, g4) := fl
  obtain ⟨k0, p1, p2, p3, p5, p6, p7, p8, p9, p12, p14, k1, k2, k3, k4, k5, k6, k7, k8, k9, k10⟩ := hS
  refine ⟨g5, ?_, t1.tr (t2.tr (t3.tr t5))⟩
  refine zsem_eq (Nat.le_of_ble_eq_true rfl) (zTo_of gX5_complete_0 ?_)
  simp only [q00, s1, hz, q01, r21, y51, l41, s2, q02, s3, q03, r23, k0, p12, y119, fl', K4, P4, l04, ← hg5, K5, P5, l45, v4, zmp_s, zlt_s, zcV_s, zcI_s, zcJ_s, zcA_s, zcD_s, zcF_s, zth_n, zth_t, zrt_s, zQ_l, zQ_r, false_or, or_false, true_or, or_true, false_and, and_false, not_false_eq_true, not_true_eq_false, and_self, true_and, and_true, if_true, if_false, ite_true, ite_false, zgd_t]
theorem m_completeX {h : zm_H} {N : zLv} (c : CI h N) (h0 : nCo N = 0) : ∃ g, sX5_complete [.ref 0] h = some (.inr 0, g) ∧ CQ N h g := by
  obtain ⟨g1, s1, cq1⟩ := m_completions c
  have q00 := c.1.1
  have cl := nCo_lt c.2.2.1
  have hz : (lg_cmp (lN (nCo N)) (0 : Int64) = 0) = True := eq_true ((lgeq0 (show nCo N < 2 ^ 63 by omega)).mpr h0)
  refine ⟨g1, ?_, cq1⟩
  refine zsem_eq (Nat.le_of_ble_eq_true rfl) (zTo_of gX5_complete_0 ?_)
  simp only [q00, s1, hz, zmp_s, zlt_s, zcV_s, zcI_s, zcJ_s, zcA_s, zcD_s, zcF_s, zth_n, zth_t, zrt_s, zQ_l, zQ_r, false_or, or_false, true_or, or_true, false_and, and_false, not_false_eq_true, not_true_eq_false, and_self, true_and, and_true, if_true, if_false, ite_true, ite_false, zgd_t]
def nWa (N : zLv) (k : Nat) : zLv := nWl N (nTp N k)
theorem nWa_ok {N : zLv} (hF : WF N) {k : Nat} (hk : k < nTo N) : WF (nWa N k) := by
  have n1 := hF.2.1
  obtain ⟨f, hf⟩ : ∃ f : Nat → Nat, f = fun _ => N 2 := ⟨_, rfl⟩
  have e0 : f 0 = N 2 := by rw [hf]
  have e1 : nsk f 1 = 2 ^ N 2 := by
    show 0 ||| 2 ^ f 0 = _
    rw [Nat.zero_or, e0]
  have v : nvs N (nsk f 1, f (1 - 1), k) := by
    show nvs N (nsk f 1, f 0, k)
    rw [e1, e0]
    exact ⟨hF.bit.1, hF.2.2.1, hF.bit.2, hk⟩
  have pc : npc (nsk f 1) (N 0) = 1 := by
    rw [e1]
    have := npc_or (S := 0) (N 0) hF.2.2.1 (Nat.zero_testBit _)
    rw [Nat.zero_or] at this
    rw [this]
    have : npc 0 (N 0) = 0 := zsu_0 _ (fun i _ => by rw [Nat.zero_testBit]; rfl)
    rw [this]
  obtain ⟨a, b⟩ := nFl_ok hF.1 (Nat.le_refl 1) (fun i hi => by rw [hf]; exact hF.2.2.1) (fun j hj => by omega) v pc
  have e : nFl N f 1 k = nTp N k := by
    funext p
    unfold nFl nTp
    rw [show (1 : Nat) - 1 = 0 from rfl, e1, e0]
    by_cases w : p < 1
    · have : p = 0 := by omega
      subst this
      rw [if_pos w, e0]; rfl
    · rw [if_neg w, show p - 1 + 1 = p by omega]
  rw [e] at a b
  exact WF_nWl hF rfl a b
theorem m_walk {h : zm_H} {N : zLv} {P : List zLv} {k : Nat} (c : CI h N) (H : HH h P) (hk : k < nTo N) :
    ∃ g, sX5_walk [.ref 0, .long (lN k)] h = some (.inl (some (.int (nI (nTp N k (N 0 - 1))))), g) ∧ CT h g (nWa N k) (pst N P) := by
  have hF := c.2.2.1
  have hW := hF.1
  have hn := hW.1
  have n1 := hF.2.1
  have wf := nWa_ok hF hk
  obtain ⟨g1, s1, cq1, -⟩ := m_needTour c hk
  have t1 := cq1.t c H
  have c1 := t1.2.2.2.1
  obtain ⟨g2, s2, t2, -⟩ := m_record c1 t1.2.2.2.2
  have c2 := t2.2.2.2.1
  obtain ⟨g3, s3, cq3, row⟩ := m_fillRow c2 hk
  have t3 := cq3.t c2 t2.2.2.2.2
  have c3 := t3.2.2.2.1
  have hS := c3.1.2.2.2.2.2.2.2.2.2.2.2.2.2.2.2.2.1
  obtain ⟨f, hf⟩ : ∃ f, f = va_cpy (zI g3 124) (zI g3 (L5 + 9)) 0 0 (N 0) := ⟨_, rfl⟩
  obtain ⟨g4, hg4⟩ : ∃ g4, g4 = zrI g3 (L5 + 9) f := ⟨_, rfl⟩
  obtain ⟨g5, hg5⟩ : ∃ g5, g5 = zsI g4 L5 13 (nI (N 0)) := ⟨_, rfl⟩
  have fr4 : zFr (fun c => c = L5 + 9) g3 g4 := by rw [hg4]; exact zFr.rI rfl
  have fr5 : zFr (fun c => c = L5) g4 g5 := by rw [hg5]; exact zFr.sI rfl
  have kl5 : KL g5 L5 (nWa N k) := KL_nWl c3.2.1 hn (by rw [hg5, hg4]) (fun j hj => by
    rw [hf]
    unfold va_cpy
    simp only [Nat.zero_add, Nat.zero_le, true_and, Nat.sub_zero, Nat.add_zero, hj, if_true]
    exact row j hj)
  have t5 := c3.chw t3.2.2.2.2 (M := nWa N k) (fun i hi => nWl_lo hn hi) ((fr4.mono (fun c hc => by unfold lvA; omega)).tr (fr5.mono (fun c hc => by unfold lvA; omega))) kl5 wf (lvO_fr fr5 (by omega) (lvO_fr fr4 (by omega) c3.2.2.2.2.1))
  have q00 := c.1.1
  have q01 := c1.1.1
  have q02 := c2.1.1
  have q03 := c3.1.1
  have r23 := c3.1.2.2.2.1
  have r93 := c3.1.2.2.2.2.2.2.2.2.2.1
  have rw3 := c3.1.2.2.2.2.2.2.2.2.2.2.2.2.2.2.2.2.2.2.2.2.2.2.2.2.2.2
  have l03 := c3.2.1.1
  have K4 := fr4.K
  have P4 := fr4.P
  have K5 := fr5.K
  have P5 := fr5.P
  have l04 : zI g4 L5 0 = nI (N 0) := by rw [hg4, I_rIn (by omega)]; exact c3.2.1.1
  have e4 : nWa N k 4 = N 0 := nWl_4
  have lr := q_lastRoom (t5.2.2.2.1.1.2.2.2.2.2.2.2.2.2.2.2.2.2.2.2.2.1) kl5 (by rw [e4]; exact hn) (by rw [e4]; exact n1)
  have e5 : nWa N k (4 + N 0) = nTp N k (N 0 - 1) := by
    have := nWl_at (w := nTp N k) (show N 0 - 1 < N 0 by omega)
    rw [show 5 + (N 0 - 1) = 4 + N 0 by omega] at this
    exact this
  rw [e4, e5] at lr
  obtain ⟨k0, p1, p2, p3, p5, p6, p7, p8, p9, p12, p14, k1, k2, k3, k4, k5, k6, k7, k8, k9, k10⟩ := hS
  refine ⟨g5, ?_, t1.tr (t2.tr (t3.tr t5))⟩
  refine zsem_eq (Nat.le_of_ble_eq_true rfl) (zTo_of gX5_walk_0 ?_)
  simp only [q00, s1, q01, s2, q02, s3, q03, r23, r93, rw3, k0, p12, k9, l03, c_0, p_0, nI_clamp (show N 0 < 2 ^ 31 by omega), nI_lt0 (show N 0 < 2 ^ 31 by omega), show (0 : Int32).toNatClampNeg = 0 from rfl, show ((0 : Int32) < 0) = False by decide, Nat.zero_add, hn, ← hf, ← hg4, K4, P4, l04, ← hg5, K5, P5, lr, zmp_s, zlt_s, zcV_s, zcI_s, zcJ_s, zcA_s, zcD_s, zcF_s, zth_n, zth_t, zrt_s, zQ_l, zQ_r, false_or, or_false, true_or, or_true, false_and, and_false, not_false_eq_true, not_true_eq_false, and_self, true_and, and_true, if_true, if_false, ite_true, ite_false, zgd_t]
theorem m_walkX {h : zm_H} {N : zLv} {x : Int64} (c : CI h N) (hx : x < 0 ∨ lN (nTo N) ≤ x) : ∃ g, sX5_walk [.ref 0, .long x] h = some (.inr 1, g) ∧ CQ N h g := by
  have q00 := c.1.1
  obtain ⟨g1, s1, cq1⟩ := m_needTourX c hx
  refine ⟨g1, ?_, cq1⟩
  refine zsem_eq (Nat.le_of_ble_eq_true rfl) (zTo_of gX5_walk_0 ?_)
  simp only [q00, s1, zmp_s, zlt_s, zcV_s, zcI_s, zcJ_s, zcA_s, zcD_s, zcF_s, zth_n, zth_t, zrt_s, zQ_l, zQ_r, false_or, or_false, true_or, or_true, false_and, and_false, not_false_eq_true, not_true_eq_false, and_self, true_and, and_true, if_true, if_false, ite_true, ite_false, zgd_t]
end ZCE

