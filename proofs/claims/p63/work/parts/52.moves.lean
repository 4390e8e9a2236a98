/-! THE CLASS: moves of the walk. -/
section ZCC
/-- another walk on the same level -/
theorem WF_walk {N M : zLv} (hF : WF N) (h : ∀ i, i < 4 ∨ i = 5 ∨ 16 ≤ i → M i = N i) (h1 : 1 ≤ M 4) (h4 : M 4 ≤ N 0) (hw : ∀ k, k < M 4 → M (5 + k) < N 0) (hs : ∀ k, k + 1 < M 4 → nnx N (nsk (nwk M) (k + 1)) (nwk M k) (nwk M (k + 1)) = true) : WF M := by
  obtain ⟨hW, n1, h2, h3, -, -, h5, -, hn⟩ := hF
  have w0 := hW.1
  have ex : nnx M = nnx N := nnx_cg (fun i hi => h i (by omega))
  refine ⟨⟨by rw [h 0 (by omega)]; exact w0, by rw [h 1 (by omega)]; exact hW.2.1, by omega, ?_, ?_, ?_⟩, by rw [h 0 (by omega)]; exact n1, by rw [h 0 (by omega), h 2 (by omega)]; exact h2, by rw [h 0 (by omega), h 3 (by omega)]; exact h3, h1, by rw [h 0 (by omega)]; exact h4, by rw [h 5 (by omega), h 2 (by omega)]; exact h5, ?_, ?_⟩
  · rw [h 0 (by omega)]
    intro r hr
    rw [h _ (by omega), h _ (by omega)]; exact hW.2.2.2.1 r hr
  · rw [h 0 (by omega), h 1 (by omega)]
    intro d hd
    rw [h (49 + 5 * d) (by omega), h (50 + 5 * d) (by omega), h (51 + 5 * d) (by omega), h (52 + 5 * d) (by omega), h (53 + 5 * d) (by omega)]
    exact hW.2.2.2.2.1 d hd
  · rw [h 0 (by omega)]; exact hw
  · rw [ex]; exact hs
  · rw [h 0 (by omega)]
    intro r hr
    rw [h _ (by omega)]; exact hn r hr
theorem WF_short {N : zLv} {x : Nat} (hF : WF N) (h1 : 1 ≤ x) (hx : x ≤ N 4) : WF (zput N 4 x) := by
  have e4 : zput N 4 x 4 = x := zput_self _ _ _
  have e : ∀ i, i ≠ 4 → zput N 4 x i = N i := fun i hi => zput_ne _ _ hi
  refine WF_walk hF (fun i hi => e i (by omega)) (by rw [e4]; exact h1) (by rw [e4]; have := hF.2.2.2.2.2.1; omega) (fun k hk => ?_) (fun k hk => ?_)
  · rw [e4] at hk
    rw [e _ (by omega)]; exact hF.1.2.2.2.2.2 k (by omega)
  · rw [e4] at hk
    rw [show nwk (zput N 4 x) = nwk N from funext (fun i => e (5 + i) (by omega))]
    exact hF.2.2.2.2.2.2.2.1 k (by omega)
theorem m_back {h : zm_H} {N : zLv} {P : List zLv} {k : Nat} (c : CI h N) (H : HH h P) (hk : 1 ≤ k ∧ k ≤ N 4 - 1) :
    ∃ g, sX5_back [.ref 0, .int (nI k)] h = some (.inl (some (.int (nI (N (4 + (N 4 - k)))))), g) ∧ CT h g (zput N 4 (N 4 - k)) (pst N P) := by
  have hF := c.2.2.1
  have hW := hF.1
  have hn := hW.1
  have hl := hW.2.2.1
  obtain ⟨g1, s1, t1, st1⟩ := m_record c H
  have c1 := t1.2.2.2.1
  have H1 := t1.2.2.2.2
  have hS := c1.1.2.2.2.2.2.2.2.2.2.2.2.2.2.2.2.2.1
  obtain ⟨g2, hg2⟩ : ∃ g2, g2 = zsI g1 L5 13 (nI (N 4 - k)) := ⟨_, rfl⟩
  have kl2 : KL g2 L5 (zput N 4 (N 4 - k)) := by rw [hg2]; exact KL_len_dn c1.2.1 _ (by omega)
  have fr2 : zFr (fun c => c = L5) g1 g2 := by rw [hg2]; exact zFr.sI rfl
  obtain ⟨t3, -⟩ := c1.chg H1 st1 (fr2.mono (fun c hc => by unfold lvA; omega)) kl2 (WF_short hF (by omega) (by omega)) (lvO_fr fr2 (by omega) c1.2.2.2.2.1)
  have q01 := c1.1.1
  have r21 := c1.1.2.2.2.1
  have q00 := c.1.1
  have r20 := c.1.2.2.2.1
  have y50 := c.1.2.2.2.2.2.2.2.2.2.2.2.2.2.2.2.2.1.1
  have l40 := c.2.1.2.2.2.2.1
  have l41 := c1.2.1.2.2.2.2.1
  have e4 : zput N 4 (N 4 - k) 4 = N 4 - k := zput_self _ _ _
  have lr := q_lastRoom (lvS_fr fr2 hS) kl2 (by rw [e4]; omega) (by rw [e4]; omega)
  rw [e4, zput_ne _ _ (by omega)] at lr
  have v1 : (nI k < (1 : Int32)) = False := eq_false (fun e => by have := (nI_ltI (b := 1) (by omega) (by omega)).mp e; omega)
  have v2 : nI (N 4) - (1 : Int32) = nI (N 4 - 1) := pk_sub (b := 1) (by omega)
  have v3 : (nI k ≤ nI (N 4 - 1)) = True := eq_true ((nI_leI (by omega) (by omega)).mpr hk.2)
  have v4 : nI (N 4) - nI k = nI (N 4 - k) := pk_sub (by omega)
  have K2 := fr2.K
  have P2 := fr2.P
  obtain ⟨k0, p1, p2, p3, p5, p6, p7, p8, p9, p12, p14, k1, k2, k3, k4, k5, k6, k7, k8, k9, k10⟩ := hS
  refine ⟨g2, ?_, t1.tr t3⟩
  refine zsem_eq (Nat.le_of_ble_eq_true rfl) (zTo_of gX5_back_0 ?_)
  simp only [v1, q00, r20, y50, l40, v2, v3, s1, q01, r21, k0, l41, v4, ← hg2, K2, P2, lr, zmp_s, zlt_s, zcV_s, zcI_s, zcJ_s, zcA_s, zcD_s, zcF_s, zth_n, zth_t, zrt_s, zQ_l, zQ_r, false_or, or_false, true_or, or_true, false_and, and_false, not_false_eq_true, not_true_eq_false, and_self, true_and, and_true, if_true, if_false, ite_true, ite_false, zgd_t]
theorem m_backX {h : zm_H} {N : zLv} {x : Int32} (c : CI h N) (hx : x < 1 ∨ ¬ x ≤ nI (N 4 - 1)) : sX5_back [.ref 0, .int x] h = some (.inr 1, h) := by
  have hF := c.2.2.1
  have h4 := hF.2.2.2.2.1
  have q0 := c.1.1
  have r20 := c.1.2.2.2.1
  have y50 := c.1.2.2.2.2.2.2.2.2.2.2.2.2.2.2.2.2.1.1
  have l40 := c.2.1.2.2.2.2.1
  have v2 : nI (N 4) - (1 : Int32) = nI (N 4 - 1) := pk_sub (b := 1) (by omega)
  refine zsem_eq (Nat.le_of_ble_eq_true rfl) (zTo_of gX5_back_0 ?_)
  by_cases w : x < 1
  · simp only [w, zmp_s, zlt_s, zcV_s, zcI_s, zcJ_s, zcA_s, zcD_s, zcF_s, zth_n, zth_t, zrt_s, zQ_l, zQ_r, false_or, or_false, true_or, or_true, false_and, and_false, not_false_eq_true, not_true_eq_false, and_self, true_and, and_true, if_true, if_false, ite_true, ite_false]
  · simp only [w, q0, r20, y50, l40, v2, hx.resolve_left w, zmp_s, zlt_s, zcV_s, zcI_s, zcJ_s, zcA_s, zcD_s, zcF_s, zth_n, zth_t, zrt_s, zQ_l, zQ_r, false_or, or_false, true_or, or_true, false_and, and_false, not_false_eq_true, not_true_eq_false, and_self, true_and, and_true, if_true, if_false, ite_true, ite_false, zgd_t]
theorem m_again {h : zm_H} {N : zLv} {P : List zLv} (c : CI h N) (H : HH h P) :
    ∃ g, sX5_again [.ref 0] h = some (.inl (some (.int (nI (N 4)))), g) ∧ CT h g (zput N 4 1) (pst N P) := by
  have hF := c.2.2.1
  have hW := hF.1
  obtain ⟨g1, s1, t1, st1⟩ := m_record c H
  have c1 := t1.2.2.2.1
  have H1 := t1.2.2.2.2
  have hS := c1.1.2.2.2.2.2.2.2.2.2.2.2.2.2.2.2.2.1
  obtain ⟨g2, hg2⟩ : ∃ g2, g2 = zsI g1 L5 13 (1 : Int32) := ⟨_, rfl⟩
  have kl2 : KL g2 L5 (zput N 4 1) := by rw [hg2]; exact KL_len_dn c1.2.1 1 hF.2.2.2.2.1
  have fr2 : zFr (fun c => c = L5) g1 g2 := by rw [hg2]; exact zFr.sI rfl
  obtain ⟨t3, -⟩ := c1.chg H1 st1 (fr2.mono (fun c hc => by unfold lvA; omega)) kl2 (WF_short hF (Nat.le_refl _) hF.2.2.2.2.1) (lvO_fr fr2 (by omega) c1.2.2.2.2.1)
  have q01 := c1.1.1
  have r21 := c1.1.2.2.2.1
  have q00 := c.1.1
  have r20 := c.1.2.2.2.1
  have y50 := c.1.2.2.2.2.2.2.2.2.2.2.2.2.2.2.2.2.1.1
  have l40 := c.2.1.2.2.2.2.1
  obtain ⟨k0, p1, p2, p3, p5, p6, p7, p8, p9, p12, p14, k1, k2, k3, k4, k5, k6, k7, k8, k9, k10⟩ := hS
  refine ⟨g2, ?_, t1.tr t3⟩
  refine zsem_eq (Nat.le_of_ble_eq_true rfl) (zTo_of gX5_again_0 ?_)
  simp only [q00, r20, y50, l40, s1, q01, r21, k0, ← hg2, zmp_s, zlt_s, zcV_s, zcI_s, zcJ_s, zcA_s, zcD_s, zcF_s, zth_n, zth_t, zrt_s, zQ_l, zQ_r, false_or, or_false, true_or, or_true, false_and, and_false, not_false_eq_true, not_true_eq_false, and_self, true_and, and_true, if_true, if_false, ite_true, ite_false, zgd_t]
def nGo1 (N : zLv) (r : Nat) : zLv := zput (zput N (5 + N 4) r) 4 (N 4 + 1)
theorem why0 {N : zLv} (hF : WF N) {r : Nat} (hr : r < N 0) (h : nWhy N r = 0) : nnx N (nset N) (N (4 + N 4)) r = true ∧ N 4 < N 0 := by
  unfold nWhy at h
  have hp : nplace N r (N 4) = none := by
    cases q : nplace N r (N 4) with
    | none => rfl
    | some k => rw [q] at h; simp at h
  rw [hp] at h
  have ha : nany (fun d => ndgo N d (N (4 + N 4)) r && nopen N d (nkeys N (nset N)) (ncoins N (nset N))) (N 1) = true := by
    cases q : nany (fun d => ndgo N d (N (4 + N 4)) r && nopen N d (nkeys N (nset N)) (ncoins N (nset N))) (N 1) with
    | true => rfl
    | false =>
      rw [q] at h
      simp at h
      split at h
      · omega
      · split at h <;> omega
  have hb : (nset N).testBit r = false := by
    cases q : (nset N).testBit r with
    | false => rfl
    | true =>
      rw [nset_nsk, nsk_bit, nany_iff] at q
      obtain ⟨k, hk, e⟩ := q
      exact absurd (of_decide_eq_true e) (nplace_none.mp hp k hk)
  refine ⟨?_, ?_⟩
  · unfold nnx
    rw [hb]
    unfold nld
    rw [nld_bit]
    rw [nany_iff] at ha
    obtain ⟨d, hd, e⟩ := ha
    have : nany (fun d => nopen N d (nkeys N (nset N)) (ncoins N (nset N)) && ndgo N d (N (4 + N 4)) r) (N 1) = true := nany_iff.mpr ⟨d, hd, by rw [Bool.and_comm]; exact e⟩
    rw [this]; rfl
  · have h1 := hF.2.2.2.2.1
    have pc := hF.pc (N 4 - 1) (by omega)
    rw [show N 4 - 1 + 1 = N 4 by omega, ← nset_nsk] at pc
    have p1 := npc_or (N 0) hr hb
    have p2 := npc_le (nset N ||| 2 ^ r) (N 0)
    omega
theorem WF_go {N : zLv} (hF : WF N) {r : Nat} (hr : r < N 0) (h : nWhy N r = 0) : WF (nGo1 N r) := by
  obtain ⟨x, l⟩ := why0 hF hr h
  have w0 := hF.1.1
  have h1 := hF.2.2.2.2.1
  have e4 : nGo1 N r 4 = N 4 + 1 := zput_self _ _ _
  have e : ∀ i, i ≠ 4 → i ≠ 5 + N 4 → nGo1 N r i = N i := fun i a b => by unfold nGo1; rw [zput_ne _ _ a, zput_ne _ _ b]
  have el : nGo1 N r (5 + N 4) = r := by unfold nGo1; rw [zput_ne _ _ (by omega), zput_self]
  have w : ∀ i, i < N 4 → nwk (nGo1 N r) i = nwk N i := fun i hi => e (5 + i) (by omega) (by omega)
  refine WF_walk hF (fun i hi => e i (by omega) (by omega)) (by rw [e4]; omega) (by rw [e4]; omega) (fun k hk => ?_) (fun k hk => ?_)
  · rw [e4] at hk
    by_cases z : k = N 4
    · rw [z, el]; exact hr
    · rw [e _ (by omega) (by omega)]; exact hF.1.2.2.2.2.2 k (by omega)
  · rw [e4] at hk
    rw [nsk_cg (k + 1) (fun i hi => w i (by omega)), w k (by omega)]
    by_cases z : k + 1 = N 4
    · have e1 : nwk (nGo1 N r) (k + 1) = r := by rw [z]; exact el
      rw [e1, z, ← nset_nsk, show nwk N k = N (4 + N 4) by unfold nwk; rw [show 5 + k = 4 + N 4 by omega]]
      exact x
    · rw [w (k + 1) (by omega)]; exact hF.2.2.2.2.2.2.2.1 k (by omega)
theorem m_go {h : zm_H} {N : zLv} {P : List zLv} {r : Nat} (c : CI h N) (H : HH h P) (hr : r < N 0) (hy : nWhy N r = 0) :
    ∃ g, sX5_go [.ref 0, .int (nI r)] h = some (.inl (some (.long (lN (nCo (nGo1 N r))))), g) ∧ CT h g (nGo1 N r) (pst N P) := by
  have hF := c.2.2.1
  have hW := hF.1
  have hn := hW.1
  obtain ⟨-, l⟩ := why0 hF hr hy
  obtain ⟨g1, s1, t1, st1⟩ := m_record c H
  have c1 := t1.2.2.2.1
  have H1 := t1.2.2.2.2
  have hS := c1.1.2.2.2.2.2.2.2.2.2.2.2.2.2.2.2.2.1
  obtain ⟨g2, s2, fr2, kl2⟩ := q_enter (r := r) hS c1.2.1 (by omega) hn
  obtain ⟨t2, -⟩ := c1.chg H1 st1 (fr2.mono (fun c hc => by unfold lvA; omega)) kl2 (WF_go hF hr hy) (lvO_fr fr2 (by omega) c1.2.2.2.2.1)
  have c2 := t2.2.2.2.1
  obtain ⟨g3, s3, cq3⟩ := m_completions c2
  have t3 := cq3.t c2 t2.2.2.2.2
  have w := m_why c hr
  rw [hy] at w
  have q01 := c1.1.1
  have r21 := c1.1.2.2.2.1
  have q02 := c2.1.1
  have q00 := c.1.1
  have K2 := fr2.K
  have P2 := fr2.P
  have z0 : (nI 0 = 0) = True := eq_true rfl
  obtain ⟨k0, p1, p2, p3, p5, p6, p7, p8, p9, p12, p14, k1, k2, k3, k4, k5, k6, k7, k8, k9, k10⟩ := hS
  refine ⟨g3, ?_, t1.tr (t2.tr t3)⟩
  refine zsem_eq (Nat.le_of_ble_eq_true rfl) (zTo_of gX5_go_0 ?_)
  simp only [q00, w, z0, s1, q01, r21, k0, s2, K2, P2, s3, zmp_s, zlt_s, zcV_s, zcI_s, zcJ_s, zcA_s, zcD_s, zcF_s, zth_n, zth_t, zrt_s, zQ_l, zQ_r, false_or, or_false, true_or, or_true, false_and, and_false, not_false_eq_true, not_true_eq_false, and_self, true_and, and_true, if_true, if_false, ite_true, ite_false, zgd_t]
  rfl
theorem m_goX {h : zm_H} {N : zLv} {x : Int32} (c : CI h N) (hx : x < 0 ∨ nI (N 0) ≤ x) : sX5_go [.ref 0, .int x] h = some (.inr 2, h) := by
  have q0 := c.1.1
  refine zsem_eq (Nat.le_of_ble_eq_true rfl) (zTo_of gX5_go_0 ?_)
  simp only [q0, m_whyX c hx, zmp_s, zlt_s, zcV_s, zcI_s, zcJ_s, zcA_s, zcD_s, zcF_s, zth_n, zth_t, zrt_s, zQ_l, zQ_r, zgd_t]
theorem nWhy_lt (N : zLv) (r : Nat) : nWhy N r < 5 := by
  unfold nWhy
  split
  · omega
  · split
    · omega
    · split
      · omega
      · split <;> omega
theorem m_goY {h : zm_H} {N : zLv} {r : Nat} (c : CI h N) (hr : r < N 0) (hy : nWhy N r ≠ 0) : sX5_go [.ref 0, .int (nI r)] h = some (.inr 0, h) := by
  have q0 := c.1.1
  have := nWhy_lt N r
  have z : (nI (nWhy N r) = 0) = False := by
    rw [nI_eq0 (by omega)]; exact eq_false hy
  refine zsem_eq (Nat.le_of_ble_eq_true rfl) (zTo_of gX5_go_0 ?_)
  simp only [q0, m_why c hr, z, zmp_s, zlt_s, zcV_s, zcI_s, zcJ_s, zcA_s, zcD_s, zcF_s, zth_n, zth_t, zrt_s, zQ_l, zQ_r, false_or, or_false, true_or, or_true, false_and, and_false, not_false_eq_true, not_true_eq_false, and_self, true_and, and_true, if_true, if_false, ite_true, ite_false, zgd_t]
end ZCC

