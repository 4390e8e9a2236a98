/-! THE CLASS: doors added, start and end, the walk's moves. -/
section ZCB
theorem zput_id {M : zLv} {i : Nat} : zput M i (M i) = M := by
  funext j
  by_cases e : j = i
  · rw [e, zput_self]
  · rw [zput_ne _ _ e]
def nAdd (N : zLv) (r s : Nat) (b : Bool) : zLv := zput (nAddD N r s) (53 + 5 * N 1) (if b then 1 else 0)
theorem nAdd_lo {N : zLv} {r s i : Nat} {b : Bool} (h : i < 49) (h1 : i ≠ 1) : nAdd N r s b i = N i := by
  unfold nAdd nAddD
  rw [zput_ne _ _ (by omega), zput_ne _ _ h1, zput_ne _ _ (by omega), zput_ne _ _ (by omega), zput_ne _ _ (by omega), zput_ne _ _ (by omega), zput_ne _ _ (by omega)]
theorem nAdd_1 {N : zLv} {r s : Nat} {b : Bool} : nAdd N r s b 1 = N 1 + 1 := by
  unfold nAdd nAddD
  rw [zput_ne _ _ (by omega), zput_self]
theorem nAdd_at {N : zLv} {r s i j : Nat} {b : Bool} (hi : i < N 1) (hj : 49 ≤ j ∧ j < 54) : nAdd N r s b (j + 5 * i) = N (j + 5 * i) := by
  unfold nAdd nAddD
  rw [zput_ne _ _ (by omega), zput_ne _ _ (by omega), zput_ne _ _ (by omega), zput_ne _ _ (by omega), zput_ne _ _ (by omega), zput_ne _ _ (by omega), zput_ne _ _ (by omega)]
theorem nAdd_new {N : zLv} {r s : Nat} {b : Bool} : nAdd N r s b (49 + 5 * N 1) = r ∧ nAdd N r s b (50 + 5 * N 1) = s ∧ nAdd N r s b (51 + 5 * N 1) = 0 ∧ nAdd N r s b (52 + 5 * N 1) = 0 ∧ nAdd N r s b (53 + 5 * N 1) = (if b then 1 else 0) := by
  unfold nAdd nAddD
  refine ⟨?_, ?_, ?_, ?_, ?_⟩
  · rw [zput_ne _ _ (by omega), zput_ne _ _ (by omega), zput_ne _ _ (by omega), zput_ne _ _ (by omega), zput_ne _ _ (by omega), zput_ne _ _ (by omega), zput_self]
  · rw [zput_ne _ _ (by omega), zput_ne _ _ (by omega), zput_ne _ _ (by omega), zput_ne _ _ (by omega), zput_ne _ _ (by omega), zput_self]
  · rw [zput_ne _ _ (by omega), zput_ne _ _ (by omega), zput_ne _ _ (by omega), zput_self]
  · rw [zput_ne _ _ (by omega), zput_ne _ _ (by omega), zput_self]
  · rw [zput_self]
theorem nkeys_cr {N M : zLv} (h0 : N 0 ≤ 11) (h : ∀ i, i = 0 ∨ (16 ≤ i ∧ i < 49) → M i = N i) (S : Nat) : nkeys M S = nkeys N S := by
  unfold nkeys
  rw [h 0 (by omega)]
  refine zfo_congr _ (fun i x hi => ?_)
  show (if S.testBit i then x ||| M (16 + 3 * i) else x) = (if S.testBit i then x ||| N (16 + 3 * i) else x)
  rw [h (16 + 3 * i) (by omega)]
theorem ncoins_cr {N M : zLv} (h0 : N 0 ≤ 11) (h : ∀ i, i = 0 ∨ (16 ≤ i ∧ i < 49) → M i = N i) (S : Nat) : ncoins M S = ncoins N S := by
  unfold ncoins
  rw [h 0 (by omega)]
  refine zfo_congr _ (fun i x hi => ?_)
  show (if S.testBit i then x + M (17 + 3 * i) else x) = (if S.testBit i then x + N (17 + 3 * i) else x)
  rw [h (17 + 3 * i) (by omega)]
theorem nAdd_nnx {N : zLv} (h0 : N 0 ≤ 11) {r s : Nat} {b : Bool} {S x y : Nat} (h : nnx N S x y = true) : nnx (nAdd N r s b) S x y = true := by
  have ek : nkeys (nAdd N r s b) S = nkeys N S := nkeys_cr h0 (fun i hi => nAdd_lo (by omega) (by omega)) S
  have ec : ncoins (nAdd N r s b) S = ncoins N S := ncoins_cr h0 (fun i hi => nAdd_lo (by omega) (by omega)) S
  unfold nnx at h ⊢
  rw [Bool.and_eq_true] at h ⊢
  refine ⟨?_, h.2⟩
  have h1 := h.1
  unfold nld at h1 ⊢
  rw [nld_bit, nany_iff] at h1 ⊢
  obtain ⟨d, hd, hb⟩ := h1
  refine ⟨d, by rw [nAdd_1]; omega, ?_⟩
  rw [ek, ec]
  unfold nopen ndgo at hb ⊢
  rw [nAdd_at hd (j := 49) (by omega), nAdd_at hd (j := 50) (by omega), nAdd_at hd (j := 51) (by omega), nAdd_at hd (j := 52) (by omega), nAdd_at hd (j := 53) (by omega)]
  exact hb
theorem WF_nAdd {N : zLv} {r s : Nat} {b : Bool} (hF : WF N) (hr : r < N 0) (hs : s < N 0) (hne : r ≠ s) (h1 : N 1 < 20) : WF (nAdd N r s b) := by
  obtain ⟨hW, n1, h2, h3, h4, h40, h5, hx, hn⟩ := hF
  have w0 := hW.1
  have w4 := hW.2.2.1
  have e : ∀ i, i < 49 → i ≠ 1 → nAdd N r s b i = N i := fun i hi hi1 => nAdd_lo hi hi1
  refine ⟨⟨?_, ?_, ?_, ?_, ?_, ?_⟩, ?_, ?_, ?_, ?_, ?_, ?_, ?_, ?_⟩
  · rw [e 0 (by omega) (by omega)]; exact w0
  · rw [nAdd_1]; omega
  · rw [e 4 (by omega) (by omega)]; exact w4
  · intro q hq
    rw [e 0 (by omega) (by omega)] at hq
    rw [e _ (by omega) (by omega), e _ (by omega) (by omega)]; exact hW.2.2.2.1 q hq
  · intro d hd
    rw [nAdd_1] at hd
    rw [e 0 (by omega) (by omega)]
    by_cases w : d = N 1
    · subst w
      obtain ⟨a1, a2, a3, a4, a5⟩ := nAdd_new (N := N) (r := r) (s := s) (b := b)
      rw [a1, a2, a3, a4, a5]
      exact ⟨hr, hs, hne, by omega, by omega, by omega, by cases b <;> simp⟩
    · rw [nAdd_at (show d < N 1 by omega) (j := 49) (by omega), nAdd_at (show d < N 1 by omega) (j := 50) (by omega), nAdd_at (show d < N 1 by omega) (j := 51) (by omega), nAdd_at (show d < N 1 by omega) (j := 52) (by omega), nAdd_at (show d < N 1 by omega) (j := 53) (by omega)]
      exact hW.2.2.2.2.1 d (by omega)
  · intro k hk
    rw [e 4 (by omega) (by omega)] at hk
    rw [e 0 (by omega) (by omega), e _ (by omega) (by omega)]; exact hW.2.2.2.2.2 k hk
  · rw [e 0 (by omega) (by omega)]; exact n1
  · rw [e 0 (by omega) (by omega), e 2 (by omega) (by omega)]; exact h2
  · rw [e 0 (by omega) (by omega), e 3 (by omega) (by omega)]; exact h3
  · rw [e 4 (by omega) (by omega)]; exact h4
  · rw [e 4 (by omega) (by omega), e 0 (by omega) (by omega)]; exact h40
  · rw [e 5 (by omega) (by omega), e 2 (by omega) (by omega)]; exact h5
  · intro k hk
    rw [e 4 (by omega) (by omega)] at hk
    have w : ∀ i, i < N 4 → nwk (nAdd N r s b) i = nwk N i := fun i hi => e (5 + i) (by omega) (by omega)
    rw [nsk_cg (k + 1) (fun i hi => w i (by omega)), w k (by omega), w (k + 1) (by omega)]
    exact nAdd_nnx w0 (hx k hk)
  · intro q hq
    rw [e 0 (by omega) (by omega)] at hq
    rw [e _ (by omega) (by omega)]; exact hn q hq
theorem m_addDoor {h : zm_H} {N : zLv} {P : List zLv} {r s : Nat} {b : Bool} (c : CI h N) (H : HH h P) (hr : r < N 0) (hs : s < N 0) (hne : r ≠ s) (h1 : N 1 < 20) :
    ∃ g, sX5_addDoor [.ref 0, .int (nI r), .int (nI s), .int (zb b)] h = some (.inl (some (.int (nI (N 1)))), g) ∧ CT h g (nAdd N r s b) (pst N P) := by
  have hF := c.2.2.1
  have hW := hF.1
  obtain ⟨g1, s1, t1, st1⟩ := m_record c H
  have c1 := t1.2.2.2.1
  have H1 := t1.2.2.2.2
  have hS := c1.1.2.2.2.2.2.2.2.2.2.2.2.2.2.2.2.2.1
  obtain ⟨g2, s2, fr2, kl2, lo2⟩ := q_build (r := r) (s := s) hS c1.2.1 h1 ⟨hW.1, hW.2.2.1⟩ c1.2.2.2.2.1
  obtain ⟨g3, hg3⟩ : ∃ g3, g3 = zsI g2 (L5 + 8) (N 1) (zb b) := ⟨_, rfl⟩
  have fr3 : zFr (fun c => c = L5 + 8) g2 g3 := by rw [hg3]; exact zFr.sI rfl
  have zbn : zb b = nI (if b then 1 else 0) := by cases b <;> rfl
  have ex : ∀ i, i < 49 → i ≠ 1 → nAddD N r s i = N i := by
    intro i hi h1
    unfold nAddD
    rw [zput_ne _ _ h1, zput_ne _ _ (by omega), zput_ne _ _ (by omega), zput_ne _ _ (by omega), zput_ne _ _ (by omega), zput_ne _ _ (by omega)]
  have kl3 : KL g3 L5 (nAdd N r s b) := by
    rw [hg3, zbn]
    exact KL_ow kl2 (by rw [ex 0 (by omega) (by omega), ex 4 (by omega) (by omega)]; exact ⟨hW.1, hW.2.2.1⟩) (N 1) _
  have lo3 : lvO g3 L5 := by
    intro i hi
    rw [hg3, I_sIs]
    by_cases e : i = N 1
    · rw [e, zput_self]; exact zb_01
    · rw [zput_ne _ _ e]; exact lo2 i hi
  obtain ⟨t3, -⟩ := c1.chg H1 st1 ((fr2.mono (fun c hc => by unfold lvA; omega)).tr (fr3.mono (fun c hc => by unfold lvA; omega))) kl3 (WF_nAdd hF hr hs hne h1) lo3
  have K2 := fr2.K
  have P2 := fr2.P
  have q01 := c1.1.1
  have r21 := c1.1.2.2.2.1
  have q00 := c.1.1
  have r20 := c.1.2.2.2.1
  have y50 := c.1.2.2.2.2.2.2.2.2.2.2.2.2.2.2.2.2.1.1
  have l10 := c.2.1.2.1
  have v1 : (nI (N 1) < (20 : Int32)) = True := eq_true ((nI_ltI (b := 20) (by omega) (by omega)).mpr h1)
  have f2 := nI_clamp (show N 1 < 2 ^ 31 by omega)
  have f3 := nI_lt0 (show N 1 < 2 ^ 31 by omega)
  have f5 : ¬ 20 ≤ N 1 := by omega
  have zz : (zb b = 0 ∨ zb b = 1) = True := eq_true zb_01
  obtain ⟨k0, p1, p2, p3, p5, p6, p7, p8, p9, p12, p14, k1, k2, k3, k4, k5, k6, k7, k8, k9, k10⟩ := hS
  refine ⟨g3, ?_, t1.tr t3⟩
  refine zsem_eq (Nat.le_of_ble_eq_true rfl) (zTo_of gX5_addDoor_0 ?_)
  simp only [q00, m_needTwo c hr hs hne, r20, y50, l10, v1, s1, q01, r21, k0, s2, K2, P2, p9, k8, f2, f3, f5, zz, ← hg3, zmp_s, zlt_s, zcV_s, zcI_s, zcJ_s, zcA_s, zcD_s, zcF_s, zth_n, zth_t, zrt_s, zQ_l, zQ_r, false_or, or_false, true_or, or_true, false_and, and_false, not_false_eq_true, not_true_eq_false, and_self, true_and, and_true, if_true, if_false, ite_true, ite_false, zgd_t]
theorem m_addDoorX {h : zm_H} {N : zLv} {x y z : Int32} (c : CI h N) (hx : (x < 0 ∨ nI (N 0) ≤ x) ∨ ((∃ r, r < N 0 ∧ x = nI r) ∧ (y < 0 ∨ nI (N 0) ≤ y))) : sX5_addDoor [.ref 0, .int x, .int y, .int z] h = some (.inr 2, h) := by
  have q0 := c.1.1
  refine zsem_eq (Nat.le_of_ble_eq_true rfl) (zTo_of gX5_addDoor_0 ?_)
  simp only [q0, m_needTwoX c hx, zmp_s, zlt_s, zcV_s, zcI_s, zcJ_s, zcA_s, zcD_s, zcF_s, zth_n, zth_t, zrt_s, zQ_l, zQ_r, zgd_t]
theorem m_addDoorS {h : zm_H} {N : zLv} {r : Nat} {z : Int32} (c : CI h N) (hr : r < N 0) : sX5_addDoor [.ref 0, .int (nI r), .int (nI r), .int z] h = some (.inr 1, h) := by
  have q0 := c.1.1
  refine zsem_eq (Nat.le_of_ble_eq_true rfl) (zTo_of gX5_addDoor_0 ?_)
  simp only [q0, m_needTwoS c hr, zmp_s, zlt_s, zcV_s, zcI_s, zcJ_s, zcA_s, zcD_s, zcF_s, zth_n, zth_t, zrt_s, zQ_l, zQ_r, zgd_t]
theorem m_addDoorF {h : zm_H} {N : zLv} {r s : Nat} {z : Int32} (c : CI h N) (hr : r < N 0) (hs : s < N 0) (hne : r ≠ s) (h1 : ¬ N 1 < 20) : sX5_addDoor [.ref 0, .int (nI r), .int (nI s), .int z] h = some (.inr 0, h) := by
  have q0 := c.1.1
  have r20 := c.1.2.2.2.1
  have y50 := c.1.2.2.2.2.2.2.2.2.2.2.2.2.2.2.2.2.1.1
  have l10 := c.2.1.2.1
  have hdn := c.2.2.1.1.2.1
  have v1 : (nI (N 1) < (20 : Int32)) = False := eq_false (fun e => h1 ((nI_ltI (b := 20) (by omega) (by omega)).mp e))
  refine zsem_eq (Nat.le_of_ble_eq_true rfl) (zTo_of gX5_addDoor_0 ?_)
  simp only [q0, m_needTwo c hr hs hne, r20, y50, l10, v1, zmp_s, zlt_s, zcV_s, zcI_s, zcJ_s, zcA_s, zcD_s, zcF_s, zth_n, zth_t, zrt_s, zQ_l, zQ_r, false_or, or_false, true_or, or_true, false_and, and_false, not_false_eq_true, not_true_eq_false, and_self, true_and, and_true, if_true, if_false, ite_true, ite_false, zgd_t]
-- start and end
def nSs (N : zLv) (r : Nat) : zLv := zput (zput (zput N 2 r) (5 + 0) r) 4 1
theorem m_setStart {h : zm_H} {N : zLv} {P : List zLv} {r : Nat} (c : CI h N) (H : HH h P) (hr : r < N 0) :
    ∃ g, sX5_setStart [.ref 0, .int (nI r)] h = some (.inl (some (.int (nI (N 2)))), g) ∧ CT h g (if r = N 2 then N else nSs N r) (pst N P) := by
  have hF := c.2.2.1
  have hW := hF.1
  have hn := hW.1
  obtain ⟨g1, s1, t1, st1⟩ := m_record c H
  have c1 := t1.2.2.2.1
  have H1 := t1.2.2.2.2
  have hS := c1.1.2.2.2.2.2.2.2.2.2.2.2.2.2.2.2.2.1
  have q01 := c1.1.1
  have r21 := c1.1.2.2.2.1
  have q00 := c.1.1
  have r20 := c.1.2.2.2.1
  have y50 := c.1.2.2.2.2.2.2.2.2.2.2.2.2.2.2.2.2.1.1
  have l20 := c.2.1.2.2.1
  have h2 := hF.2.2.1
  have eq : (nI r = nI (N 2)) = (r = N 2) := propext (nI_eq (by omega) (by omega))
  by_cases w : r = N 2
  · rw [if_pos w]
    refine ⟨g1, ?_, t1⟩
    refine zsem_eq (Nat.le_of_ble_eq_true rfl) (zTo_of gX5_setStart_0 ?_)
    have et : (nI r = nI (N 2)) = True := by rw [eq]; exact eq_true w
    simp only [q00, m_needRoom c hr, r20, y50, l20, s1, et, zmp_s, zlt_s, zcV_s, zcI_s, zcJ_s, zcA_s, zcD_s, zcF_s, zth_n, zth_t, zrt_s, zQ_l, zQ_r, false_or, or_false, true_or, or_true, false_and, and_false, not_false_eq_true, not_true_eq_false, and_self, true_and, and_true, if_true, if_false, ite_true, ite_false, zgd_t]
  · rw [if_neg w]
    have s2 := q_beginAt (r := r) hS
    have kl2 := KL_beginAt c1.2.1 ⟨hW.1, hW.2.2.1⟩ r
    obtain ⟨g2, hg2⟩ : ∃ g2, g2 = zsI (zsI (zsI g1 L5 10 (nI r)) (L5 + 9) 0 (nI r)) L5 13 (nI 1) := ⟨_, rfl⟩
    rw [← hg2] at s2 kl2
    have fr2 : zFr (fun c => c = L5 ∨ c = L5 + 9) g1 g2 := by rw [hg2]; exact ((zFr.sI (Or.inl rfl)).tr (zFr.sI (Or.inr rfl))).tr (zFr.sI (Or.inl rfl))
    have e : ∀ i, i ≠ 2 → i ≠ 5 → zput (zput N 2 r) (5 + 0) r i = N i := fun i h2 h5 => by rw [zput_ne _ _ (by omega), zput_ne _ _ h2]
    have e2 : zput (zput N 2 r) (5 + 0) r 2 = r := by rw [zput_ne _ _ (by omega), zput_self]
    have e5 : zput (zput N 2 r) (5 + 0) r 5 = r := zput_self _ _ _
    have wp : WP (zput (zput N 2 r) (5 + 0) r) := by
      have p := hF.p
      refine ⟨⟨by rw [e 0 (by omega) (by omega)]; exact hW.1, by rw [e 1 (by omega) (by omega)]; exact hW.2.1, by rw [e 4 (by omega) (by omega)]; exact hW.2.2.1, fun q hq => ?_, fun d hd => ?_, fun k hk => ?_⟩, by rw [e 0 (by omega) (by omega)]; exact p.2.1, by rw [e 0 (by omega) (by omega), e2]; exact hr, by rw [e 0 (by omega) (by omega), e 3 (by omega) (by omega)]; exact p.2.2.2.1, by rw [e2, e5], fun q hq => ?_⟩
      · rw [e 0 (by omega) (by omega)] at hq
        rw [e _ (by omega) (by omega), e _ (by omega) (by omega)]; exact hW.2.2.2.1 q hq
      · rw [e 1 (by omega) (by omega)] at hd
        rw [e 0 (by omega) (by omega), e (49 + 5 * d) (by omega) (by omega), e (50 + 5 * d) (by omega) (by omega), e (51 + 5 * d) (by omega) (by omega), e (52 + 5 * d) (by omega) (by omega), e (53 + 5 * d) (by omega) (by omega)]
        exact hW.2.2.2.2.1 d hd
      · rw [e 4 (by omega) (by omega)] at hk
        rw [e 0 (by omega) (by omega)]
        by_cases z : k = 0
        · subst z; rw [show (5 + 0 : Nat) = 5 from rfl] at e5 ⊢; rw [e5]; exact hr
        · rw [e _ (by omega) (by omega)]; exact hW.2.2.2.2.2 k hk
      · rw [e 0 (by omega) (by omega)] at hq
        rw [e _ (by omega) (by omega)]; exact p.2.2.2.2.2 q hq
    have wf : WF (nSs N r) := WF_len wp (by omega) (by rw [e 4 (by omega) (by omega)]; exact hF.2.2.2.2.1) (by rw [e 0 (by omega) (by omega)]; omega) (fun k hk => by omega)
    obtain ⟨t3, -⟩ := c1.chg H1 st1 (fr2.mono (fun c hc => by unfold lvA; omega)) kl2 wf (lvO_fr fr2 (by omega) c1.2.2.2.2.1)
    obtain ⟨k0, p1, p2, p3, p5, p6, p7, p8, p9, p12, p14, k1, k2, k3, k4, k5, k6, k7, k8, k9, k10⟩ := hS
    refine ⟨g2, ?_, t1.tr t3⟩
    refine zsem_eq (Nat.le_of_ble_eq_true rfl) (zTo_of gX5_setStart_0 ?_)
    simp only [q00, m_needRoom c hr, r20, y50, l20, s1, eq, w, q01, r21, k0, s2, zmp_s, zlt_s, zcV_s, zcI_s, zcJ_s, zcA_s, zcD_s, zcF_s, zth_n, zth_t, zrt_s, zQ_l, zQ_r, false_or, or_false, true_or, or_true, false_and, and_false, not_false_eq_true, not_true_eq_false, and_self, true_and, and_true, if_true, if_false, ite_true, ite_false, zgd_t]
theorem m_setStartX {h : zm_H} {N : zLv} {x : Int32} (c : CI h N) (hx : x < 0 ∨ nI (N 0) ≤ x) : sX5_setStart [.ref 0, .int x] h = some (.inr 2, h) := by
  have q0 := c.1.1
  refine zsem_eq (Nat.le_of_ble_eq_true rfl) (zTo_of gX5_setStart_0 ?_)
  simp only [q0, m_needRoomX c hx, zmp_s, zlt_s, zcV_s, zcI_s, zcJ_s, zcA_s, zcD_s, zcF_s, zth_n, zth_t, zrt_s, zQ_l, zQ_r, zgd_t]
theorem WF_end {N : zLv} {e : Nat} (hF : WF N) (he : e ≤ N 0) : WF (zput N 3 e) := by
  have hW := hF.1
  have x : ∀ i, i ≠ 3 → zput N 3 e i = N i := fun i hi => zput_ne _ _ hi
  have p := hF.p
  have wp : WP (zput N 3 e) := by
    refine ⟨⟨by rw [x 0 (by omega)]; exact hW.1, by rw [x 1 (by omega)]; exact hW.2.1, by rw [x 4 (by omega)]; exact hW.2.2.1, fun q hq => ?_, fun d hd => ?_, fun k hk => ?_⟩, by rw [x 0 (by omega)]; exact p.2.1, by rw [x 0 (by omega), x 2 (by omega)]; exact p.2.2.1, by rw [x 0 (by omega), zput_self]; exact he, by rw [x 5 (by omega), x 2 (by omega)]; exact p.2.2.2.2.1, fun q hq => ?_⟩
    · rw [x 0 (by omega)] at hq
      rw [x _ (by omega), x _ (by omega)]; exact hW.2.2.2.1 q hq
    · rw [x 1 (by omega)] at hd
      rw [x 0 (by omega), x (49 + 5 * d) (by omega), x (50 + 5 * d) (by omega), x (51 + 5 * d) (by omega), x (52 + 5 * d) (by omega), x (53 + 5 * d) (by omega)]
      exact hW.2.2.2.2.1 d hd
    · rw [x 4 (by omega)] at hk
      rw [x 0 (by omega), x _ (by omega)]; exact hW.2.2.2.2.2 k hk
    · rw [x 0 (by omega)] at hq
      rw [x _ (by omega)]; exact p.2.2.2.2.2 q hq
  have r := WF_len wp (x := N 4) hF.2.2.2.2.1 (by rw [x 4 (by omega)]; exact Nat.le_refl _) (by rw [x 0 (by omega)]; exact hF.2.2.2.2.2.1) (fun k hk => by
    rw [nnx_cg (N := N) (fun i hi => x i (by omega)), show nwk (zput N 3 e) = nwk N from funext (fun i => x (5 + i) (by omega))]
    exact hF.2.2.2.2.2.2.2.1 k hk)
  have i4 : zput (zput N 3 e) 4 (N 4) = zput N 3 e := by
    have := zput_id (M := zput N 3 e) (i := 4)
    rw [x 4 (by omega)] at this
    exact this
  rw [i4] at r
  exact r
theorem m_setEnd {h : zm_H} {N : zLv} {P : List zLv} {e : Nat} (c : CI h N) (H : HH h P) (he : e ≤ N 0) :
    ∃ g, sX5_setEnd [.ref 0, .int (eI e)] h = some (.inl (some (.int (eI (N 3)))), g) ∧ CT h g (zput N 3 e) (pst N P) := by
  have hF := c.2.2.1
  have hW := hF.1
  have hn := hW.1
  obtain ⟨g1, s1, t1, st1⟩ := m_record c H
  have c1 := t1.2.2.2.1
  have H1 := t1.2.2.2.2
  have hS := c1.1.2.2.2.2.2.2.2.2.2.2.2.2.2.2.2.2.1
  obtain ⟨g2, hg2⟩ : ∃ g2, g2 = zsI g1 L5 11 (eI e) := ⟨_, rfl⟩
  have kl2 : KL g2 L5 (zput N 3 e) := by rw [hg2]; exact KL_end c1.2.1 e
  have fr2 : zFr (fun c => c = L5) g1 g2 := by rw [hg2]; exact zFr.sI rfl
  obtain ⟨t3, -⟩ := c1.chg H1 st1 (fr2.mono (fun c hc => by unfold lvA; omega)) kl2 (WF_end hF he) (lvO_fr fr2 (by omega) c1.2.2.2.2.1)
  have q01 := c1.1.1
  have r21 := c1.1.2.2.2.1
  have q00 := c.1.1
  have r20 := c.1.2.2.2.1
  have y50 := c.1.2.2.2.2.2.2.2.2.2.2.2.2.2.2.2.2.1.1
  have l30 := c.2.1.2.2.2.1
  have em := eI_m1 (a := e) (by omega)
  obtain ⟨k0, p1, p2, p3, p5, p6, p7, p8, p9, p12, p14, k1, k2, k3, k4, k5, k6, k7, k8, k9, k10⟩ := hS
  refine ⟨g2, ?_, t1.tr t3⟩
  by_cases w : e = 0
  · have et : (eI e = -1) = True := by rw [em]; exact eq_true w
    generalize hX : eI e = X at et hg2 ⊢
    refine zsem_eq (Nat.le_of_ble_eq_true rfl) (zTo_of gX5_setEnd_0 ?_)
    simp only [et, q00, r20, y50, l30, s1, q01, r21, k0, ← hg2, zmp_s, zlt_s, zcV_s, zcI_s, zcJ_s, zcA_s, zcD_s, zcF_s, zth_n, zth_t, zrt_s, zQ_l, zQ_r, false_or, or_false, true_or, or_true, false_and, and_false, not_false_eq_true, not_true_eq_false, and_self, true_and, and_true, if_true, if_false, ite_true, ite_false, zgd_t]
  · have e1 : eI e = nI (e - 1) := by
      have := eI_s (e - 1)
      rw [show e - 1 + 1 = e by omega] at this
      exact this
    have nr := m_needRoom (r := e - 1) c (by omega)
    rw [← e1] at nr
    have ef : (eI e = -1) = False := by rw [em]; exact eq_false w
    generalize hX : eI e = X at ef nr hg2 ⊢
    refine zsem_eq (Nat.le_of_ble_eq_true rfl) (zTo_of gX5_setEnd_0 ?_)
    simp only [ef, nr, q00, r20, y50, l30, s1, q01, r21, k0, ← hg2, zmp_s, zlt_s, zcV_s, zcI_s, zcJ_s, zcA_s, zcD_s, zcF_s, zth_n, zth_t, zrt_s, zQ_l, zQ_r, false_or, or_false, true_or, or_true, false_and, and_false, not_false_eq_true, not_true_eq_false, and_self, true_and, and_true, if_true, if_false, ite_true, ite_false, zgd_t]
theorem m_setEndX {h : zm_H} {N : zLv} {x : Int32} (c : CI h N) (h1 : x ≠ -1) (hx : x < 0 ∨ nI (N 0) ≤ x) : sX5_setEnd [.ref 0, .int x] h = some (.inr 2, h) := by
  have q0 := c.1.1
  refine zsem_eq (Nat.le_of_ble_eq_true rfl) (zTo_of gX5_setEnd_0 ?_)
  simp only [eq_false h1, q0, m_needRoomX c hx, zmp_s, zlt_s, zcV_s, zcI_s, zcJ_s, zcA_s, zcD_s, zcF_s, zth_n, zth_t, zrt_s, zQ_l, zQ_r, false_or, or_false, true_or, or_true, false_and, and_false, not_false_eq_true, not_true_eq_false, and_self, true_and, and_true, if_true, if_false, ite_true, ite_false, zgd_t]
end ZCB

