/-! THE CLASS: changes of the level. -/
section ZC9
theorem WP_hi {N M : zLv} (hP : WP N) (h : ∀ i, i < 16 → M i = N i) (hr : ∀ r, r < N 0 → M (16 + 3 * r) < 256 ∧ M (17 + 3 * r) ≤ 99) (hd : ∀ d, d < N 1 → M (49 + 5 * d) < N 0 ∧ M (50 + 5 * d) < N 0 ∧ M (49 + 5 * d) ≠ M (50 + 5 * d) ∧ M (51 + 5 * d) ≤ 2 ∧ M (52 + 5 * d) ≤ 999 ∧ (M (51 + 5 * d) = 1 → M (52 + 5 * d) < 8) ∧ M (53 + 5 * d) ≤ 1) (hn : ∀ r, r < N 0 → M (18 + 3 * r) < 27 ^ 6) : WP M := by
  obtain ⟨hW, n1, h2, h3, h5, -⟩ := hP
  have h4 := hW.2.2.1
  refine ⟨⟨by rw [h 0 (by omega)]; exact hW.1, by rw [h 1 (by omega)]; exact hW.2.1, by rw [h 4 (by omega)]; exact h4, ?_, ?_, ?_⟩, by rw [h 0 (by omega)]; exact n1, by rw [h 0 (by omega), h 2 (by omega)]; exact h2, by rw [h 0 (by omega), h 3 (by omega)]; exact h3, by rw [h 5 (by omega), h 2 (by omega)]; exact h5, ?_⟩
  · rw [h 0 (by omega)]; exact hr
  · rw [h 0 (by omega), h 1 (by omega)]; exact hd
  · rw [h 0 (by omega), h 4 (by omega)]
    intro k hk
    rw [h (5 + k) (by omega)]; exact hW.2.2.2.2.2 k hk
  · rw [h 0 (by omega)]; exact hn
/-- a room's keys or coins -/
theorem WP_room {N : zLv} {i v : Nat} (hP : WP N) (hi : 16 ≤ i ∧ i < 49) (h0 : i % 3 ≠ 0) (h1 : i % 3 = 1 → v < 256) (h2 : i % 3 = 2 → v ≤ 99) : WP (zput N i v) := by
  have w0 := hP.1.1
  refine WP_hi hP (fun j hj => zput_ne _ _ (by omega)) (fun r hr => ⟨?_, ?_⟩) (fun d hd => ?_) (fun r hr => ?_)
  · by_cases e : 16 + 3 * r = i
    · rw [e, zput_self]; exact h1 (by omega)
    · rw [zput_ne _ _ e]; exact (hP.1.2.2.2.1 r hr).1
  · by_cases e : 17 + 3 * r = i
    · rw [e, zput_self]; exact h2 (by omega)
    · rw [zput_ne _ _ e]; exact (hP.1.2.2.2.1 r hr).2
  · rw [zput_ne _ _ (by omega), zput_ne _ _ (by omega), zput_ne _ _ (by omega), zput_ne _ _ (by omega), zput_ne _ _ (by omega)]
    exact hP.1.2.2.2.2.1 d hd
  · rw [zput_ne _ _ (by omega)]; exact hP.2.2.2.2.2 r hr
/-- the walk is cut behind a change -/
theorem m_cut {h g : zm_H} {N M : zLv} {P : List zLv} (c : CI h N) (H : HH h P) (st : zI h 0 8 = 1) (fr : zFr (lvA L5) h g) (hL : KL g L5 M) (hM : WP M) (ho : lvO g L5) (h0 : M 0 = N 0) (h4 : M 4 = N 4) (hw : ∀ k, k < N 4 → M (5 + k) = N (5 + k)) :
    ∃ g2, sX2_cutWalk [.ref L5] g = some (.inl none, g2) ∧ CT h g2 (zput M 4 (ncut M)) P ∧ zI g2 0 8 = 1 := by
  have v5 : lvS g L5 := lvS_fr fr c.1.2.2.2.2.2.2.2.2.2.2.2.2.2.2.2.2.1
  obtain ⟨g2, s2, fr2, kl2⟩ := q_cutWalk v5 hL hM.1 (by rw [h4]; exact c.2.2.1.2.2.2.2.1)
  have fr3 : zFr (lvA L5) h g2 := fr.tr (fr2.mono (fun c hc => by unfold lvA; omega))
  obtain ⟨t, s⟩ := c.chg H st fr3 kl2 (WF_cut c.2.2.1 hM h0 h4 hw) (lvO_fr fr2 (by omega) ho)
  exact ⟨g2, s2, t, s⟩
def nSk (N : zLv) (r key : Nat) (b : Bool) : zLv := zput N (16 + 3 * r) (if b then N (16 + 3 * r) ||| 2 ^ key else N (16 + 3 * r) &&& (2 ^ key ^^^ 4294967295))
def nCt (N : zLv) : zLv := zput N 4 (ncut N)
theorem m_setKey {h : zm_H} {N : zLv} {P : List zLv} {r key : Nat} {b : Bool} (c : CI h N) (H : HH h P) (hr : r < N 0) (hkey : key < 8) :
    ∃ g, sX5_setKey [.ref 0, .int (nI r), .int (nI key), .int (zb b)] h = some (.inl (some (.int (zb ((N (16 + 3 * r)).testBit key)))), g) ∧ CT h g (nCt (nSk N r key b)) (pst N P) := by
  have hF := c.2.2.1
  have hW := hF.1
  have hn := hW.1
  obtain ⟨g1, s1, t1, st1⟩ := m_record c H
  have c1 := t1.2.2.2.1
  have H1 := t1.2.2.2.2
  have k8 := (hW.2.2.2.1 r hr).1
  have vlt : (if b then N (16 + 3 * r) ||| 2 ^ key else N (16 + 3 * r) &&& (2 ^ key ^^^ 4294967295)) < 256 := by
    cases b with
    | true => exact Nat.or_lt_two_pow (n := 8) k8 (Nat.pow_lt_pow_right (by omega) hkey)
    | false => exact Nat.lt_of_le_of_lt Nat.and_le_left k8
  obtain ⟨g2, hg2⟩ : ∃ g2, g2 = zsI g1 (L5 + 2) r (nI (if b then N (16 + 3 * r) ||| 2 ^ key else N (16 + 3 * r) &&& (2 ^ key ^^^ 4294967295))) := ⟨_, rfl⟩
  have kl2 : KL g2 L5 (nSk N r key b) := by rw [hg2]; exact KL_keys c1.2.1 ⟨hW.1, hW.2.2.1⟩ r _ (by omega)
  have fr2 : zFr (lvA L5) g1 g2 := by rw [hg2]; exact zFr.sI (by unfold lvA; omega)
  have lo2 : lvO g2 L5 := lvO_fr (A := fun c => c = L5 + 2) (by rw [hg2]; exact zFr.sI rfl) (by omega) c1.2.2.2.2.1
  have wp : WP (nSk N r key b) := WP_room hF.p (by omega) (by omega) (fun _ => vlt) (fun e => by omega)
  obtain ⟨g3, s3, t3, -⟩ := m_cut c1 H1 st1 fr2 kl2 wp lo2 (zput_ne _ _ (by omega)) (zput_ne _ _ (by omega)) (fun k hk => zput_ne _ _ (by have := hW.2.2.1; omega))
  have K2 := fr2.K
  have P2 := fr2.P
  have q01 := c1.1.1
  have r21 := c1.1.2.2.2.1
  have hS := c1.1.2.2.2.2.2.2.2.2.2.2.2.2.2.2.2.2.1
  have q00 := c.1.1
  have r20 := c.1.2.2.2.1
  have v50 := c.1.2.2.2.2.2.2.2.2.2.2.2.2.2.2.2.2.1
  have y50 := v50.1
  have p20 := v50.2.2.1
  have k20 := v50.2.2.2.2.2.2.2.2.2.2.2.2.1
  have lk0 := c.2.1.2.2.2.2.2.2.1 r hr
  have lk1 := c1.2.1.2.2.2.2.2.2.1 r hr
  have f2 := nI_clamp (show r < 2 ^ 31 by omega)
  have f3 := nI_lt0 (show r < 2 ^ 31 by omega)
  have f5 : ¬ 11 ≤ r := by omega
  have zz : ∀ z : Bool, (zb z = 0 ∨ zb z = 1) = True := fun z => by cases z <;> decide
  obtain ⟨k0, p1, p2, p3, p5, p6, p7, p8, p9, p12, p14, k1, k2, k3, k4, k5, k6, k7, k8, k9, k10⟩ := hS
  refine ⟨g3, ?_, t1.tr t3⟩
  refine zsem_eq (Nat.le_of_ble_eq_true rfl) (zTo_of gX5_setKey_0 ?_)
  cases b with
  | true =>
    simp only [if_pos] at hg2
    have zt : (zb true = 0) = False := by decide
    simp only [q00, m_needRoom c hr, m_needKey hkey, r20, y50, p20, k20, f2, f3, f5, lk0, q_has (show N (16 + 3 * r) < 2 ^ 31 by omega) (show key < 32 by omega), s1, zt, q01, r21, k0, p2, k2, lk1, nx_shl1 (show key < 32 by omega), nx_or, ← hg2, K2, P2, s3, zz, zmp_s, zlt_s, zcV_s, zcI_s, zcJ_s, zcA_s, zcD_s, zcF_s, zth_n, zth_t, zrt_s, zQ_l, zQ_r, false_or, or_false, true_or, or_true, false_and, and_false, not_false_eq_true, not_true_eq_false, and_self, true_and, and_true, if_true, if_false, ite_true, ite_false, zgd_t]
  | false =>
    simp only [Bool.false_eq_true, if_false] at hg2
    have zt : (zb false = 0) = True := by decide
    simp only [q00, m_needRoom c hr, m_needKey hkey, r20, y50, p20, k20, f2, f3, f5, lk0, q_has (show N (16 + 3 * r) < 2 ^ 31 by omega) (show key < 32 by omega), s1, zt, q01, r21, k0, p2, k2, lk1, nx_shl1 (show key < 32 by omega), nI_not, ← hg2, K2, P2, s3, zz, zmp_s, zlt_s, zcV_s, zcI_s, zcJ_s, zcA_s, zcD_s, zcF_s, zth_n, zth_t, zrt_s, zQ_l, zQ_r, false_or, or_false, true_or, or_true, false_and, and_false, not_false_eq_true, not_true_eq_false, and_self, true_and, and_true, if_true, if_false, ite_true, ite_false, zgd_t]
theorem m_setKeyX {h : zm_H} {N : zLv} {x y z : Int32} (c : CI h N) (hx : x < 0 ∨ nI (N 0) ≤ x) : sX5_setKey [.ref 0, .int x, .int y, .int z] h = some (.inr 2, h) := by
  have q0 := c.1.1
  refine zsem_eq (Nat.le_of_ble_eq_true rfl) (zTo_of gX5_setKey_0 ?_)
  simp only [q0, m_needRoomX c hx, zmp_s, zlt_s, zcV_s, zcI_s, zcJ_s, zcA_s, zcD_s, zcF_s, zth_n, zth_t, zrt_s, zQ_l, zQ_r, zgd_t]
theorem m_setKeyY {h : zm_H} {N : zLv} {r : Nat} {y z : Int32} (c : CI h N) (hr : r < N 0) (hy : y < 0 ∨ nI 8 ≤ y) : sX5_setKey [.ref 0, .int (nI r), .int y, .int z] h = some (.inr 2, h) := by
  have q0 := c.1.1
  refine zsem_eq (Nat.le_of_ble_eq_true rfl) (zTo_of gX5_setKey_0 ?_)
  simp only [q0, m_needRoom c hr, m_needKeyX hy, zmp_s, zlt_s, zcV_s, zcI_s, zcJ_s, zcA_s, zcD_s, zcF_s, zth_n, zth_t, zrt_s, zQ_l, zQ_r, zgd_t]
theorem m_setCoins {h : zm_H} {N : zLv} {P : List zLv} {r v : Nat} (c : CI h N) (H : HH h P) (hr : r < N 0) (hv : v ≤ 99) :
    ∃ g, sX5_setCoins [.ref 0, .int (nI r), .int (nI v)] h = some (.inl (some (.int (nI (N (17 + 3 * r))))), g) ∧ CT h g (nCt (zput N (17 + 3 * r) v)) (pst N P) := by
  have hF := c.2.2.1
  have hW := hF.1
  have hn := hW.1
  obtain ⟨g1, s1, t1, st1⟩ := m_record c H
  have c1 := t1.2.2.2.1
  have H1 := t1.2.2.2.2
  obtain ⟨g2, hg2⟩ : ∃ g2, g2 = zsI g1 (L5 + 3) r (nI v) := ⟨_, rfl⟩
  have kl2 : KL g2 L5 (zput N (17 + 3 * r) v) := by rw [hg2]; exact KL_coins c1.2.1 ⟨hW.1, hW.2.2.1⟩ r _ (by omega)
  have fr2 : zFr (lvA L5) g1 g2 := by rw [hg2]; exact zFr.sI (by unfold lvA; omega)
  have lo2 : lvO g2 L5 := lvO_fr (A := fun c => c = L5 + 3) (by rw [hg2]; exact zFr.sI rfl) (by omega) c1.2.2.2.2.1
  have wp : WP (zput N (17 + 3 * r) v) := WP_room hF.p (by omega) (by omega) (fun e => by omega) (fun _ => hv)
  obtain ⟨g3, s3, t3, -⟩ := m_cut c1 H1 st1 fr2 kl2 wp lo2 (zput_ne _ _ (by omega)) (zput_ne _ _ (by omega)) (fun k hk => zput_ne _ _ (by have := hW.2.2.1; omega))
  have K2 := fr2.K
  have P2 := fr2.P
  have q01 := c1.1.1
  have r21 := c1.1.2.2.2.1
  have hS := c1.1.2.2.2.2.2.2.2.2.2.2.2.2.2.2.2.2.1
  have q00 := c.1.1
  have r20 := c.1.2.2.2.1
  have v50 := c.1.2.2.2.2.2.2.2.2.2.2.2.2.2.2.2.2.1
  have y50 := v50.1
  have p30 := v50.2.2.2.1
  have k30 := v50.2.2.2.2.2.2.2.2.2.2.2.2.2.1
  have lc0 := c.2.1.2.2.2.2.2.2.2.1 r hr
  have f2 := nI_clamp (show r < 2 ^ 31 by omega)
  have f3 := nI_lt0 (show r < 2 ^ 31 by omega)
  have f5 : ¬ 11 ≤ r := by omega
  have v1 : (nI v < 0) = False := nI_lt0 (by omega)
  have v2 : (nI v ≤ (99 : Int32)) = True := eq_true ((nI_leI (b := 99) (by omega) (by omega)).mpr hv)
  obtain ⟨k0, p1, p2, p3, p5, p6, p7, p8, p9, p12, p14, k1, k2, k3, k4, k5, k6, k7, k8, k9, k10⟩ := hS
  refine ⟨g3, ?_, t1.tr t3⟩
  refine zsem_eq (Nat.le_of_ble_eq_true rfl) (zTo_of gX5_setCoins_0 ?_)
  simp only [q00, m_needRoom c hr, v1, v2, r20, y50, p30, k30, f2, f3, f5, lc0, s1, q01, r21, k0, p3, k3, ← hg2, K2, P2, s3, zmp_s, zlt_s, zcV_s, zcI_s, zcJ_s, zcA_s, zcD_s, zcF_s, zth_n, zth_t, zrt_s, zQ_l, zQ_r, false_or, or_false, true_or, or_true, false_and, and_false, not_false_eq_true, not_true_eq_false, and_self, true_and, and_true, if_true, if_false, ite_true, ite_false, zgd_t]
theorem m_setCoinsX {h : zm_H} {N : zLv} {x y : Int32} (c : CI h N) (hx : x < 0 ∨ nI (N 0) ≤ x) : sX5_setCoins [.ref 0, .int x, .int y] h = some (.inr 2, h) := by
  have q0 := c.1.1
  refine zsem_eq (Nat.le_of_ble_eq_true rfl) (zTo_of gX5_setCoins_0 ?_)
  simp only [q0, m_needRoomX c hx, zmp_s, zlt_s, zcV_s, zcI_s, zcJ_s, zcA_s, zcD_s, zcF_s, zth_n, zth_t, zrt_s, zQ_l, zQ_r, zgd_t]
theorem m_setCoinsY {h : zm_H} {N : zLv} {r : Nat} {y : Int32} (c : CI h N) (hr : r < N 0) (hy : y < 0 ∨ ¬ y ≤ 99) : sX5_setCoins [.ref 0, .int (nI r), .int y] h = some (.inr 1, h) := by
  have q0 := c.1.1
  refine zsem_eq (Nat.le_of_ble_eq_true rfl) (zTo_of gX5_setCoins_0 ?_)
  by_cases w : y < 0
  · simp only [q0, m_needRoom c hr, w, zmp_s, zlt_s, zcV_s, zcI_s, zcJ_s, zcA_s, zcD_s, zcF_s, zth_n, zth_t, zrt_s, zQ_l, zQ_r, false_or, or_false, true_or, or_true, false_and, and_false, not_false_eq_true, not_true_eq_false, and_self, true_and, and_true, if_true, if_false, ite_true, ite_false, zgd_t]
  · simp only [q0, m_needRoom c hr, w, hy.resolve_left w, zmp_s, zlt_s, zcV_s, zcI_s, zcJ_s, zcA_s, zcD_s, zcF_s, zth_n, zth_t, zrt_s, zQ_l, zQ_r, false_or, or_false, true_or, or_true, false_and, and_false, not_false_eq_true, not_true_eq_false, and_self, true_and, and_true, if_true, if_false, ite_true, ite_false, zgd_t]
end ZC9

