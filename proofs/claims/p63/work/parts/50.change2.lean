/-! THE CLASS: doors, the start, the end. -/
section ZCA
/-- a door that is right -/
theorem WP_door {N M : zLv} {d : Nat} (hP : WP N) (hlo : ∀ i, i < 49 → M i = N i) (ho : ∀ i, i < N 1 → i ≠ d → ∀ j, 49 ≤ j → j < 54 → M (j + 5 * i) = N (j + 5 * i)) (hd : M (49 + 5 * d) < N 0 ∧ M (50 + 5 * d) < N 0 ∧ M (49 + 5 * d) ≠ M (50 + 5 * d) ∧ M (51 + 5 * d) ≤ 2 ∧ M (52 + 5 * d) ≤ 999 ∧ (M (51 + 5 * d) = 1 → M (52 + 5 * d) < 8) ∧ M (53 + 5 * d) ≤ 1) : WP M := by
  have w0 := hP.1.1
  refine WP_hi hP (fun j hj => hlo j (by omega)) (fun r hr => ?_) (fun i hi => ?_) (fun r hr => ?_)
  · rw [hlo _ (by omega), hlo _ (by omega)]; exact hP.1.2.2.2.1 r hr
  · by_cases e : i = d
    · rw [e]; exact hd
    · rw [ho i hi e 49 (by omega) (by omega), ho i hi e 50 (by omega) (by omega), ho i hi e 51 (by omega) (by omega), ho i hi e 52 (by omega) (by omega), ho i hi e 53 (by omega) (by omega)]
      exact hP.1.2.2.2.2.1 i hi
  · rw [hlo _ (by omega)]; exact hP.2.2.2.2.2 r hr
def nSl (N : zLv) (d k v : Nat) : zLv := zput (zput N (51 + 5 * d) k) (52 + 5 * d) v
/-- the greatest number of a lock -/
def nGn (k : Nat) : Nat := if k = 0 then 0 else if k = 1 then 7 else 999
theorem m_greatest {k : Nat} (hk : k ≤ 2) (h : zm_H) : sX5_greatestNumber [.int (nI k)] h = some (.inl (some (.int (nI (nGn k)))), h) := by
  refine zsem_eq (Nat.le_of_ble_eq_true rfl) (zTo_of gX5_greatestNumber_0 ?_)
  have h2 : k = 0 ∨ k = 1 ∨ k = 2 := by omega
  rcases h2 with e | e | e <;> subst e
  · simp only [show (nI 0 = 1) = False by decide +kernel, show (nI 0 = 2) = False by decide +kernel, zmp_s, zlt_s, zcV_s, zcI_s, zcJ_s, zcA_s, zcD_s, zcF_s, zth_n, zth_t, zrt_s, zQ_l, zQ_r, false_or, or_false, true_or, or_true, false_and, and_false, not_false_eq_true, not_true_eq_false, and_self, true_and, and_true, if_true, if_false, ite_true, ite_false]; rfl
  · simp only [show (nI 1 = 1) = True by decide +kernel, zmp_s, zlt_s, zcV_s, zcI_s, zcJ_s, zcA_s, zcD_s, zcF_s, zth_n, zth_t, zrt_s, zQ_l, zQ_r, false_or, or_false, true_or, or_true, false_and, and_false, not_false_eq_true, not_true_eq_false, and_self, true_and, and_true, if_true, if_false, ite_true, ite_false]; rfl
  · simp only [show (nI 2 = 1) = False by decide +kernel, show (nI 2 = 2) = True by decide +kernel, zmp_s, zlt_s, zcV_s, zcI_s, zcJ_s, zcA_s, zcD_s, zcF_s, zth_n, zth_t, zrt_s, zQ_l, zQ_r, false_or, or_false, true_or, or_true, false_and, and_false, not_false_eq_true, not_true_eq_false, and_self, true_and, and_true, if_true, if_false, ite_true, ite_false]; rfl
theorem m_setLock {h : zm_H} {N : zLv} {P : List zLv} {d k v : Nat} (c : CI h N) (H : HH h P) (hd : d < N 1) (hk2 : k ≤ 2) (hv : v ≤ nGn k) :
    ∃ g, sX5_setLock [.ref 0, .int (nI d), .int (nI k), .int (nI v)] h = some (.inl (some (.int (nI (1000 * N (51 + 5 * d) + N (52 + 5 * d))))), g) ∧ CT h g (nCt (nSl N d k v)) (pst N P) := by
  have hF := c.2.2.1
  have hW := hF.1
  have hn := hW.1
  have hdn := hW.2.1
  have v999 : v ≤ 999 := by unfold nGn at hv; split at hv <;> (try split at hv) <;> omega
  have gn : nGn k ≤ 999 := by unfold nGn; split <;> (try split) <;> omega
  obtain ⟨g1, s1, t1, st1⟩ := m_record c H
  have c1 := t1.2.2.2.1
  have H1 := t1.2.2.2.2
  have hS := c1.1.2.2.2.2.2.2.2.2.2.2.2.2.2.2.2.2.1
  have sl := q_lock (k := k) (n := v) hS (show d < 20 by omega)
  obtain ⟨g2, hg2⟩ : ∃ g2, g2 = zsI (zsI g1 (L5 + 6) d (nI k)) (L5 + 7) d (nI v) := ⟨_, rfl⟩
  rw [← hg2] at sl
  have b1 : N 0 ≤ 11 ∧ N 4 ≤ 11 := ⟨hW.1, hW.2.2.1⟩
  have kl2 : KL g2 L5 (nSl N d k v) := by rw [hg2]; exact KL_num (KL_kind c1.2.1 b1 d k) (zbz b1 (by omega)) d v
  have fr2 : zFr (fun c => c = L5 + 6 ∨ c = L5 + 7) g1 g2 := by rw [hg2]; exact (zFr.sI (Or.inl rfl)).tr (zFr.sI (Or.inr rfl))
  have lo2 : lvO g2 L5 := lvO_fr fr2 (by omega) c1.2.2.2.2.1
  have a := hW.2.2.2.2.1 d hd
  have wp : WP (nSl N d k v) := by
    unfold nSl
    refine WP_door (d := d) hF.p (fun i hi => by rw [zput_ne _ _ (by omega), zput_ne _ _ (by omega)]) (fun i hi e j hj hj2 => by rw [zput_ne _ _ (by omega), zput_ne _ _ (by omega)]) ?_
    rw [zput_ne _ _ (show 49 + 5 * d ≠ 52 + 5 * d by omega), zput_ne _ _ (show 49 + 5 * d ≠ 51 + 5 * d by omega), zput_ne _ _ (show 50 + 5 * d ≠ 52 + 5 * d by omega), zput_ne _ _ (show 50 + 5 * d ≠ 51 + 5 * d by omega), zput_ne _ _ (show 51 + 5 * d ≠ 52 + 5 * d by omega), zput_self, zput_self, zput_ne _ _ (show 53 + 5 * d ≠ 52 + 5 * d by omega), zput_ne _ _ (show 53 + 5 * d ≠ 51 + 5 * d by omega)]
    refine ⟨a.1, a.2.1, a.2.2.1, hk2, v999, fun e => ?_, a.2.2.2.2.2.2⟩
    subst e
    have : nGn 1 = 7 := rfl
    omega
  obtain ⟨g3, s3, t3, -⟩ := m_cut c1 H1 st1 (fr2.mono (fun c hc => by unfold lvA; omega)) kl2 wp lo2 (by unfold nSl; rw [zput_ne _ _ (by omega), zput_ne _ _ (by omega)]) (by unfold nSl; rw [zput_ne _ _ (by omega), zput_ne _ _ (by omega)]) (fun j hj => by unfold nSl; rw [zput_ne _ _ (by have := hW.2.2.1; omega), zput_ne _ _ (by have := hW.2.2.1; omega)])
  have K2 := fr2.K
  have P2 := fr2.P
  have q01 := c1.1.1
  have r21 := c1.1.2.2.2.1
  have q00 := c.1.1
  have r20 := c.1.2.2.2.1
  have v50 := c.1.2.2.2.2.2.2.2.2.2.2.2.2.2.2.2.2.1
  have y50 := v50.1
  have p70 := v50.2.2.2.2.2.2.1
  have p80 := v50.2.2.2.2.2.2.2.1
  have k60 := v50.2.2.2.2.2.2.2.2.2.2.2.2.2.2.2.2.1
  have k70 := v50.2.2.2.2.2.2.2.2.2.2.2.2.2.2.2.2.2.1
  have lk0 := c.2.1.2.2.2.2.2.2.2.2.2.2.1 d hd
  have ln0 := c.2.1.2.2.2.2.2.2.2.2.2.2.2.1 d hd
  have f2 := nI_clamp (show d < 2 ^ 31 by omega)
  have f3 := nI_lt0 (show d < 2 ^ 31 by omega)
  have f5 : ¬ 20 ≤ d := by omega
  have v1 : (nI k < 0) = False := nI_lt0 (by omega)
  have v2 : (nI k ≤ (2 : Int32)) = True := eq_true ((nI_leI (b := 2) (by omega) (by omega)).mpr hk2)
  have v3 : (nI v < 0) = False := nI_lt0 (by omega)
  have v4 : (nI v ≤ nI (nGn k)) = True := eq_true ((nI_leI (by omega) (by omega)).mpr hv)
  have ex : (1000 : Int32) * nI (N (51 + 5 * d)) + nI (N (52 + 5 * d)) = nI (1000 * N (51 + 5 * d) + N (52 + 5 * d)) := by
    rw [← nI_add, show nI (1000 * N (51 + 5 * d)) = nI 1000 * nI (N (51 + 5 * d)) from Int32.ofNat_mul _ _]; rfl
  obtain ⟨k0, p1, p2, p3, p5, p6, p7, p8, p9, p12, p14, k1, k2, k3, k4, k5, k6, k7, k8, k9, k10⟩ := hS
  refine ⟨g3, ?_, t1.tr t3⟩
  refine zsem_eq (Nat.le_of_ble_eq_true rfl) (zTo_of gX5_setLock_0 ?_)
  simp only [q00, m_needDoor c hd, v1, v2, v3, m_greatest hk2, v4, r20, y50, p70, p80, k60, k70, f2, f3, f5, lk0, ln0, s1, q01, r21, k0, sl, K2, P2, s3, ex, zmp_s, zlt_s, zcV_s, zcI_s, zcJ_s, zcA_s, zcD_s, zcF_s, zth_n, zth_t, zrt_s, zQ_l, zQ_r, false_or, or_false, true_or, or_true, false_and, and_false, not_false_eq_true, not_true_eq_false, and_self, true_and, and_true, if_true, if_false, ite_true, ite_false, zgd_t]
theorem m_setLockX {h : zm_H} {N : zLv} {x y z : Int32} (c : CI h N) (hx : x < 0 ∨ nI (N 1) ≤ x) : sX5_setLock [.ref 0, .int x, .int y, .int z] h = some (.inr 2, h) := by
  have q0 := c.1.1
  refine zsem_eq (Nat.le_of_ble_eq_true rfl) (zTo_of gX5_setLock_0 ?_)
  simp only [q0, m_needDoorX c hx, zmp_s, zlt_s, zcV_s, zcI_s, zcJ_s, zcA_s, zcD_s, zcF_s, zth_n, zth_t, zrt_s, zQ_l, zQ_r, zgd_t]
theorem m_setLockY {h : zm_H} {N : zLv} {d : Nat} {y z : Int32} (c : CI h N) (hd : d < N 1) (hy : y < 0 ∨ ¬ y ≤ 2) : sX5_setLock [.ref 0, .int (nI d), .int y, .int z] h = some (.inr 1, h) := by
  have q0 := c.1.1
  refine zsem_eq (Nat.le_of_ble_eq_true rfl) (zTo_of gX5_setLock_0 ?_)
  by_cases w : y < 0
  · simp only [q0, m_needDoor c hd, w, zmp_s, zlt_s, zcV_s, zcI_s, zcJ_s, zcA_s, zcD_s, zcF_s, zth_n, zth_t, zrt_s, zQ_l, zQ_r, false_or, or_false, true_or, or_true, false_and, and_false, not_false_eq_true, not_true_eq_false, and_self, true_and, and_true, if_true, if_false, ite_true, ite_false, zgd_t]
  · simp only [q0, m_needDoor c hd, w, hy.resolve_left w, zmp_s, zlt_s, zcV_s, zcI_s, zcJ_s, zcA_s, zcD_s, zcF_s, zth_n, zth_t, zrt_s, zQ_l, zQ_r, false_or, or_false, true_or, or_true, false_and, and_false, not_false_eq_true, not_true_eq_false, and_self, true_and, and_true, if_true, if_false, ite_true, ite_false, zgd_t]
theorem m_setLockZ {h : zm_H} {N : zLv} {d k : Nat} {z : Int32} (c : CI h N) (hd : d < N 1) (hk2 : k ≤ 2) (hz : z < 0 ∨ ¬ z ≤ nI (nGn k)) : sX5_setLock [.ref 0, .int (nI d), .int (nI k), .int z] h = some (.inr 1, h) := by
  have q0 := c.1.1
  have v1 : (nI k < 0) = False := nI_lt0 (by omega)
  have v2 : (nI k ≤ (2 : Int32)) = True := eq_true ((nI_leI (b := 2) (by omega) (by omega)).mpr hk2)
  refine zsem_eq (Nat.le_of_ble_eq_true rfl) (zTo_of gX5_setLock_0 ?_)
  by_cases w : z < 0
  · simp only [q0, m_needDoor c hd, v1, v2, w, zmp_s, zlt_s, zcV_s, zcI_s, zcJ_s, zcA_s, zcD_s, zcF_s, zth_n, zth_t, zrt_s, zQ_l, zQ_r, false_or, or_false, true_or, or_true, false_and, and_false, not_false_eq_true, not_true_eq_false, and_self, true_and, and_true, if_true, if_false, ite_true, ite_false, zgd_t]
  · simp only [q0, m_needDoor c hd, v1, v2, w, m_greatest hk2, hz.resolve_left w, zmp_s, zlt_s, zcV_s, zcI_s, zcJ_s, zcA_s, zcD_s, zcF_s, zth_n, zth_t, zrt_s, zQ_l, zQ_r, false_or, or_false, true_or, or_true, false_and, and_false, not_false_eq_true, not_true_eq_false, and_self, true_and, and_true, if_true, if_false, ite_true, ite_false, zgd_t]
theorem m_removeDoor {h : zm_H} {N : zLv} {P : List zLv} {d : Nat} (c : CI h N) (H : HH h P) (hd : d < N 1) :
    ∃ g, sX5_removeDoor [.ref 0, .int (nI d)] h = some (.inl (some (.int (nI (N 1 - 1)))), g) ∧ CT h g (nCt (nDrop N d)) (pst N P) := by
  have hF := c.2.2.1
  have hW := hF.1
  obtain ⟨g1, s1, t1, st1⟩ := m_record c H
  have c1 := t1.2.2.2.1
  have H1 := t1.2.2.2.2
  have hS := c1.1.2.2.2.2.2.2.2.2.2.2.2.2.2.2.2.2.1
  obtain ⟨g2, s2, fr2, kl2, lo2⟩ := q_dropDoor hS c1.2.1 ⟨hW.1, hW.2.1, hW.2.2.1⟩ hd (fun i hi => (hW.2.2.2.2.1 i hi).2.2.2.2.2.2) c1.2.2.2.2.1
  have wp : WP (nDrop N d) := by
    have p := hF.p
    refine ⟨WB_nDrop hW d, ?_, ?_, ?_, ?_, fun r hr => ?_⟩
    · rw [nDrop_lo (by omega) (by omega)]; exact p.2.1
    · rw [nDrop_lo (by omega) (by omega), nDrop_lo (by omega) (by omega)]; exact p.2.2.1
    · rw [nDrop_lo (by omega) (by omega), nDrop_lo (by omega) (by omega)]; exact p.2.2.2.1
    · rw [nDrop_lo (by omega) (by omega), nDrop_lo (by omega) (by omega)]; exact p.2.2.2.2.1
    · rw [nDrop_lo (by omega) (by omega)] at hr
      rw [nDrop_lo (by have := hW.1; omega) (by omega)]; exact p.2.2.2.2.2 r hr
  obtain ⟨g3, s3, t3, -⟩ := m_cut c1 H1 st1 fr2 kl2 wp lo2 (nDrop_lo (by omega) (by omega)) (nDrop_lo (by omega) (by omega)) (fun j hj => nDrop_lo (by have := hW.2.2.1; omega) (by omega))
  have K2 := fr2.K
  have P2 := fr2.P
  have q01 := c1.1.1
  have r21 := c1.1.2.2.2.1
  have q00 := c.1.1
  have K3 := t3.1.K
  have P3 := t3.1.P
  have l1 := t3.2.2.2.1.2.1.2.1
  rw [zput_ne _ _ (by omega), nDrop_1] at l1
  obtain ⟨k0, p1, p2, p3, p5, p6, p7, p8, p9, p12, p14, k1, k2, k3, k4, k5, k6, k7, k8, k9, k10⟩ := hS
  refine ⟨g3, ?_, t1.tr t3⟩
  refine zsem_eq (Nat.le_of_ble_eq_true rfl) (zTo_of gX5_removeDoor_0 ?_)
  simp only [q00, m_needDoor c hd, s1, q01, r21, k0, s2, K2, P2, s3, K3, P3, l1, zmp_s, zlt_s, zcV_s, zcI_s, zcJ_s, zcA_s, zcD_s, zcF_s, zth_n, zth_t, zrt_s, zQ_l, zQ_r, false_or, or_false, true_or, or_true, false_and, and_false, not_false_eq_true, not_true_eq_false, and_self, true_and, and_true, if_true, if_false, ite_true, ite_false, zgd_t]
theorem m_removeDoorX {h : zm_H} {N : zLv} {x : Int32} (c : CI h N) (hx : x < 0 ∨ nI (N 1) ≤ x) : sX5_removeDoor [.ref 0, .int x] h = some (.inr 2, h) := by
  have q0 := c.1.1
  refine zsem_eq (Nat.le_of_ble_eq_true rfl) (zTo_of gX5_removeDoor_0 ?_)
  simp only [q0, m_needDoorX c hx, zmp_s, zlt_s, zcV_s, zcI_s, zcJ_s, zcA_s, zcD_s, zcF_s, zth_n, zth_t, zrt_s, zQ_l, zQ_r, zgd_t]
end ZCA

