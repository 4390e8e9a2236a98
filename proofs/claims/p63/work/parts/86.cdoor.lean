/-! THE CLASS: doors, start and end read. -/
section ZPE
/-- a lock told -/
def pLk (xs : List Int32) (v : Nat) : PR ((Nat × Nat) × Nat) :=
  if isW xs v 8179 = true then pb (pFits xs 7 (nxt xs v)) (fun k => .inr ((1, k), nxt xs (nxt xs v)))
  else if isW xs v 404931 = true then pb (pFits xs 999 (nxt xs v)) (fun k => .inr ((2, k), nxt xs (nxt xs v)))
  else .inr ((0, 0), v)
def pOw (xs : List Int32) (w : Nat) : Nat × Nat := if isW xs w 222789013 = true then (1, nxt xs w) else (0, w)
theorem pDoor1_eq (xs : List Int32) (N : zLv) (f g v : Nat) : pDoor1 xs N f g v = pb (pLk xs v) fun u => pb (pSemi xs (pOw xs u.2).2) fun y => .inr (nAo N f g u.1.1 u.1.2 (pOw xs u.2).1, y) := by
  have d2 : ∀ k v w, pDoor2 xs N f g k v w = pb (pSemi xs (pOw xs w).2) fun y => .inr (nAo N f g k v (pOw xs w).1, y) := by
    intro k v w
    unfold pDoor2 pOw
    cases isW xs w 222789013 <;> rfl
  unfold pDoor1 pLk
  cases isW xs v 8179
  · cases isW xs v 404931
    · exact d2 _ _ _
    · simp only [Bool.false_eq_true, if_true, if_false]
      cases pFits xs 999 (nxt xs v) with
      | inl e => rfl
      | inr k => exact d2 _ _ _
  · simp only [if_true]
    cases pFits xs 7 (nxt xs v) with
    | inl e => rfl
    | inr k => exact d2 _ _ _
section
variable {h : zm_H} {p : Nat} {xs : List Int32} {M N : zLv} {fl : Bool} {s : Nat}
theorem c_lock {d : Nat} (C : CL h p xs M fl s) (hM : M 0 ≤ 11 ∧ M 4 ≤ 11) (hd : d < 20) (hz : M (51 + 5 * d) = 0 ∧ M (52 + 5 * d) = 0) : RO (pLk xs s) (sX3_readLock [.ref p, .int (nI d)] h) (RE p h) (fun u g => zFr (paA p) h g ∧ CL g p xs (zput (zput M (51 + 5 * d) u.1.1) (52 + 5 * d) u.1.2) fl u.2 ∧ u.1.1 ≤ 2 ∧ u.1.2 ≤ 999 ∧ (u.1.1 = 1 → u.1.2 < 8)) := by
  have a1 := C.1.2.1
  have e16 := L16e
  have ik := q_isWord (K := 8179) (L := 7038329) C.1 C.2.1 (by decide +kernel) (by decide) (by omega)
  have it := q_isWord (K := 404931) (L := 1953459308) C.1 C.2.1 (by decide +kernel) (by decide) (by omega)
  have hid : zput (zput M (51 + 5 * d) 0) (52 + 5 * d) 0 = M := by
    have e1 : zput M (51 + 5 * d) 0 = M := by conv => lhs; rw [← hz.1]
                                              exact zput_id
    rw [e1]; conv => lhs; rw [← hz.2]
    exact zput_id
  have tell : ∀ (k G : Nat) (I : Int32), I = nI k → nGn k = G → k ≤ 2 → G ≤ 999 → (∀ v, v ≤ G → k = 1 → v < 8) → ∃ g1, sX3_nextToken [.ref p] h = some (.inl none, g1) ∧ zK g1 p = (9, 9) ∧ zP g1 p 1 = some L16 ∧ zK g1 L16 = (8, 15) ∧ sX5_greatestNumber [.int I] g1 = some (.inl (some (.int (nI G))), g1) ∧
      ((∃ e g, pFits xs G (nxt xs s) = .inl e ∧ sX3_fits [.ref p, .int (nI G)] g1 = some (.inl (some (.int 0)), g) ∧ RE p h e g) ∨
       (∃ v g2 g3, pFits xs G (nxt xs s) = .inr v ∧ sX3_fits [.ref p, .int (nI G)] g1 = some (.inl (some (.int 1)), g1) ∧ sX2_lock [.ref L16, .int (nI d), .int I, .int (zI g1 p 6)] g1 = some (.inl none, g2) ∧ zK g2 p = (9, 9) ∧ sX3_nextToken [.ref p] g2 = some (.inl none, g3) ∧ zFr (paA p) h g3 ∧ CL g3 p xs (zput (zput M (51 + 5 * d) k) (52 + 5 * d) v) fl (nxt xs (nxt xs s)) ∧ k ≤ 2 ∧ v ≤ 999 ∧ (k = 1 → v < 8))) := by
    intro k G I hI hG hk hG2 hk8
    obtain ⟨g1, e1, f1, D1⟩ := CL_go C
    have hS := D1.1.2.2.2.2.2.2.2.2.2.2.2
    refine ⟨g1, e1, D1.1.2.1, D1.1.2.2.2.1, hS.1, by rw [hI, ← hG]; exact m_greatest hk g1, ?_⟩
    have ft := q_fits (g := G) (x := nI G) D1.1 D1.2.1 rfl (by omega)
    cases q : pFits xs G (nxt xs s) with
    | inl e =>
      obtain ⟨c, hc, ef⟩ := ft.2 e q
      exact Or.inl ⟨e, _, rfl, ef, by rw [hc]; exact RE.pre (f1.mono pa_p) (CL_fail D1 c)⟩
    | inr v =>
      obtain ⟨ef, hv, ev⟩ := ft.1 v q
      have lk := q_lock (k := k) (n := v) hS hd
      have K1 := KL_kind D1.2.2.1 hM d k
      have K2 := KL_num K1 (by rw [zput_ne _ _ (by omega), zput_ne _ _ (by omega)]; exact hM) d v
      have f2 : zFr (fun q => 16 ≤ q ∧ q ≤ 26) g1 (zsI (zsI g1 (L16 + 6) d (nI k)) (L16 + 7) d (nI v)) := (zFr.sI (by omega)).tr (zFr.sI (by omega))
      have D2 := CL_lv D1 f2 K2 (lvO_fr (A := fun q => q = L16 + 6 ∨ q = L16 + 7) ((zFr.sI (Or.inl rfl)).tr (zFr.sI (Or.inr rfl))) (by omega) D1.2.2.2.1)
      obtain ⟨g3, e3, f3, D3⟩ := CL_go D2
      exact Or.inr ⟨v, _, g3, rfl, ef, by rw [ev, hI]; exact lk, D2.1.2.1, e3, ((f1.mono pa_p).tr (f2.mono pa_lv)).tr (f3.mono pa_p), D3, hk, by omega, hk8 v hv⟩
  unfold pLk
  cases qk : isW xs s 8179
  · rw [qk, zb_f] at ik
    rw [if_neg (by simp)]
    cases qt : isW xs s 404931
    · rw [qt, zb_f] at it
      rw [if_neg (by simp)]
      refine ⟨h, Or.inr ⟨((0, 0), s), rfl, ?_, zFr.rf, by rw [hid]; exact C, by show 0 ≤ 2; omega, by show 0 ≤ 999; omega, fun x => by cases x⟩⟩
      refine zsem_eq (Nat.le_of_ble_eq_true rfl) (zTo_of gX3_readLock_0 ?_)
      simp only [a1, ik, it, zmp_s, zlt_s, zcV_s, zcI_s, zcJ_s, zcA_s, zcD_s, zcF_s, zth_n, zth_t, zrt_s, zQ_l, zQ_r, false_or, or_false, true_or, or_true, false_and, and_false, not_false_eq_true, not_true_eq_false, and_self, true_and, and_true, if_true, if_false, ite_true, ite_false, zgd_t]
    · rw [qt, zb_t] at it
      rw [if_pos rfl]
      obtain ⟨g1, e1, c1, c3, k0, eg, ⟨e, g, hu, ef, hE⟩ | ⟨v, g2, g3, hu, ef, lk, c2, e3, hK⟩⟩ := tell 2 999 2 rfl rfl (by omega) (by omega) (fun v hv x => by omega)
      · rw [hu]
        refine ⟨g, Or.inl ⟨e, rfl, ?_, hE⟩⟩
        refine zsem_eq (Nat.le_of_ble_eq_true rfl) (zTo_of gX3_readLock_0 ?_)
        simp only [a1, ik, it, i10, show ((2 : Int32) = 0) = False from by decide, e1, c1, eg, ef, zmp_s, zlt_s, zcV_s, zcI_s, zcJ_s, zcA_s, zcD_s, zcF_s, zth_n, zth_t, zrt_s, zQ_l, zQ_r, false_or, or_false, true_or, or_true, false_and, and_false, not_false_eq_true, not_true_eq_false, and_self, true_and, and_true, if_true, if_false, ite_true, ite_false, zgd_t]
      · rw [hu]
        refine ⟨g3, Or.inr ⟨_, rfl, ?_, hK⟩⟩
        refine zsem_eq (Nat.le_of_ble_eq_true rfl) (zTo_of gX3_readLock_0 ?_)
        simp only [a1, ik, it, i10, show ((2 : Int32) = 0) = False from by decide, e1, c1, eg, ef, c3, k0, lk, c2, e3, zmp_s, zlt_s, zcV_s, zcI_s, zcJ_s, zcA_s, zcD_s, zcF_s, zth_n, zth_t, zrt_s, zQ_l, zQ_r, false_or, or_false, true_or, or_true, false_and, and_false, not_false_eq_true, not_true_eq_false, and_self, true_and, and_true, if_true, if_false, ite_true, ite_false, zgd_t]
  · rw [qk, zb_t] at ik
    rw [if_pos rfl]
    obtain ⟨g1, e1, c1, c3, k0, eg, ⟨e, g, hu, ef, hE⟩ | ⟨v, g2, g3, hu, ef, lk, c2, e3, hK⟩⟩ := tell 1 7 1 rfl rfl (by omega) (by omega) (fun v hv x => by omega)
    · rw [hu]
      refine ⟨g, Or.inl ⟨e, rfl, ?_, hE⟩⟩
      refine zsem_eq (Nat.le_of_ble_eq_true rfl) (zTo_of gX3_readLock_0 ?_)
      simp only [a1, ik, i10, e1, c1, eg, ef, zmp_s, zlt_s, zcV_s, zcI_s, zcJ_s, zcA_s, zcD_s, zcF_s, zth_n, zth_t, zrt_s, zQ_l, zQ_r, false_or, or_false, true_or, or_true, false_and, and_false, not_false_eq_true, not_true_eq_false, and_self, true_and, and_true, if_true, if_false, ite_true, ite_false, zgd_t]
    · rw [hu]
      refine ⟨g3, Or.inr ⟨_, rfl, ?_, hK⟩⟩
      refine zsem_eq (Nat.le_of_ble_eq_true rfl) (zTo_of gX3_readLock_0 ?_)
      simp only [a1, ik, i10, e1, c1, eg, ef, c3, k0, lk, c2, e3, zmp_s, zlt_s, zcV_s, zcI_s, zcJ_s, zcA_s, zcD_s, zcF_s, zth_n, zth_t, zrt_s, zQ_l, zQ_r, false_or, or_false, true_or, or_true, false_and, and_false, not_false_eq_true, not_true_eq_false, and_self, true_and, and_true, if_true, if_false, ite_true, ite_false, zgd_t]
theorem c_oneway {d : Nat} (C : CL h p xs M fl s) (hM : M 0 ≤ 11 ∧ M 4 ≤ 11) (hd : d < 20) (hz : M (53 + 5 * d) = 0) : ∃ g, sX3_readOneway [.ref p, .int (nI d)] h = some (.inl (some (.int 1)), g) ∧ zFr (paA p) h g ∧ CL g p xs (zput M (53 + 5 * d) (pOw xs s).1) fl (pOw xs s).2 := by
  have a1 := C.1.2.1
  have a3 := C.1.2.2.2.1
  have e16 := L16e
  have hS := C.1.2.2.2.2.2.2.2.2.2.2.2
  have ik := q_isWord (K := 222789013) (L := 122519939408249) C.1 C.2.1 (by decide +kernel) (by decide) (by omega)
  have hid : zput M (53 + 5 * d) 0 = M := by conv => lhs; rw [← hz]
                                             exact zput_id
  unfold pOw
  cases q : isW xs s 222789013
  · rw [q, zb_f] at ik
    rw [if_neg (by simp)]
    refine ⟨h, ?_, zFr.rf, by rw [hid]; exact C⟩
    refine zsem_eq (Nat.le_of_ble_eq_true rfl) (zTo_of gX3_readOneway_0 ?_)
    simp only [a1, ik, zmp_s, zlt_s, zcV_s, zcI_s, zcJ_s, zcA_s, zcD_s, zcF_s, zth_n, zth_t, zrt_s, zQ_l, zQ_r, false_or, or_false, true_or, or_true, false_and, and_false, not_false_eq_true, not_true_eq_false, and_self, true_and, and_true, if_true, if_false, ite_true, ite_false, zgd_t]
  · rw [q, zb_t] at ik
    rw [if_pos rfl]
    have K1 := KL_ow C.2.2.1 hM d 1
    have f2 : zFr (fun q => 16 ≤ q ∧ q ≤ 26) h (zsI h (L16 + 8) d (nI 1)) := zFr.sI (by omega)
    have D2 := CL_lv C f2 K1 (fun i hi => by
      rw [I_sIs]
      by_cases e : i = d
      · subst e; rw [zput_self]; exact Or.inr rfl
      · rw [zput_ne _ _ e]; exact C.2.2.2.1 i hi)
    obtain ⟨g3, e3, f3, D3⟩ := CL_go D2
    refine ⟨g3, ?_, (f2.mono pa_lv).tr (f3.mono pa_p), D3⟩
    have n11 : nI 1 = 1 := rfl
    rw [n11] at e3
    obtain ⟨k0, p1, p2, p3, p5, p6, p7, p8, p9, p12, p14, k1, k2, k3, k4, k5, k6, k7, k8, k9, k10⟩ := hS
    obtain ⟨rr1, rr2, rr3, rr4⟩ := nI_for hd (by omega)
    refine zsem_eq (Nat.le_of_ble_eq_true rfl) (zTo_of gX3_readOneway_0 ?_)
    simp only [a1, ik, i10, a3, k0, p9, k8, rr2, rr3, show ¬ 20 ≤ d by omega, K_sI, K_sJ, K_sD, K_sP, K_rI, K_rJ, P_sI, P_sJ, P_sD, P_rI, P_rJ, N_sI, N_sJ, N_sD, N_sP, N_rI, N_rJ, J_sI, J_sD, J_sP, J_rI, I_sJ, I_sD, I_sP, I_rJ, D_sI, D_sJ, D_sP, D_rI, D_rJ, e3, zmp_s, zlt_s, zcV_s, zcI_s, zcJ_s, zcA_s, zcD_s, zcF_s, zth_n, zth_t, zrt_s, zQ_l, zQ_r, false_or, or_false, true_or, or_true, false_and, and_false, not_false_eq_true, not_true_eq_false, and_self, true_and, and_true, if_true, if_false, ite_true, ite_false, zgd_t]
theorem fW_ao {f g k v o : Nat} (h0 : N 1 ≤ 20) : zput (zput (zput (nAddD (fW N) f g) (51 + 5 * N 1) k) (52 + 5 * N 1) v) (53 + 5 * N 1) o = fW (nAo N f g k v o) := by
  have f1 : fW N 1 = N 1 := fW_ne (by omega)
  have r2 : nAo N f g k v o 2 = N 2 := by unfold nAo; rw [zput_ne _ _ (by omega), zput_ne _ _ (by omega), zput_ne _ _ (by omega), zput_ne _ _ (by omega), zput_ne _ _ (by omega), zput_ne _ _ (by omega)]
  funext i
  unfold nAddD
  rw [f1]
  by_cases i5 : i = 5
  · subst i5
    rw [fW_5, r2, zput_ne _ _ (by omega), zput_ne _ _ (by omega), zput_ne _ _ (by omega), zput_ne _ _ (by omega), zput_ne _ _ (by omega), zput_ne _ _ (by omega), zput_ne _ _ (by omega), zput_ne _ _ (by omega), zput_ne _ _ (by omega), fW_5]
  · rw [fW_ne i5]
    unfold nAo
    by_cases i53 : i = 53 + 5 * N 1
    · subst i53
      rw [zput_self, zput_self]
    · rw [zput_ne _ _ i53, zput_ne _ _ i53]
      by_cases i52 : i = 52 + 5 * N 1
      · subst i52
        rw [zput_self, zput_self]
      · rw [zput_ne _ _ i52, zput_ne _ _ i52]
        by_cases i51 : i = 51 + 5 * N 1
        · subst i51
          rw [zput_self, zput_self]
        · rw [zput_ne _ _ i51, zput_ne _ _ i51]
          by_cases i1 : i = 1
          · subst i1
            rw [zput_self, zput_ne _ _ (by omega), zput_ne _ _ (by omega), zput_self]
          · rw [zput_ne _ _ i1, zput_ne _ _ i52, zput_ne _ _ i51, zput_ne _ _ i53]
            by_cases i50 : i = 50 + 5 * N 1
            · subst i50
              rw [zput_self, zput_self]
            · rw [zput_ne _ _ i50, zput_ne _ _ i50]
              by_cases i49 : i = 49 + 5 * N 1
              · subst i49
                rw [zput_self, zput_self]
              · rw [zput_ne _ _ i49, zput_ne _ _ i49, zput_ne _ _ i1, fW_ne i5]
theorem c_door (C : CL h p xs (fW N) fl s) (hI : PI N) : RO (pDoor xs N s) (sX3_readDoor [.ref p] h) (RE p h) (fun u g => zFr (paA p) h g ∧ CL g p xs (fW u.1) fl u.2 ∧ PI u.1 ∧ 1 ≤ u.1 0) := by
  have a1 := C.1.2.1
  have a3 := C.1.2.2.2.1
  have e16 := L16e
  have hS := C.1.2.2.2.2.2.2.2.2.2.2.2
  have k0 := hS.1
  have h0 := hI.1
  have hd1 := hI.2.1
  have f0 : fW N 0 = N 0 := fW_ne (by omega)
  have f1 : fW N 1 = N 1 := fW_ne (by omega)
  have f4 : fW N 4 = N 4 := fW_ne (by omega)
  have h4 := hI.2.2.1
  have l1 := C.2.2.1.2.1
  rw [f1] at l1
  have lt20 : (nI (N 1) < 20) = (N 1 < 20) := propext (nI_ltI (b := 20) (by omega) (by omega))
  unfold pDoor
  by_cases w : 20 ≤ N 1
  · rw [if_pos w]
    have fl5 : sX3_fail [.ref p, .int 5] h = _ := q_fail C.1 (nI 5)
    refine ⟨zsI h p 8 (nI 5), Or.inl ⟨(5, s), rfl, ?_, CL_fail C 5⟩⟩
    refine zsem_eq (Nat.le_of_ble_eq_true rfl) (zTo_of gX3_readDoor_0 ?_)
    simp only [a1, a3, k0, l1, lt20, show ¬ N 1 < 20 by omega, fl5, zrt_s, zmp_s, zlt_s, zcV_s, zcI_s, zcJ_s, zcA_s, zcD_s, zcF_s, zth_n, zth_t, zrt_s, zQ_l, zQ_r, false_or, or_false, true_or, or_true, false_and, and_false, not_false_eq_true, not_true_eq_false, and_self, true_and, and_true, if_true, if_false, ite_true, ite_false, zgd_t]
  · rw [if_neg w]
    have w2 : N 1 < 20 := by omega
    obtain ⟨g1, e1, fr1, D1⟩ := CL_go C
    have c1 := D1.1.2.1
    have F1 := fr1.mono (pa_p (p := p))
    rcases c_told D1 hI with ⟨g2, ⟨er, hu, hf, hE⟩ | ⟨f, hu, hf, hfl⟩⟩
    · rw [hu]
      refine ⟨g2, Or.inl ⟨er, rfl, ?_, RE.pre F1 hE⟩⟩
      refine zsem_eq (Nat.le_of_ble_eq_true rfl) (zTo_of gX3_readDoor_0 ?_)
      simp only [a1, a3, k0, l1, lt20, eq_true w2, e1, c1, hf, zmp_s, zlt_s, zcV_s, zcI_s, zcJ_s, zcA_s, zcD_s, zcF_s, zth_n, zth_t, zrt_s, zQ_l, zQ_r, false_or, or_false, true_or, or_true, false_and, and_false, not_false_eq_true, not_true_eq_false, and_self, true_and, and_true, if_true, if_false, ite_true, ite_false, zgd_t]
    · rw [hu]
      show RO (pb (pTold xs N (nxt xs (nxt xs s))) _) _ _ _
      have fm : (nI f = -1) = False := nI_m1f (by omega)
      obtain ⟨g3, e3, fr3, D3⟩ := CL_go D1
      have F3 : zFr (paA p) h g3 := F1.tr (fr3.mono pa_p)
      have c3 := D3.1.2.1
      rcases c_told D3 hI with ⟨g4, ⟨er, hu4, hf4, hE⟩ | ⟨g, hu4, hf4, hgl⟩⟩
      · rw [hu4]
        refine ⟨g4, Or.inl ⟨er, rfl, ?_, RE.pre F3 hE⟩⟩
        refine zsem_eq (Nat.le_of_ble_eq_true rfl) (zTo_of gX3_readDoor_0 ?_)
        simp only [a1, a3, k0, l1, lt20, eq_true w2, e1, c1, hf, fm, e3, c3, hf4, zmp_s, zlt_s, zcV_s, zcI_s, zcJ_s, zcA_s, zcD_s, zcF_s, zth_n, zth_t, zrt_s, zQ_l, zQ_r, false_or, or_false, true_or, or_true, false_and, and_false, not_false_eq_true, not_true_eq_false, and_self, true_and, and_true, if_true, if_false, ite_true, ite_false, zgd_t]
      · rw [hu4]
        have gm : (nI g = -1) = False := nI_m1f (by omega)
        have gf : (nI g = nI f) = (g = f) := propext (nI_eq (by omega) (by omega))
        show RO (if g = f then .inl (3, nxt xs (nxt xs s)) else pDoor1 xs N f g (nxt xs (nxt xs (nxt xs s)))) _ _ _
        by_cases eqf : g = f
        · rw [if_pos eqf]
          have fl3 : sX3_fail [.ref p, .int 3] g3 = _ := q_fail D3.1 (nI 3)
          refine ⟨zsI g3 p 8 (nI 3), Or.inl ⟨_, rfl, ?_, RE.pre F3 (CL_fail D3 3)⟩⟩
          refine zsem_eq (Nat.le_of_ble_eq_true rfl) (zTo_of gX3_readDoor_0 ?_)
          simp only [a1, a3, k0, l1, lt20, eq_true w2, e1, c1, hf, fm, e3, c3, hf4, gm, gf, eq_true eqf, fl3, zrt_s, zmp_s, zlt_s, zcV_s, zcI_s, zcJ_s, zcA_s, zcD_s, zcF_s, zth_n, zth_t, zrt_s, zQ_l, zQ_r, false_or, or_false, true_or, or_true, false_and, and_false, not_false_eq_true, not_true_eq_false, and_self, true_and, and_true, if_true, if_false, ite_true, ite_false, zgd_t]
        · rw [if_neg eqf, pDoor1_eq]
          have hS3 := D3.1.2.2.2.2.2.2.2.2.2.2.2
          have b3 := D3.1.2.2.2.1
          have k3 := hS3.1
          obtain ⟨g5, e5, fr5, L5', o5⟩ := q_build (r := f) (s := g) hS3 D3.2.2.1 (by rw [f1]; exact w2) (by rw [f0, f4]; omega) D3.2.2.2.1
          rw [f1] at e5
          have fr5' : zFr (fun q => 16 ≤ q ∧ q ≤ 26) g3 g5 := fr5.mono (fun q hq => by omega)
          have D5 := CL_lv D3 fr5' L5' o5
          have c5 := D5.1.2.1
          obtain ⟨g6, e6, fr6, D6⟩ := CL_go D5
          have c6 := D6.1.2.1
          have F6 : zFr (paA p) h g6 := (F3.tr (fr5'.mono pa_lv)).tr (fr6.mono pa_p)
          have n0 : nAddD (fW N) f g 0 = N 0 := by unfold nAddD; rw [f1, zput_ne _ _ (by omega), zput_ne _ _ (by omega), zput_ne _ _ (by omega), zput_ne _ _ (by omega), zput_ne _ _ (by omega), zput_ne _ _ (by omega), f0]
          have n4 : nAddD (fW N) f g 4 = N 4 := by unfold nAddD; rw [f1, zput_ne _ _ (by omega), zput_ne _ _ (by omega), zput_ne _ _ (by omega), zput_ne _ _ (by omega), zput_ne _ _ (by omega), zput_ne _ _ (by omega), f4]
          have n51 : nAddD (fW N) f g (51 + 5 * N 1) = 0 := by unfold nAddD; rw [f1, zput_ne _ _ (by omega), zput_ne _ _ (by omega), zput_self]
          have n52 : nAddD (fW N) f g (52 + 5 * N 1) = 0 := by unfold nAddD; rw [f1, zput_ne _ _ (by omega), zput_self]
          have n53 : nAddD (fW N) f g (53 + 5 * N 1) = 0 := by unfold nAddD; rw [f1, zput_ne _ _ (by omega), zput_ne _ _ (by omega), zput_ne _ _ (by omega), zput_self]
          rcases c_lock (d := N 1) D6 (by rw [n0, n4]; omega) w2 ⟨n51, n52⟩ with ⟨g7, ⟨er, hu7, hf7, hE⟩ | ⟨a, hu7, hf7, F7, D7, hk, hv, hkv⟩⟩
          · rw [hu7]
            refine ⟨g7, Or.inl ⟨er, rfl, ?_, RE.pre F6 hE⟩⟩
            refine zsem_eq (Nat.le_of_ble_eq_true rfl) (zTo_of gX3_readDoor_0 ?_)
            simp only [a1, a3, k0, l1, lt20, eq_true w2, e1, c1, hf, fm, e3, c3, hf4, gm, gf, eq_false eqf, b3, k3, e5, c5, e6, c6, hf7, zmp_s, zlt_s, zcV_s, zcI_s, zcJ_s, zcA_s, zcD_s, zcF_s, zth_n, zth_t, zrt_s, zQ_l, zQ_r, false_or, or_false, true_or, or_true, false_and, and_false, not_false_eq_true, not_true_eq_false, and_self, true_and, and_true, if_true, if_false, ite_true, ite_false, zgd_t]
          · rw [hu7]
            have c7 := D7.1.2.1
            obtain ⟨g8, e8, fr8, D8⟩ := c_oneway (d := N 1) D7 (by rw [zput_ne _ _ (by omega), zput_ne _ _ (by omega), zput_ne _ _ (by omega), zput_ne _ _ (by omega), n0, n4]; omega) w2 (by rw [zput_ne _ _ (by omega), zput_ne _ _ (by omega), n53])
            have c8 := D8.1.2.1
            show RO (pb (pSemi xs (pOw xs a.2).2) _) _ _ _
            rcases c_semi D8 with ⟨g9, ⟨er, hu9, hf9, hE⟩ | ⟨y, hu9, hf9, F9, D9⟩⟩
            · rw [hu9]
              refine ⟨g9, Or.inl ⟨er, rfl, ?_, RE.pre ((F6.tr F7).tr fr8) hE⟩⟩
              refine zsem_eq (Nat.le_of_ble_eq_true rfl) (zTo_of gX3_readDoor_0 ?_)
              simp only [a1, a3, k0, l1, lt20, eq_true w2, e1, c1, hf, fm, e3, c3, hf4, gm, gf, eq_false eqf, b3, k3, e5, c5, e6, c6, hf7, i10, c7, e8, c8, hf9, zmp_s, zlt_s, zcV_s, zcI_s, zcJ_s, zcA_s, zcD_s, zcF_s, zth_n, zth_t, zrt_s, zQ_l, zQ_r, false_or, or_false, true_or, or_true, false_and, and_false, not_false_eq_true, not_true_eq_false, and_self, true_and, and_true, if_true, if_false, ite_true, ite_false, zgd_t]
            · rw [hu9]
              rw [fW_ao hd1] at D9
              have ow : (pOw xs a.2).1 ≤ 1 := by unfold pOw; cases isW xs a.2 222789013 <;> simp
              have pr := PI_ao hI w2 hfl hgl (fun x => eqf x.symm) hk hv hkv ow
              have na0 : nAo N f g a.1.1 a.1.2 (pOw xs a.2).1 0 = N 0 := by unfold nAo; rw [zput_ne _ _ (by omega), zput_ne _ _ (by omega), zput_ne _ _ (by omega), zput_ne _ _ (by omega), zput_ne _ _ (by omega), zput_ne _ _ (by omega)]
              refine ⟨g9, Or.inr ⟨_, rfl, ?_, ((F6.tr F7).tr fr8).tr F9, D9, pr, by show 1 ≤ nAo N f g a.1.1 a.1.2 (pOw xs a.2).1 0; omega⟩⟩
              refine zsem_eq (Nat.le_of_ble_eq_true rfl) (zTo_of gX3_readDoor_0 ?_)
              simp only [a1, a3, k0, l1, lt20, eq_true w2, e1, c1, hf, fm, e3, c3, hf4, gm, gf, eq_false eqf, b3, k3, e5, c5, e6, c6, hf7, i10, c7, e8, c8, hf9, zmp_s, zlt_s, zcV_s, zcI_s, zcJ_s, zcA_s, zcD_s, zcF_s, zth_n, zth_t, zrt_s, zQ_l, zQ_r, false_or, or_false, true_or, or_true, false_and, and_false, not_false_eq_true, not_true_eq_false, and_self, true_and, and_true, if_true, if_false, ite_true, ite_false, zgd_t]
theorem CL_2 (C : CL h p xs M fl s) : CL (zsI h p 2 1) p xs M true s := by
  have hp := C.1.1
  have e16 := L16e
  have fr : zFr (fun c => c = p) h (zsI h p 2 1) := zFr.sI rfl
  obtain ⟨t1, t2, t3, t4, t5, t6, t7⟩ := C.2.1
  refine ⟨PX_fr (fr.mono pa_p) C.1, ⟨?_, ?_, ?_, ?_, ?_, t6, t7⟩, KL_fr fr (fun i hi => by omega) C.2.2.1, lvO_fr fr (by omega) C.2.2.2.1, by rw [I_sIs, zput_self]; rfl⟩
  · rw [I_sIs, zput_ne _ _ (by omega)]; exact t1
  · rw [I_sIs, zput_ne _ _ (by omega)]; exact t2
  · rw [I_sIs, zput_ne _ _ (by omega)]; exact t3
  · exact t4
  · rw [I_sIs, zput_ne _ _ (by omega)]; exact t5
theorem c_start (C : CL h p xs (fW N) fl s) (hI : PI N) : RO (pStart xs N fl s) (sX3_readStart [.ref p] h) (RE p h) (fun u g => zFr (paA p) h g ∧ CL g p xs (fW u.1) true u.2 ∧ PI u.1 ∧ 1 ≤ u.1 0) := by
  have a1 := C.1.2.1
  have a3 := C.1.2.2.2.1
  have e16 := L16e
  have h0 := hI.1
  have h4 := hI.2.2.1
  have f0 : fW N 0 = N 0 := fW_ne (by omega)
  have f4 : fW N 4 = N 4 := fW_ne (by omega)
  have v2 := C.2.2.2.2
  unfold pStart
  cases fl
  · rw [if_neg (by simp)]
    rw [zb_f] at v2
    obtain ⟨g1, e1, fr1, D1⟩ := CL_go C
    have c1 := D1.1.2.1
    have F1 := fr1.mono (pa_p (p := p))
    rcases c_told D1 hI with ⟨g2, ⟨er, hu, hf, hE⟩ | ⟨r, hu, hf, hr⟩⟩
    · rw [hu]
      refine ⟨g2, Or.inl ⟨er, rfl, ?_, RE.pre F1 hE⟩⟩
      refine zsem_eq (Nat.le_of_ble_eq_true rfl) (zTo_of gX3_readStart_0 ?_)
      simp only [a1, v2, e1, c1, hf, zmp_s, zlt_s, zcV_s, zcI_s, zcJ_s, zcA_s, zcD_s, zcF_s, zth_n, zth_t, zrt_s, zQ_l, zQ_r, false_or, or_false, true_or, or_true, false_and, and_false, not_false_eq_true, not_true_eq_false, and_self, true_and, and_true, if_true, if_false, ite_true, ite_false, zgd_t]
    · rw [hu]
      have rm : (nI r = -1) = False := nI_m1f (by omega)
      have D2 := CL_2 D1
      have fr2 : zFr (fun c => c = p) g1 (zsI g1 p 2 1) := zFr.sI rfl
      have b1 := D2.1.2.1
      have b3 := D2.1.2.2.2.1
      have hS2 := D2.1.2.2.2.2.2.2.2.2.2.2.2
      have k2 := hS2.1
      have bg := q_beginAt (r := r) hS2
      have K2 := KL_beginAt D2.2.2.1 (by rw [f0, f4]; omega) r
      have fr3 : zFr (fun q => 16 ≤ q ∧ q ≤ 26) (zsI g1 p 2 1) (zsI (zsI (zsI (zsI g1 p 2 1) L16 10 (nI r)) (L16 + 9) 0 (nI r)) L16 13 (nI 1)) := ((zFr.sI (by omega)).tr (zFr.sI (by omega))).tr (zFr.sI (by omega))
      have fr3o : zFr (fun q => q = L16 ∨ q = L16 + 9) (zsI g1 p 2 1) (zsI (zsI (zsI (zsI g1 p 2 1) L16 10 (nI r)) (L16 + 9) 0 (nI r)) L16 13 (nI 1)) := ((zFr.sI (Or.inl rfl)).tr (zFr.sI (Or.inr rfl))).tr (zFr.sI (Or.inl rfl))
      have lv : zput (zput (zput (fW N) 2 r) (5 + 0) r) 4 1 = fW (zput N 2 r) := by
        funext i
        by_cases i5 : i = 5
        · subst i5
          rw [fW_5, zput_self, zput_ne _ _ (by omega), zput_self]
        · rw [fW_ne i5]
          by_cases i4 : i = 4
          · subst i4; rw [zput_self, zput_ne _ _ (by omega), h4]
          · rw [zput_ne _ _ i4, zput_ne _ _ (by omega)]
            by_cases i2 : i = 2
            · subst i2; rw [zput_self, zput_self]
            · rw [zput_ne _ _ i2, zput_ne _ _ i2, fW_ne i5]
      rw [lv] at K2
      have D3 := CL_lv D2 fr3 K2 (lvO_fr fr3o (by omega) D2.2.2.2.1)
      have d1 := D3.1.2.1
      obtain ⟨g4, e4, fr4, D4⟩ := CL_go D3
      have c4 := D4.1.2.1
      have F4 : zFr (paA p) h g4 := ((F1.tr (fr2.mono pa_p)).tr (fr3.mono pa_lv)).tr (fr4.mono pa_p)
      have pr := PI_2 hI hr
      have n0 : zput N 2 r 0 = N 0 := zput_ne _ _ (by omega)
      show RO (pb (pSemi xs (nxt xs (nxt xs s))) _) _ _ _
      rcases c_semi D4 with ⟨g9, ⟨er, hu9, hf9, hE⟩ | ⟨y, hu9, hf9, F9, D9⟩⟩
      · rw [hu9]
        refine ⟨g9, Or.inl ⟨er, rfl, ?_, RE.pre F4 hE⟩⟩
        refine zsem_eq (Nat.le_of_ble_eq_true rfl) (zTo_of gX3_readStart_0 ?_)
        simp only [a1, v2, e1, c1, hf, rm, i10, b1, b3, k2, bg, d1, e4, c4, hf9, zrt_s, zmp_s, zlt_s, zcV_s, zcI_s, zcJ_s, zcA_s, zcD_s, zcF_s, zth_n, zth_t, zrt_s, zQ_l, zQ_r, false_or, or_false, true_or, or_true, false_and, and_false, not_false_eq_true, not_true_eq_false, and_self, true_and, and_true, if_true, if_false, ite_true, ite_false, zgd_t]
      · rw [hu9]
        refine ⟨g9, Or.inr ⟨_, rfl, ?_, F4.tr F9, D9, pr, by show 1 ≤ zput N 2 r 0; omega⟩⟩
        refine zsem_eq (Nat.le_of_ble_eq_true rfl) (zTo_of gX3_readStart_0 ?_)
        simp only [a1, v2, e1, c1, hf, rm, i10, b1, b3, k2, bg, d1, e4, c4, hf9, zrt_s, zmp_s, zlt_s, zcV_s, zcI_s, zcJ_s, zcA_s, zcD_s, zcF_s, zth_n, zth_t, zrt_s, zQ_l, zQ_r, false_or, or_false, true_or, or_true, false_and, and_false, not_false_eq_true, not_true_eq_false, and_self, true_and, and_true, if_true, if_false, ite_true, ite_false, zgd_t]
  · rw [if_pos rfl]
    rw [zb_t] at v2
    have fl5 : sX3_fail [.ref p, .int 5] h = _ := q_fail C.1 (nI 5)
    refine ⟨zsI h p 8 (nI 5), Or.inl ⟨(5, s), rfl, ?_, CL_fail C 5⟩⟩
    refine zsem_eq (Nat.le_of_ble_eq_true rfl) (zTo_of gX3_readStart_0 ?_)
    simp only [a1, v2, i10, fl5, zrt_s, zmp_s, zlt_s, zcV_s, zcI_s, zcJ_s, zcA_s, zcD_s, zcF_s, zth_n, zth_t, zrt_s, zQ_l, zQ_r, false_or, or_false, true_or, or_true, false_and, and_false, not_false_eq_true, not_true_eq_false, and_self, true_and, and_true, if_true, if_false, ite_true, ite_false, zgd_t]
theorem c_end (C : CL h p xs (fW N) fl s) (hI : PI N) : RO (pEnd xs N s) (sX3_readEnd [.ref p] h) (RE p h) (fun u g => zFr (paA p) h g ∧ CL g p xs (fW u.1) fl u.2 ∧ PI u.1 ∧ 1 ≤ u.1 0) := by
  have a1 := C.1.2.1
  have a3 := C.1.2.2.2.1
  have e16 := L16e
  have h0 := hI.1
  have h4 := hI.2.2.1
  have h3 := hI.2.2.2.2.2.2.1
  have f0 : fW N 0 = N 0 := fW_ne (by omega)
  have f3 : fW N 3 = N 3 := fW_ne (by omega)
  have f4 : fW N 4 = N 4 := fW_ne (by omega)
  have hS := C.1.2.2.2.2.2.2.2.2.2.2.2
  have k0 := hS.1
  have v2 : zI h L16 11 = eI (fW N 3) := C.2.2.1.2.2.2.1
  rw [f3] at v2
  have em : (eI (N 3) = -1) = (N 3 = 0) := eI_m1 (by omega)
  unfold pEnd
  by_cases w : N 3 = 0
  · rw [if_neg (by simp [w])]
    obtain ⟨g1, e1, fr1, D1⟩ := CL_go C
    have c1 := D1.1.2.1
    have c3 := D1.1.2.2.2.1
    have F1 := fr1.mono (pa_p (p := p))
    have hS1 := D1.1.2.2.2.2.2.2.2.2.2.2.2
    rcases c_told D1 hI with ⟨g2, ⟨er, hu, hf, hE⟩ | ⟨r, hu, hf, hr⟩⟩
    · rw [hu]
      refine ⟨g2, Or.inl ⟨er, rfl, ?_, RE.pre F1 hE⟩⟩
      refine zsem_eq (Nat.le_of_ble_eq_true rfl) (zTo_of gX3_readEnd_0 ?_)
      simp only [a1, a3, k0, v2, em, eq_true w, e1, c1, hf, zmp_s, zlt_s, zcV_s, zcI_s, zcJ_s, zcA_s, zcD_s, zcF_s, zth_n, zth_t, zrt_s, zQ_l, zQ_r, false_or, or_false, true_or, or_true, false_and, and_false, not_false_eq_true, not_true_eq_false, and_self, true_and, and_true, if_true, if_false, ite_true, ite_false, zgd_t]
    · rw [hu]
      have rm : (nI r = -1) = False := nI_m1f (by omega)
      have er : eI (r + 1) = nI r := eI_s r
      have K2 := KL_end D1.2.2.1 (r + 1)
      rw [er] at K2
      have fr3 : zFr (fun q => 16 ≤ q ∧ q ≤ 26) g1 (zsI g1 L16 11 (nI r)) := zFr.sI (by omega)
      have lv : zput (fW N) 3 (r + 1) = fW (zput N 3 (r + 1)) := by
        funext i
        by_cases i5 : i = 5
        · subst i5
          rw [fW_5, zput_ne _ _ (by omega), zput_ne _ _ (by omega), fW_5]
        · rw [fW_ne i5]
          by_cases i3 : i = 3
          · subst i3; rw [zput_self, zput_self]
          · rw [zput_ne _ _ i3, zput_ne _ _ i3, fW_ne i5]
      rw [lv] at K2
      have D3 := CL_lv D1 fr3 K2 (lvO_fr (A := fun q => q = L16) (zFr.sI rfl) (by omega) D1.2.2.2.1)
      have d1 := D3.1.2.1
      obtain ⟨g4, e4, fr4, D4⟩ := CL_go D3
      have c4 := D4.1.2.1
      have F4 : zFr (paA p) h g4 := (F1.tr (fr3.mono pa_lv)).tr (fr4.mono pa_p)
      have pr := PI_3 (x := r + 1) hI (by omega)
      have n0 : zput N 3 (r + 1) 0 = N 0 := zput_ne _ _ (by omega)
      show RO (pb (pSemi xs (nxt xs (nxt xs s))) _) _ _ _
      rcases c_semi D4 with ⟨g9, ⟨er, hu9, hf9, hE⟩ | ⟨y, hu9, hf9, F9, D9⟩⟩
      · rw [hu9]
        refine ⟨g9, Or.inl ⟨er, rfl, ?_, RE.pre F4 hE⟩⟩
        refine zsem_eq (Nat.le_of_ble_eq_true rfl) (zTo_of gX3_readEnd_0 ?_)
        simp only [a1, a3, k0, v2, em, eq_true w, e1, c1, hf, rm, c3, hS1.1, d1, e4, c4, hf9, zrt_s, zmp_s, zlt_s, zcV_s, zcI_s, zcJ_s, zcA_s, zcD_s, zcF_s, zth_n, zth_t, zrt_s, zQ_l, zQ_r, false_or, or_false, true_or, or_true, false_and, and_false, not_false_eq_true, not_true_eq_false, and_self, true_and, and_true, if_true, if_false, ite_true, ite_false, zgd_t]
      · rw [hu9]
        refine ⟨g9, Or.inr ⟨_, rfl, ?_, F4.tr F9, D9, pr, by show 1 ≤ zput N 3 (r + 1) 0; omega⟩⟩
        refine zsem_eq (Nat.le_of_ble_eq_true rfl) (zTo_of gX3_readEnd_0 ?_)
        simp only [a1, a3, k0, v2, em, eq_true w, e1, c1, hf, rm, c3, hS1.1, d1, e4, c4, hf9, zrt_s, zmp_s, zlt_s, zcV_s, zcI_s, zcJ_s, zcA_s, zcD_s, zcF_s, zth_n, zth_t, zrt_s, zQ_l, zQ_r, false_or, or_false, true_or, or_true, false_and, and_false, not_false_eq_true, not_true_eq_false, and_self, true_and, and_true, if_true, if_false, ite_true, ite_false, zgd_t]
  · rw [if_pos w]
    have fl5 : sX3_fail [.ref p, .int 5] h = _ := q_fail C.1 (nI 5)
    refine ⟨zsI h p 8 (nI 5), Or.inl ⟨(5, s), rfl, ?_, CL_fail C 5⟩⟩
    refine zsem_eq (Nat.le_of_ble_eq_true rfl) (zTo_of gX3_readEnd_0 ?_)
    simp only [a1, a3, k0, v2, em, eq_false w, fl5, zrt_s, zmp_s, zlt_s, zcV_s, zcI_s, zcJ_s, zcA_s, zcD_s, zcF_s, zth_n, zth_t, zrt_s, zQ_l, zQ_r, false_or, or_false, true_or, or_true, false_and, and_false, not_false_eq_true, not_true_eq_false, and_self, true_and, and_true, if_true, if_false, ite_true, ite_false, zgd_t]
end
end ZPE

