/-! THE CLASS: slots kept and restored, error, output's bytes. -/
section ZCG
theorem CI.slot {h : zm_H} {N : zLv} (c : CI h N) {s : Nat} (hs : s < 2) : zP h 95 s = some (96 + 11 * s) ∧ lvS h (96 + 11 * s) := by
  have hk := c.1
  obtain ⟨q0, r0, r1, r2, r3, r4, r5, r6, r7, r9, i0, i1, i2, o0, o1, o2, v5, v16, hh, v96, v107, sl0, sl1, sl2, fl0, tb, rw0⟩ := hk
  have h2 : s = 0 ∨ s = 1 := by omega
  rcases h2 with e | e <;> subst e
  · exact ⟨sl1, v96⟩
  · exact ⟨sl2, v107⟩
theorem CI.fr {A : Nat → Prop} {h g : zm_H} {N : zLv} (c : CI h N) (fr : zFr A h g) (hA : ∀ c, c = 0 ∨ (5 ≤ c ∧ c ≤ 26) ∨ (119 ≤ c ∧ c ≤ 123) → ¬ A c) : CI g N := by
  obtain ⟨hk, hL, hF, hst, ho5, ho16⟩ := c
  have z0 : zI g 0 = zI h 0 := fr.I (hA 0 (by omega))
  refine ⟨ktS_kp fr.K fr.P hk, KL_fr fr (fun i hi => hA _ (by rw [L5e]; omega)) hL, hF, ?_, lvO_fr fr (hA _ (by rw [L5e]; omega)) ho5, lvO_fr fr (hA _ (by rw [L16e]; omega)) ho16⟩
  rcases hst with st | ⟨st, tg⟩
  · left; rw [z0]; exact st
  · right; exact ⟨by rw [z0]; exact st, TBg_off fr (fun i hi => hA _ (by omega)) tg⟩
theorem m_keep {h : zm_H} {N : zLv} {P : List zLv} {K : Nat → Option zLv} {s : Nat} (c : CI h N) (H : HH h P) (S : SL h K) (hs : s < 2) :
    ∃ g, sX5_keep [.ref 0, .int (nI s)] h = some (.inl (some (.int (nI (N 4)))), g) ∧ zFr (fun c => 96 ≤ c ∧ c ≤ 118) h g ∧ CI g N ∧ HH g P ∧ SL g (fun t => if t = s then some N else K t) := by
  have hF := c.2.2.1
  have hW := hF.1
  obtain ⟨ps, vs⟩ := c.slot hs
  obtain ⟨g1, s1, fr1, kl1, lo1⟩ := q_copyFrom vs c.1.2.2.2.2.2.2.2.2.2.2.2.2.2.2.2.2.1 (by rw [L5e]; omega) c.2.1 ⟨hW.1, hW.2.1, hW.2.2.1⟩ c.2.2.2.2.1
  obtain ⟨g, hg⟩ : ∃ g, g = zsI g1 118 s (1 : Int32) := ⟨_, rfl⟩
  have fr2 : zFr (fun c => c = 118) g1 g := by rw [hg]; exact zFr.sI rfl
  have fr : zFr (fun c => 96 ≤ c ∧ c ≤ 118) h g := (fr1.mono (fun c hc => by unfold lvA at hc; omega)).tr (fr2.mono (fun c hc => by omega))
  have cg := c.fr fr (fun c hc => by omega)
  have l4 := cg.2.1.2.2.2.2.1
  refine ⟨g, ?_, fr, cg, HH_fr fr (fun c h1 h2 => by omega) H, ?_⟩
  · have hk := c.1
    obtain ⟨q0, r0, r1, r2, r3, r4, r5, r6, r7, r9, i0, i1, i2, o0, o1, o2, v5, v16, hh, v96, v107, sl0, sl1, sl2, fl0, tb, rw0⟩ := hk
    have K1 := fr1.K
    have P1 := fr1.P
    have K2 := fr2.K
    have P2 := fr2.P
    have ks := vs.1
    have y5 := v5.1
    refine zsem_eq (Nat.le_of_ble_eq_true rfl) (zTo_of gX5_keep_0 ?_)
    simp only [m_needSlot hs, q0, r5, sl0, nI_clamp (show s < 2 ^ 31 by omega), nI_lt0 (show s < 2 ^ 31 by omega), show ¬ 2 ≤ s by omega, ps, r2, ks, s1, K1, P1, r6, fl0, ← hg, K2, P2, y5, l4, zmp_s, zlt_s, zcV_s, zcI_s, zcJ_s, zcA_s, zcD_s, zcF_s, zth_n, zth_t, zrt_s, zQ_l, zQ_r, false_or, or_false, true_or, or_true, false_and, and_false, not_false_eq_true, not_true_eq_false, and_self, true_and, and_true, if_true, if_false, ite_true, ite_false, zgd_t]
  · intro t ht
    obtain ⟨a, b⟩ := S t ht
    have e118 : zI g1 118 = zI h 118 := fr1.I (fun e => by unfold lvA at e; omega)
    by_cases e : t = s
    · subst e
      simp only [if_true]
      refine ⟨by rw [hg, I_sIs, zput_self]; rfl, fun M hM => ?_⟩
      cases hM
      exact ⟨KL_fr fr2 (fun i hi => by omega) kl1, lvO_fr fr2 (by omega) lo1, hF⟩
    · simp only [if_neg e]
      refine ⟨by rw [hg, I_sIs, zput_ne _ _ e, e118]; exact a, fun M hM => ?_⟩
      obtain ⟨x, y, z⟩ := b M hM
      exact ⟨KL_fr fr2 (fun i hi => by omega) (KL_fr fr1 (fun i hi q => by unfold lvA at q; omega) x), lvO_fr fr2 (by omega) (lvO_fr fr1 (fun q => by unfold lvA at q; omega) y), z⟩
theorem m_keepX {h : zm_H} {x : Int32} (hx : x < 0 ∨ nI 2 ≤ x) : sX5_keep [.ref 0, .int x] h = some (.inr 2, h) := by
  refine zsem_eq (Nat.le_of_ble_eq_true rfl) (zTo_of gX5_keep_0 ?_)
  simp only [m_needSlotX hx, zmp_s, zlt_s, zcV_s, zcI_s, zcJ_s, zcA_s, zcD_s, zcF_s, zth_n, zth_t, zrt_s, zQ_l, zQ_r, zgd_t]
theorem m_restoreX {h : zm_H} {x : Int32} (hx : x < 0 ∨ nI 2 ≤ x) : sX5_restore [.ref 0, .int x] h = some (.inr 2, h) := by
  refine zsem_eq (Nat.le_of_ble_eq_true rfl) (zTo_of gX5_restore_0 ?_)
  simp only [m_needSlotX hx, zmp_s, zlt_s, zcV_s, zcI_s, zcJ_s, zcA_s, zcD_s, zcF_s, zth_n, zth_t, zrt_s, zQ_l, zQ_r, zgd_t]
theorem m_restoreE {h : zm_H} {N : zLv} {K : Nat → Option zLv} {s : Nat} (c : CI h N) (S : SL h K) (hs : s < 2) (hK : K s = none) : sX5_restore [.ref 0, .int (nI s)] h = some (.inr 0, h) := by
  have hk := c.1
  obtain ⟨q0, r0, r1, r2, r3, r4, r5, r6, r7, r9, i0, i1, i2, o0, o1, o2, v5, v16, hh, v96, v107, sl0, sl1, sl2, fl0, tb, rw0⟩ := hk
  have f := (S s hs).1
  rw [hK] at f
  have f : zI h 118 s = 0 := f
  refine zsem_eq (Nat.le_of_ble_eq_true rfl) (zTo_of gX5_restore_0 ?_)
  simp only [m_needSlot hs, q0, r6, fl0, nI_clamp (show s < 2 ^ 31 by omega), nI_lt0 (show s < 2 ^ 31 by omega), show ¬ 2 ≤ s by omega, f, zmp_s, zlt_s, zcV_s, zcI_s, zcJ_s, zcA_s, zcD_s, zcF_s, zth_n, zth_t, zrt_s, zQ_l, zQ_r, false_or, or_false, true_or, or_true, false_and, and_false, not_false_eq_true, not_true_eq_false, and_self, true_and, and_true, if_true, if_false, ite_true, ite_false, zgd_t]
theorem m_restore {h : zm_H} {N M : zLv} {P : List zLv} {K : Nat → Option zLv} {s : Nat} (c : CI h N) (H : HH h P) (S : SL h K) (hs : s < 2) (hK : K s = some M) :
    ∃ g, sX5_restore [.ref 0, .int (nI s)] h = some (.inl (some (.int (nI (M 4)))), g) ∧ CT h g M (pst N P) := by
  obtain ⟨g1, s1, t1, st1⟩ := m_record c H
  have c1 := t1.2.2.2.1
  have H1 := t1.2.2.2.2
  have S1 := t1.s S
  obtain ⟨f, b⟩ := S s hs
  obtain ⟨-, b1⟩ := S1 s hs
  obtain ⟨x, y, wf⟩ := b1 M hK
  have hW := wf.1
  obtain ⟨ps, vs⟩ := c1.slot hs
  obtain ⟨g2, s2, fr2, kl2, lo2⟩ := q_copyFrom (a := L5) c1.1.2.2.2.2.2.2.2.2.2.2.2.2.2.2.2.2.1 vs (by rw [L5e]; omega) x ⟨hW.1, hW.2.1, hW.2.2.1⟩ y
  obtain ⟨t2, -⟩ := c1.chg H1 st1 fr2 kl2 wf lo2
  have l4 := kl2.2.2.2.2.1
  rw [hK] at f
  have f : zI h 118 s = 1 := f
  have q00 := c.1.1
  have hk0 := c.1
  have r60 := c.1.2.2.2.2.2.2.2.1
  have fl00 := c.1.2.2.2.2.2.2.2.2.2.2.2.2.2.2.2.2.2.2.2.2.2.2.2.2.1
  obtain ⟨hk, -⟩ := c1
  obtain ⟨q0, r0, r1, r2, r3, r4, r5, r6, r7, r9, i0, i1, i2, o0, o1, o2, v5, v16, hh, v96, v107, sl0, sl1, sl2, fl0, tb, rw0⟩ := hk
  have K2 := fr2.K
  have P2 := fr2.P
  have y5 := v5.1
  refine ⟨g2, ?_, t1.tr t2⟩
  refine zsem_eq (Nat.le_of_ble_eq_true rfl) (zTo_of gX5_restore_0 ?_)
  simp only [m_needSlot hs, q00, r60, fl00, nI_clamp (show s < 2 ^ 31 by omega), nI_lt0 (show s < 2 ^ 31 by omega), show ¬ 2 ≤ s by omega, f, show ((1 : Int32) = 0) = False by decide, s1, q0, r2, r5, sl0, ps, y5, s2, K2, P2, l4, zmp_s, zlt_s, zcV_s, zcI_s, zcJ_s, zcA_s, zcD_s, zcF_s, zth_n, zth_t, zrt_s, zQ_l, zQ_r, false_or, or_false, true_or, or_true, false_and, and_false, not_false_eq_true, not_true_eq_false, and_self, true_and, and_true, if_true, if_false, ite_true, ite_false, zgd_t]
theorem m_errorCode {h : zm_H} {N : zLv} (c : CI h N) : sX5_errorCode [.ref 0] h = some (.inl (some (.int (zI h 0 10))), h) := by
  have q0 := c.1.1
  refine zsem_eq (Nat.le_of_ble_eq_true rfl) (zTo_of gX5_errorCode_0 ?_)
  simp only [q0, zmp_s, zlt_s, zcV_s, zcI_s, zcJ_s, zcA_s, zcD_s, zcF_s, zth_n, zth_t, zrt_s, zQ_l, zQ_r, false_or, or_false, true_or, or_true, false_and, and_false, not_false_eq_true, not_true_eq_false, and_self, true_and, and_true, if_true, if_false, ite_true, ite_false, zgd_t]
theorem m_errorPosition {h : zm_H} {N : zLv} (c : CI h N) : sX5_errorPosition [.ref 0] h = some (.inl (some (.int (zI h 0 11))), h) := by
  have q0 := c.1.1
  refine zsem_eq (Nat.le_of_ble_eq_true rfl) (zTo_of gX5_errorPosition_0 ?_)
  simp only [q0, zmp_s, zlt_s, zcV_s, zcI_s, zcJ_s, zcA_s, zcD_s, zcF_s, zth_n, zth_t, zrt_s, zQ_l, zQ_r, false_or, or_false, true_or, or_true, false_and, and_false, not_false_eq_true, not_true_eq_false, and_self, true_and, and_true, if_true, if_false, ite_true, ite_false, zgd_t]
end ZCG
