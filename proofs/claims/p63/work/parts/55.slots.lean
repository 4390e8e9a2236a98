/-! THE CLASS: undo, slots. -/
section ZCF
theorem m_undoX {h : zm_H} {N : zLv} (c : CI h N) (H : HH h []) : sX5_undo [.ref 0] h = some (.inr 0, h) := by
  have q0 := c.1.1
  have r4 := c.1.2.2.2.2.2.1
  have kh := c.1.2.2.2.2.2.2.2.2.2.2.2.2.2.2.2.2.2.2.1.1
  obtain ⟨-, nx, hr, -⟩ := H
  have r2 : zI h 27 2 = 0 := hr.2.1
  refine zsem_eq (Nat.le_of_ble_eq_true rfl) (zTo_of gX5_undo_0 ?_)
  simp only [q0, r4, kh, r2, zmp_s, zlt_s, zcV_s, zcI_s, zcJ_s, zcA_s, zcD_s, zcF_s, zth_n, zth_t, zrt_s, zQ_l, zQ_r, false_or, or_false, true_or, or_true, false_and, and_false, not_false_eq_true, not_true_eq_false, and_self, true_and, and_true, if_true, if_false, ite_true, ite_false, zgd_t]
theorem m_undo {h : zm_H} {N M : zLv} {P : List zLv} (c : CI h N) (H : HH h (M :: P)) :
    ∃ g, sX5_undo [.ref 0] h = some (.inl (some (.int (nI P.length))), g) ∧ CT h g M P := by
  obtain ⟨hl, nx, hr, hi⟩ := H
  rw [List.length_cons] at hl hr hi
  obtain ⟨klM, loM, wfM⟩ := hi 0 (by omega) M rfl
  rw [show nx + 5 - 0 = nx + 5 by omega] at klM loM
  have hWM := wfM.1
  obtain ⟨h1, hh1⟩ : ∃ h1, h1 = zsI h 0 8 1 := ⟨_, rfl⟩
  have fr1 : zFr (fun c => c = 0) h h1 := by rw [hh1]; exact zFr.sI rfl
  have hk := c.1
  obtain ⟨q0, r0, r1, r2, r3, r4, r5, r6, r7, r9, i0, i1, i2, o0, o1, o2, v5, v16, hh, v96, v107, sl0, sl1, sl2, fl0, tb, rw0⟩ := hk
  obtain ⟨r1', r2', r3', r4'⟩ := hr
  have e27 : zI h1 27 = zI h 27 := fr1.I (by omega)
  have hr1 : hiR h1 nx (P.length + 1) := ⟨by rw [e27]; exact r1', by rw [e27]; exact r2', r3', r4'⟩
  have m6 : (nx + 5) % 6 < 6 := Nat.mod_lt _ (by omega)
  obtain ⟨g, s2, fr2, hr2, kl2, lo2⟩ := q_pop (a := L5) (hiS_kp fr1.K fr1.P hh) hr1 (by omega) (lvS_fr fr1 v5) (Or.inl (by rw [L5e]; omega)) (KL_fr fr1 (fun i hi => by omega) klM) ⟨hWM.1, hWM.2.1, hWM.2.2.1⟩ (lvO_fr fr1 (by omega) loM)
  rw [Nat.add_sub_cancel] at hr2
  have K1 := fr1.K
  have P1 := fr1.P
  have K2 := fr2.K
  have P2 := fr2.P
  have kh := hh.1
  have c2 := hr2.2.1
  have z0 : zI g 0 = zI h1 0 := fr2.I (fun e => by unfold lvA at e; rw [L5e] at e; omega)
  have fr : zFr (fun c => c = 0 ∨ c = 27 ∨ lvA L5 c) h g := (fr1.mono (fun c hc => Or.inl hc)).tr (fr2.mono (fun c hc => Or.inr hc))
  refine ⟨g, ?_, fr.mono (fun c hc => by unfold lvA at hc; rw [L5e] at hc; unfold chA; omega), ?_, ?_, ⟨ktS_kp fr.K fr.P c.1, kl2, wfM, Or.inl ?_, lo2, lvO_fr fr (fun e => by unfold lvA at e; rw [L5e, L16e] at e; omega) c.2.2.2.2.2⟩, by omega, (nx + 5) % 6, hr2, fun i hi2 M2 hM2 => ?_⟩
  · refine zsem_eq (Nat.le_of_ble_eq_true rfl) (zTo_of gX5_undo_0 ?_)
    have n0 : (nI (P.length + 1) = 0) = False := by
      rw [nI_eq0 (by omega)]; exact eq_false (by omega)
    simp only [q0, r4, kh, r2', n0, ← hh1, K1, P1, r2, s2, K2, P2, c2, zmp_s, zlt_s, zcV_s, zcI_s, zcJ_s, zcA_s, zcD_s, zcF_s, zth_n, zth_t, zrt_s, zQ_l, zQ_r, false_or, or_false, true_or, or_true, false_and, and_false, not_false_eq_true, not_true_eq_false, and_self, true_and, and_true, if_true, if_false, ite_true, ite_false, zgd_t]
  · rw [z0, hh1, I_sIs, zput_ne _ _ (by omega)]
  · rw [z0, hh1, I_sIs, zput_ne _ _ (by omega)]
  · rw [z0, hh1, I_sIs, zput_self]
  · obtain ⟨a, b, d⟩ := hi (i + 1) (by omega) M2 hM2
    have e : ((nx + 5) % 6 + 5 - i) % 6 = (nx + 5 - (i + 1)) % 6 := by omega
    have m : (nx + 5 - (i + 1)) % 6 < 6 := Nat.mod_lt _ (by omega)
    have ne : (nx + 5 - (i + 1)) % 6 ≠ (nx + 5) % 6 := by omega
    rw [e]
    exact ⟨KL_fr fr (fun j hj q => by unfold lvA at q; rw [L5e] at q; omega) a, lvO_fr fr (fun q => by unfold lvA at q; rw [L5e] at q; omega) b, d⟩
/-- what is kept in slots -/
def SL (h : zm_H) (K : Nat → Option zLv) : Prop := ∀ s, s < 2 → zI h 118 s = zb (K s).isSome ∧ ∀ M, K s = some M → KL h (96 + 11 * s) M ∧ lvO h (96 + 11 * s) ∧ WF M
theorem SL_fr {A : Nat → Prop} {h g : zm_H} {K : Nat → Option zLv} (fr : zFr A h g) (hA : ∀ c, 96 ≤ c → c ≤ 118 → ¬ A c) (H : SL h K) : SL g K := by
  intro s hs
  obtain ⟨a, b⟩ := H s hs
  refine ⟨by rw [fr.I (hA 118 (by omega) (by omega))]; exact a, fun M hM => ?_⟩
  obtain ⟨x, y, z⟩ := b M hM
  exact ⟨KL_fr fr (fun j hj => hA _ (by omega) (by omega)) x, lvO_fr fr (hA _ (by omega) (by omega)) y, z⟩
theorem CT.s {h g : zm_H} {N : zLv} {P : List zLv} {K : Nat → Option zLv} (t : CT h g N P) (H : SL h K) : SL g K := SL_fr t.1 (fun c h1 h2 e => by unfold chA at e; omega) H
end ZCF

