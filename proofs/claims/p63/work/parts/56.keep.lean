/-! THE CLASS: slots kept and restored, error, output's bytes. -/
section ZCG
theorem CI.slot {h : zm_H} {N : zLv} (c : CI h N) {s : Nat} (hs : s < 2) : zP h 95 s = some (96 + 11 * s) ∧ lvS h (96 + 11 * s) := by
  have hk := c.1
  obtain ⟨q0, r0, r1, r2, r3, r4, r5, r6, r7, r9, i0, i1, i2, o0, o1, o2, v5, v16, hh, v96, v107, sl0, sl1, sl2, fl0, tb, rw0⟩ := hk
  have h2 : s = 0 ∨ s = 1 := by omega
  rcases h2 with e | e <;> subst e
  · exact ⟨sl1, v96⟩
  · exact ⟨sl2, v107⟩
theorem CI.fr {A : Nat → Prop} {h g : zm_H} {N : zLv} (c : CI h N) (fr : zFr A h g) (hA : ∀ c, c = 0 ∨ (5 ≤ c ∧ c ≤ 26) ∨ (119 ≤ c ∧ c ≤ 123) → ¬ A c) : CI g N := by
  obtain ⟨hk, hL, hF, hst, ho5, ho16⟩ := c
  have z0 : zI g 0 = zI h 0 := fr.I (hA 0 (by omega))
  refine ⟨ktS_kp fr.K fr.P hk, KL_fr fr (fun i hi => hA _ (by rw [L5e]; omega)) hL, hF, ?_, lvO_fr fr (hA _ (by rw [L5e]; omega)) ho5, lvO_fr fr (hA _ (by rw [L16e]; omega)) ho16⟩
  rcases hst with st | ⟨st, tg⟩
  · left; rw [z0]; exact st
  · right; exact ⟨by rw [z0]; exact st, TBg_off fr (fun i hi => hA _ (by omega)) tg⟩
theorem m_errorCode {h : zm_H} {N : zLv} (c : CI h N) : sX5_errorCode [.ref 0] h = some (.inl (some (.int (zI h 0 10))), h) := by
  have q0 := c.1.1
  refine zsem_eq (Nat.le_of_ble_eq_true rfl) (zTo_of gX5_errorCode_0 ?_)
  simp only [q0, zmp_s, zlt_s, zcV_s, zcI_s, zcJ_s, zcA_s, zcD_s, zcF_s, zth_n, zth_t, zrt_s, zQ_l, zQ_r, false_or, or_false, true_or, or_true, false_and, and_false, not_false_eq_true, not_true_eq_false, and_self, true_and, and_true, if_true, if_false, ite_true, ite_false, zgd_t]
end ZCG

