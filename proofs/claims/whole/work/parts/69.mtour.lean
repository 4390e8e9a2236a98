/-! THE MODEL: a tour laid by its rank, tours ahead of the walk. -/
section ZMG
theorem NXT_r132 {h : zm_H} {N : zLv} {s : Nat} {f : Nat → Int32} (X : NXT h N s) : NXT (zrI h 132 f) N s := fun S a q1 q2 q3 => by rw [I_rIn (by omega)]; exact X S a q1 q2 q3
theorem WY_r132 {h : zm_H} {N : zLv} {f : Nat → Int32} (Y : WY h N) : WY (zrI h 132 f) N := fun S a q1 q2 q3 => by rw [J_rI]; exact Y S a q1 q2 q3
theorem ways_cn {h : zm_H} {N : zLv} (hW : WB N) (Y : WY h N) {S a b : Nat} (hS : S < 2 ^ N 0) (x : nnx N S a b = true) : zJ h 128 (11 * (S ||| 2 ^ b) + b) = lN (ncn N S a b) := by
  obtain ⟨x1, x2⟩ := nnx_ok hW S a b x
  rw [Y (S ||| 2 ^ b) b (by have := or_gt x2; omega) (or_lt2 hS x1) x1]
  unfold nWy ncn
  rw [if_pos (by rw [tb_or]; simp), if_pos x]
theorem r_layTour {h : zm_H} {len rank : Nat} {N : zLv} {f : Nat → Nat} (m0 : moS h 126) (mL : ML h 126 N) (hW : WB N) (X : NXT h N (2 ^ N 0)) (Y : WY h N) (hlen : 1 ≤ len ∧ len ≤ N 0) (hf : ∀ i, i < len → zI h 132 i = nI (f i) ∧ f i < N 0) (hv : nvs N (nsk f len, f (len - 1), rank)) (hpc : npc (nsk f len) (N 0) = len) :
    sX6_layTour [.ref 125, .int (nI len), .long (lN rank)] h = some (.inl none, zrI h 132 (nfw N (nsk f len, f (len - 1), rank) len (zI h 132) (N 0))) := by
  have hn := hW.1
  have hp := pow_le hn
  obtain ⟨R, hR⟩ : ∃ R : zm_O → Prop, R = (fun y => y = (.inl none, zrI h 132 (nfw N (nsk f len, f (len - 1), rank) len (zI h 132) (N 0)))) := ⟨_, rfl⟩
  obtain ⟨s0, hs0⟩ : ∃ s0, s0 = (nsk f len, f (len - 1), rank) := ⟨_, rfl⟩
  rw [← hs0] at hR hv
  have M := fun (w : Nat → Int32) => moS_fr (A := fun c => c = 132) (zFr.rI (h := h) (a := 132) (g := w) rfl) m0
  have ML' := fun (w : Nat → Int32) => ML_fr (A := fun c => c = 132) (zFr.rI (h := h) (a := 132) (g := w) rfl) (show ¬ (126 = 132) by omega) mL
  have places : ∀ d p, p + d = N 0 → len ≤ p → nvs N (nitr N s0 (p - len)) → npc (nitr N s0 (p - len)).1 (N 0) = p →
      zTo vX6_layTour rX6_layTour (22, [some (.ref 125), none, none, none, some (.long (lN (nitr N s0 (p - len)).2.2)), none, some (.int (nI (nitr N s0 (p - len)).1)), some (.int (nI p)), none, none], [], zrI h 132 (nfw N s0 len (zI h 132) p)) R := by
    intro d
    induction d with
    | zero =>
      intro p hp2 hlp hvp hpp
      have hp3 : p = N 0 := by omega
      refine zTo_of gX6_layTour_22 ?_
      simp only [(M _).1, r_rooms (M _) (ML' _), hp3, nI_le (Nat.le_refl _) (show N 0 < 2 ^ 31 by omega), zmp_s, zlt_s, zcV_s, zcI_s, zcJ_s, zcA_s, zcD_s, zcF_s, zth_n, zth_t, zrt_s, zQ_l, zQ_r, false_or, or_false, true_or, or_true, false_and, and_false, not_false_eq_true, not_true_eq_false, and_self, true_and, and_true, if_true, if_false, ite_true, ite_false, zgd_t]
      rw [hR]
    | succ d ih =>
      intro p hp2 hlp hvp hpp
      obtain ⟨f1, f2, f3, f4⟩ := nI_for (show p < N 0 by omega) (by omega)
      have e1 : nI p - (1 : Int32) = nI (p - 1) := pk_sub (b := 1) (by omega)
      have e2 := nI_clamp (show p - 1 < 2 ^ 31 by omega)
      have e3 := nI_lt0 (show p - 1 < 2 ^ 31 by omega)
      have e4 : ¬ 11 ≤ p - 1 := by omega
      have ra : zI (zrI h 132 (nfw N s0 len (zI h 132) p)) 132 (p - 1) = nI (nitr N s0 (p - len)).2.1 := by
        rw [I_rIs]
        unfold nfw
        by_cases w : len ≤ p - 1
        · rw [if_pos ⟨w, by omega⟩, show p - 1 - len + 1 = p - len by omega]
        · rw [if_neg (fun e => w e.1), show p - len = 0 by omega, hs0, show p - 1 = len - 1 by omega]
          exact (hf (len - 1) (by omega)).1
      obtain ⟨S, a, left, hst⟩ : ∃ S a left, nitr N s0 (p - len) = (S, a, left) := ⟨_, _, _, rfl⟩
      have hne : S ≠ 2 ^ N 0 - 1 := by
        intro e
        rw [hst] at hpp
        simp only at hpp
        rw [e, npc_full] at hpp
        omega
      have hok := nstp_ok hW hvp (by rw [hst]; exact hne)
      have hst1 : nitr N s0 (p + 1 - len) = nstp N (S, a, left) := by
        rw [show p + 1 - len = p - len + 1 by omega, nitr, hst]
      rw [hst] at hok hvp hpp ra ⊢
      simp only at hvp hpp ra ⊢
      obtain ⟨v1, v2, v3, v4⟩ := hvp
      simp only at v1 v2 v3 v4
      have S0 : 0 < S := by
        rcases Nat.eq_zero_or_pos S with e | e
        · rw [e, Nat.zero_testBit] at v3; cases v3
        · exact e
      have xv := NXT_r132 (f := nfw N s0 len (zI h 132) p) X S a S0 v1 v2
      have Y2 := WY_r132 (f := nfw N s0 len (zI h 132) p) Y
      have m1 := M (nfw N s0 len (zI h 132) p)
      have mr := r_rooms (M (nfw N s0 len (zI h 132) p)) (ML' _)
      have rw1 := fun {S a : Nat} (hS : S < 2048) (ha : a < 11) => r_waysOf (M (nfw N s0 len (zI h 132) p)) hS ha
      obtain ⟨t0, t3, tq, t1, t2, t4, t5, t6, t7, t8, t9, t10, t21, t22, t23, t25, n6, n7, n8, n9, n10, n11, n12, n13, n14, n15, n16, n17, n18⟩ := m1
      refine zTo_of gX6_layTour_22 ?_
      simp only [t0, mr, f1, t6, t8, n12, e1, e2, e3, e4, ra, ix11, n10, nI_clamp (show 11 * S + a < 2 ^ 31 by omega), nI_lt0 (show 11 * S + a < 2 ^ 31 by omega), show ¬ 22528 ≤ 11 * S + a by omega, xv, zmp_s, zlt_s, zcV_s, zcI_s, zcJ_s, zcA_s, zcD_s, zcF_s, zth_n, zth_t, zrt_s, zQ_l, zQ_r, false_or, or_false, true_or, or_true, false_and, and_false, not_false_eq_true, not_true_eq_false, and_self, true_and, and_true, if_true, if_false, ite_true, ite_false, zgd_t]
      have hol := nxv_lt hW S a
      have hob : ∀ i, i < 32 → (nxv N S a).testBit i = nnx N S a i := fun i hi => nxv_bit hi
      generalize nxv N S a = on at hol hob ⊢
      obtain ⟨hok1, hok2, hok3, hok4, hok5, hok6⟩ := hok
      simp only at hok2 hok3 hok5 hok6
      obtain ⟨r0, hr0⟩ : ∃ r0, r0 = (nstp N (S, a, left)).2.1 := ⟨_, rfl⟩
      rw [← hr0] at hok2 hok4 hok5 hok6
      have hS1 : (nstp N (S, a, left)).1 = S ||| 2 ^ r0 := by rw [hr0]; rfl
      have hl1 : (nstp N (S, a, left)).2.2 = left - zsu (ncn N S a) r0 := by rw [hr0]; rfl
      have fin : zTo vX6_layTour rX6_layTour (22, [some (.ref 125), none, none, none, some (.long (lN (left - zsu (ncn N S a) r0))), none, some (.int (nI (S ||| 2 ^ r0))), some (.int (nI (p + 1))), none, none], [], zsI (zrI h 132 (nfw N s0 len (zI h 132) p)) 132 p (nI r0)) R := by
        have e : zsI (zrI h 132 (nfw N s0 len (zI h 132) p)) 132 p (nI r0) = zrI h 132 (nfw N s0 len (zI h 132) (p + 1)) := by
          rw [sI_rI, rI_rI, I_rIs]
          congr 1
          funext i
          unfold zput nfw
          by_cases w : i = p
          · rw [if_pos w, if_pos ⟨by omega, by omega⟩, w, show p - len + 1 = p + 1 - len by omega, hst1, hr0]
          · rw [if_neg w]
            by_cases w2 : len ≤ i ∧ i < p
            · rw [if_pos w2, if_pos ⟨w2.1, by omega⟩]
            · rw [if_neg w2, if_neg (by omega)]
        rw [e]
        have := ih (p + 1) (by omega) (by omega) (by rw [hst1]; exact hok1) (by rw [hst1]; omega)
        rw [hst1, hS1, hl1] at this
        exact this
      have tl := nTT_lt hW v1 a
      have ncl : ∀ r, ncn N S a r < 2 ^ 63 := fun r => by
        unfold ncn
        by_cases x : nnx N S a r = true
        · obtain ⟨x1, x2⟩ := nnx_ok hW S a r x
          rw [if_pos x]
          have := nTT_lt hW (or_lt2 v1 x1) r
          omega
        · rw [if_neg x]; omega
      have rooms : ∀ d r, r + d = r0 → zTo vX6_layTour rX6_layTour (42, [some (.ref 125), none, none, none, some (.long (lN (left - zsu (ncn N S a) r))), none, some (.int (nI S)), some (.int (nI p)), some (.int (nI on)), some (.int (nI r))], [], zrI h 132 (nfw N s0 len (zI h 132) p)) R := by
        intro d
        induction d with
        | zero =>
          intro r hr
          have hr : r = r0 := by omega
          rw [hr]
          have w1 := or_lt2 v1 hok4
          have w2 := ways_cn hW Y2 v1 hok2
          have w3 : ¬ ncn N S a r0 ≤ left - zsu (ncn N S a) r0 := by rw [zsu_s] at hok6; omega
          have w4 := ncl r0
          have w5 : (lg_cmp (lN (left - zsu (ncn N S a) r0)) (lN (ncn N S a r0)) < 0) = True := eq_true (by
            rw [lg_cmp_lt, pk_lLT (by omega) w4]; omega)
          refine zTo_of gX6_layTour_42 ?_
          simp only [r_has (show on < 2 ^ 31 by omega) (show r0 < 32 by omega), zb_0, hob r0 (by omega), hok2, Bool.true_eq_false, t0, nx_shl1 (show r0 < 32 by omega), nx_or, rw1 (show S ||| 2 ^ r0 < 2048 by omega) (show r0 < 11 by omega), w2, w5, t8, n12, f2, f3, f4, show ¬ 11 ≤ p by omega, zmp_s, zlt_s, zcV_s, zcI_s, zcJ_s, zcA_s, zcD_s, zcF_s, zth_n, zth_t, zrt_s, zQ_l, zQ_r, false_or, or_false, true_or, or_true, false_and, and_false, not_false_eq_true, not_true_eq_false, and_self, true_and, and_true, if_true, if_false, ite_true, ite_false, zgd_t]
          exact fin
        | succ d ih2 =>
          intro r hr
          have hrn : r < N 0 := by omega
          have g1 : nI r + (1 : Int32) = nI (r + 1) := nI_1 r
          have m1 := zsu_mono (c := ncn N S a) (show r + 1 ≤ r0 by omega)
          have m2 := m1
          rw [zsu_s] at m2
          have m3 : left - zsu (ncn N S a) r - ncn N S a r = left - zsu (ncn N S a) (r + 1) := by rw [zsu_s]; omega
          refine zTo_of gX6_layTour_42 ?_
          simp only [r_has (show on < 2 ^ 31 by omega) (show r < 32 by omega), zb_0, hob r (by omega), zmp_s, zlt_s, zcV_s, zcI_s, zcJ_s, zcA_s, zcD_s, zcF_s, zth_n, zth_t, zrt_s, zQ_l, zQ_r, false_or, or_false, true_or, or_true, false_and, and_false, not_false_eq_true, not_true_eq_false, and_self, true_and, and_true, if_true, if_false, ite_true, ite_false, zgd_t]
          by_cases x : nnx N S a r = true
          · obtain ⟨x1, x2⟩ := nnx_ok hW S a r x
            have w1 := or_lt2 v1 x1
            have w2 := ways_cn hW Y2 v1 x
            have w4 := ncl r
            have w5 : (lg_cmp (lN (left - zsu (ncn N S a) r)) (lN (ncn N S a r)) < 0) = False := eq_false (by
              rw [lg_cmp_lt, pk_lLT (by omega) w4]; omega)
            have w6 : lN (left - zsu (ncn N S a) r) - lN (ncn N S a r) = lN (left - zsu (ncn N S a) (r + 1)) := by rw [lN_sub (by omega), m3]
            simp only [x, Bool.true_eq_false, false_or, or_false, true_or, or_true, false_and, and_false, not_false_eq_true, not_true_eq_false, and_self, true_and, and_true, if_true, if_false, ite_true, ite_false, t0, nx_shl1 (show r < 32 by omega), nx_or, rw1 (show S ||| 2 ^ r < 2048 by omega) (show r < 11 by omega), w2, w5, w6, g1, zmp_s, zlt_s, zcV_s, zcI_s, zcJ_s, zcA_s, zcD_s, zcF_s, zth_n, zth_t, zrt_s, zQ_l, zQ_r, zgd_t]
            exact ih2 (r + 1) (by omega)
          · have x : nnx N S a r = false := by simpa using x
            have x0 : ncn N S a r = 0 := by unfold ncn; rw [x]; rfl
            have w6 : lN (left - zsu (ncn N S a) r) - (0 : Int64) = lN (left - zsu (ncn N S a) (r + 1)) := by
              show lN _ - lN 0 = _
              rw [lN_sub (by omega), zsu_s, x0]; rfl
            simp only [x, false_or, or_false, true_or, or_true, false_and, and_false, not_false_eq_true, not_true_eq_false, and_self, true_and, and_true, if_true, if_false, ite_true, ite_false, w6, g1, zmp_s, zlt_s, zcV_s, zcI_s, zcJ_s, zcA_s, zcD_s, zcF_s, zth_n, zth_t, zrt_s, zQ_l, zQ_r]
            exact ih2 (r + 1) (by omega)
      have := rooms r0 0 (by omega)
      rw [show left - zsu (ncn N S a) 0 = left by simp [zsu]] at this
      exact this
  have hsim : zW (sX6_layTour [.ref 125, .int (nI len), .long (lN rank)] h) R := by
    refine zsem_to (Nat.le_of_ble_eq_true rfl) (zTo_of gX6_layTour_0 ?_)
    have k8 := m0.2.2.2.2.2.2.2.2.2.1
    have k12 := m0.2.2.2.2.2.2.2.2.2.2.2.2.2.2.2.2.2.2.2.2.2.2.1
    refine zTo_for (f := fun i => (6, [some (.ref 125), some (.int (nI len)), none, none, some (.long (lN rank)), none, some (.int (nI (nsk f i))), some (.int (nI i)), none, none], [], h)) len 0 (Nat.zero_le _) (fun i _ hi => ?_) (zTo_of gX6_layTour_6 ?_)
    · obtain ⟨f1, f2, f3, f4⟩ := nI_for hi (by omega)
      have f5 : ¬ 11 ≤ i := by omega
      obtain ⟨y1, y2⟩ := hf i hi
      simp only [gX6_layTour_6, f1, f2, f3, f4, f5, m0.1, k8, k12, y1, nx_shl1 (show f i < 32 by omega), nx_or, zmp_s, zlt_s, zcV_s, zcI_s, zcJ_s, zcA_s, zcD_s, zcF_s, zth_n, zth_t, zrt_s, zQ_l, zQ_r, false_or, or_false, true_or, or_true, false_and, and_false, not_false_eq_true, not_true_eq_false, and_self, true_and, and_true, if_true, if_false, ite_true, ite_false, zgd_t]
      rfl
    · simp only [nI_le (Nat.le_refl _) (show len < 2 ^ 31 by omega), zmp_s, zlt_s, zcV_s, zcI_s, zcJ_s, zcA_s, zcD_s, zcF_s, zth_n, zth_t, zrt_s, zQ_l, zQ_r, false_or, or_false, true_or, or_true, false_and, and_false, not_false_eq_true, not_true_eq_false, and_self, true_and, and_true, if_true, if_false, ite_true, ite_false]
      have e : zrI h 132 (nfw N s0 len (zI h 132) len) = h := by
        have : nfw N s0 len (zI h 132) len = zI h 132 := by funext i; unfold nfw; exact if_neg (by omega)
        rw [this, rI_id]
      have := places (N 0 - len) len (by omega) (Nat.le_refl _) (by rw [Nat.sub_self]; exact hv) (by rw [Nat.sub_self, hs0]; exact hpc)
      rw [e, Nat.sub_self, hs0] at this
      exact this
  rw [hR, hs0] at hsim
  exact zW_eq.mp hsim
theorem r_toursAhead {h : zm_H} {N : zLv} (m0 : moS h 126) (mL : ML h 126 N) (hF : WF N) (X : NXT h N (2 ^ N 0)) (Y : WY h N) :
    sX6_toursAhead [.ref 125] h = some (.inl (some (.long (lN (nah N (nwk N) (N 4))))), h) := by
  have hW := hF.1
  have hn := hW.1
  have hp := pow_le hn
  have h41 := hF.2.2.2.2.1
  have h40 := hF.2.2.2.2.2.1
  have l4 := mL.at (i := 4) (by omega) (by omega)
  have ww := fun k (hk : k < N 4) => r_walkedAt m0 mL (show k < 100 by omega)
  have rw1 := fun {S a : Nat} (hS : S < 2048) (ha : a < 11) => r_waysOf m0 hS ha
  obtain ⟨t0, t3, tq, t1, t2, t4, t5, t6, t7, t8, t9, t10, t21, t22, t23, t25, n6, n7, n8, n9, n10, n11, n12, n13, n14, n15, n16, n17, n18⟩ := m0
  refine zsem_eq (Nat.le_of_ble_eq_true rfl) (zTo_of gX6_toursAhead_0 ?_)
  have key : ∀ d k, k + d = N 4 - 1 → zTo vX6_toursAhead rX6_toursAhead (6, [some (.ref 125), some (.long (lN (zsu (fun k => zsu (ncn N (nsk (nwk N) (k + 1)) (nwk N k)) (nwk N (k + 1))) k))), none, some (.int (nI (nsk (nwk N) k))), some (.int (nI k)), none, none], [], h) (fun y => y = (.inl (some (.long (lN (nah N (nwk N) (N 4))))), h)) := by
    intro d
    induction d with
    | zero =>
      intro k hk
      have hk : k = N 4 - 1 := by omega
      have e1 : nI k + (1 : Int32) = nI (N 4) := by rw [nI_1]; congr 1; omega
      refine zTo_of gX6_toursAhead_6 ?_
      simp only [t0, t3, tq, c_4, p_4, l4, show ¬ 149 ≤ 4 by omega, e1, nI_le (Nat.le_refl _) (show N 4 < 2 ^ 31 by omega), zmp_s, zlt_s, zcV_s, zcI_s, zcJ_s, zcA_s, zcD_s, zcF_s, zth_n, zth_t, zrt_s, zQ_l, zQ_r, false_or, or_false, true_or, or_true, false_and, and_false, not_false_eq_true, not_true_eq_false, and_self, true_and, and_true, if_true, if_false, ite_true, ite_false, zgd_t]
      unfold nah
      rw [hk]
    | succ d ih =>
      intro k hk
      have e1 : nI k + (1 : Int32) = nI (k + 1) := nI_1 k
      obtain ⟨f1, f2, f3, f4⟩ := nI_for (show k + 1 < N 4 by omega) (by omega)
      have y2 := hF.wk (show k < N 4 by omega)
      have y4 := hF.wk (show k + 1 < N 4 by omega)
      have w1 : sX6_walkedAt [.ref 125, .int (nI k)] h = some (.inl (some (.int (nI (nwk N k)))), h) := ww k (by omega)
      have w2 : sX6_walkedAt [.ref 125, .int (nI (k + 1))] h = some (.inl (some (.int (nI (nwk N (k + 1))))), h) := ww (k + 1) (by omega)
      have hSl : nsk (nwk N) (k + 1) < 2 ^ N 0 := hF.set_lt (by omega)
      have hSe : nsk (nwk N) k ||| 2 ^ nwk N k = nsk (nwk N) (k + 1) := rfl
      have S0 : 0 < nsk (nwk N) (k + 1) := by
        have : (nsk (nwk N) (k + 1)).testBit (nwk N k) = true := by rw [nsk_bit]; exact nany_iff.mpr ⟨k, by omega, by simp⟩
        rcases Nat.eq_zero_or_pos (nsk (nwk N) (k + 1)) with e | e
        · rw [e, Nat.zero_testBit] at this; cases this
        · exact e
      have xv := X _ _ S0 hSl y2
      refine zTo_of gX6_toursAhead_6 ?_
      simp only [t0, t3, tq, c_4, p_4, l4, show ¬ 149 ≤ 4 by omega, e1, f1, w1, nx_shl1 (show nwk N k < 32 by omega), nx_or, hSe, t6, n10, ix11, nI_clamp (show 11 * nsk (nwk N) (k + 1) + nwk N k < 2 ^ 31 by omega), nI_lt0 (show 11 * nsk (nwk N) (k + 1) + nwk N k < 2 ^ 31 by omega), show ¬ 22528 ≤ 11 * nsk (nwk N) (k + 1) + nwk N k by omega, xv, zmp_s, zlt_s, zcV_s, zcI_s, zcJ_s, zcA_s, zcD_s, zcF_s, zth_n, zth_t, zrt_s, zQ_l, zQ_r, false_or, or_false, true_or, or_true, false_and, and_false, not_false_eq_true, not_true_eq_false, and_self, true_and, and_true, if_true, if_false, ite_true, ite_false, zgd_t]
      have hol := nxv_lt hW (nsk (nwk N) (k + 1)) (nwk N k)
      have hob : ∀ i, i < 32 → (nxv N (nsk (nwk N) (k + 1)) (nwk N k)).testBit i = nnx N (nsk (nwk N) (k + 1)) (nwk N k) i := fun i hi => nxv_bit hi
      generalize nxv N (nsk (nwk N) (k + 1)) (nwk N k) = on at hol hob ⊢
      have e0 : ∀ x, lN x + (0 : Int64) = lN x := fun x => lN_add x 0
      refine zTo_for (f := fun r => (35, [some (.ref 125), some (.long (lN (zsu (fun k => zsu (ncn N (nsk (nwk N) (k + 1)) (nwk N k)) (nwk N (k + 1))) k + zsu (ncn N (nsk (nwk N) (k + 1)) (nwk N k)) r))), none, some (.int (nI (nsk (nwk N) (k + 1)))), some (.int (nI k)), some (.int (nI on)), some (.int (nI r))], [], h)) (nwk N (k + 1)) 0 (Nat.zero_le _) (fun r _ hr => ?_) (zTo_of gX6_toursAhead_35 ?_)
      · obtain ⟨r1, r2, r3, r4⟩ := nI_for hr (by omega)
        simp only [gX6_toursAhead_35, e1, t0, w2, r1, r4, r_has (show on < 2 ^ 31 by omega) (show r < 32 by omega), zb_0, hob r (by omega), zsu_s, e0, zmp_s, zlt_s, zcV_s, zcI_s, zcJ_s, zcA_s, zcD_s, zcF_s, zth_n, zth_t, zrt_s, zQ_l, zQ_r, false_or, or_false, true_or, or_true, false_and, and_false, not_false_eq_true, not_true_eq_false, and_self, true_and, and_true, if_true, if_false, ite_true, ite_false, zgd_t]
        by_cases x : nnx N (nsk (nwk N) (k + 1)) (nwk N k) r = true
        · obtain ⟨x1, x2⟩ := nnx_ok hW _ _ r x
          have v1 := or_lt2 hSl x1
          have v2 := ways_cn hW Y hSl x
          simp only [x, Bool.true_eq_false, false_or, or_false, true_or, or_true, false_and, and_false, not_false_eq_true, not_true_eq_false, and_self, true_and, and_true, if_true, if_false, ite_true, ite_false, nx_shl1 (show r < 32 by omega), nx_or, rw1 (show nsk (nwk N) (k + 1) ||| 2 ^ r < 2048 by omega) (show r < 11 by omega), v2, lN_add, zmp_s, zlt_s, zcV_s, zcI_s, zcJ_s, zcA_s, zcD_s, zcF_s, zth_n, zth_t, zrt_s, zQ_l, zQ_r, zgd_t, Nat.add_assoc]
        · have x : nnx N (nsk (nwk N) (k + 1)) (nwk N k) r = false := by simpa using x
          have x0 : ncn N (nsk (nwk N) (k + 1)) (nwk N k) r = 0 := by unfold ncn; rw [x]; rfl
          simp only [x, false_or, or_false, true_or, or_true, false_and, and_false, not_false_eq_true, not_true_eq_false, and_self, true_and, and_true, if_true, if_false, ite_true, ite_false, x0, Nat.add_zero]
      · simp only [e1, t0, w2, nI_le (Nat.le_refl _) (show nwk N (k + 1) < 2 ^ 31 by omega), zmp_s, zlt_s, zcV_s, zcI_s, zcJ_s, zcA_s, zcD_s, zcF_s, zth_n, zth_t, zrt_s, zQ_l, zQ_r, false_or, or_false, true_or, or_true, false_and, and_false, not_false_eq_true, not_true_eq_false, and_self, true_and, and_true, if_true, if_false, ite_true, ite_false, zgd_t]
        exact ih (k + 1) (by omega)
  exact key (N 4 - 1) 0 (by omega)
theorem r_layStart {h : zm_H} {N : zLv} (m0 : moS h 126) (mL : ML h 126 N) : sX6_layStart [.ref 125] h = some (.inl none, zsI h 132 0 (nI (N 2))) := by
  obtain ⟨t0, t3, tq, t1, t2, t4, t5, t6, t7, t8, t9, t10, t21, t22, t23, t25, n6, n7, n8, n9, n10, n11, n12, n13, n14, n15, n16, n17, n18⟩ := m0
  refine zsem_eq (Nat.le_of_ble_eq_true rfl) (zTo_of gX6_layStart_0 ?_)
  simp only [t0, t3, tq, t8, n12, c_2, p_2, c_0, p_0, mL.at (i := 2) (by omega) (by omega), show ¬ 149 ≤ 2 by omega, show ¬ 11 ≤ 0 by omega, zmp_s, zlt_s, zcV_s, zcI_s, zcJ_s, zcA_s, zcD_s, zcF_s, zth_n, zth_t, zrt_s, zQ_l, zQ_r, false_or, or_false, true_or, or_true, false_and, and_false, not_false_eq_true, not_true_eq_false, and_self, true_and, and_true, if_true, if_false, ite_true, ite_false, zgd_t]
theorem r_layWalk {h : zm_H} {N : zLv} (m0 : moS h 126) (mL : ML h 126 N) (h4 : N 4 ≤ 11) : ∃ w, sX6_layWalk [.ref 125] h = some (.inl none, zrI h 132 w) ∧ ∀ i, i < N 4 → w i = nI (nwk N i) := by
  have key : ∀ d k w, k + d = N 4 → (∀ i, i < k → w i = nI (nwk N i)) → zTo vX6_layWalk rX6_layWalk (2, [some (.ref 125), some (.int (nI k))], [], zrI h 132 w) (fun o => ∃ w, o = (.inl none, zrI h 132 w) ∧ ∀ i, i < N 4 → w i = nI (nwk N i)) := by
    intro d
    induction d with
    | zero =>
      intro k w hk hw
      have hk : k = N 4 := by omega
      have m1 := moS_fr (A := fun c => c = 132) (zFr.rI (h := h) (a := 132) (g := w) rfl) m0
      have mL1 := ML_fr (A := fun c => c = 132) (zFr.rI (h := h) (a := 132) (g := w) rfl) (show ¬ (126 = 132) by omega) mL
      have l4 := mL1.at (i := 4) (by omega) (by omega)
      obtain ⟨t0, t3, tq, _⟩ := m1
      refine zTo_of gX6_layWalk_2 ?_
      simp only [t0, t3, tq, c_4, p_4, l4, show ¬ 149 ≤ 4 by omega, hk, nI_le (Nat.le_refl _) (show N 4 < 2 ^ 31 by omega), zmp_s, zlt_s, zcV_s, zcI_s, zcJ_s, zcA_s, zcD_s, zcF_s, zth_n, zth_t, zrt_s, zQ_l, zQ_r, false_or, or_false, true_or, or_true, false_and, and_false, not_false_eq_true, not_true_eq_false, and_self, true_and, and_true, if_true, if_false, ite_true, ite_false, zgd_t]
      exact ⟨w, rfl, by rw [← hk]; exact hw⟩
    | succ d ih =>
      intro k w hk hw
      obtain ⟨f1, f2, f3, f4⟩ := nI_for (show k < N 4 by omega) (by omega)
      have m1 := moS_fr (A := fun c => c = 132) (zFr.rI (h := h) (a := 132) (g := w) rfl) m0
      have mL1 := ML_fr (A := fun c => c = 132) (zFr.rI (h := h) (a := 132) (g := w) rfl) (show ¬ (126 = 132) by omega) mL
      have l4 := mL1.at (i := 4) (by omega) (by omega)
      have w1 := r_walkedAt m1 mL1 (show k < 100 by omega)
      obtain ⟨t0, t3, tq, t1, t2, t4, t5, t6, t7, t8, t9, t10, t21, t22, t23, t25, n6, n7, n8, n9, n10, n11, n12, n13, n14, n15, n16, n17, n18⟩ := m1
      refine zTo_of gX6_layWalk_2 ?_
      simp only [t0, t3, tq, c_4, p_4, l4, show ¬ 149 ≤ 4 by omega, f1, f2, f3, f4, t8, w1, n12, show ¬ 11 ≤ k by omega, zmp_s, zlt_s, zcV_s, zcI_s, zcJ_s, zcA_s, zcD_s, zcF_s, zth_n, zth_t, zrt_s, zQ_l, zQ_r, false_or, or_false, true_or, or_true, false_and, and_false, not_false_eq_true, not_true_eq_false, and_self, true_and, and_true, if_true, if_false, ite_true, ite_false, zgd_t]
      rw [sI_rI, rI_rI, I_rIs]
      refine ih (k + 1) _ (by omega) (fun i hi => ?_)
      by_cases e : i = k
      · rw [e, zput_self]; rfl
      · rw [zput_ne _ _ e]; exact hw i (by omega)
  have hsim : zW (sX6_layWalk [.ref 125] h) (fun o => ∃ w, o = (.inl none, zrI h 132 w) ∧ ∀ i, i < N 4 → w i = nI (nwk N i)) := by
    refine zsem_to (Nat.le_of_ble_eq_true rfl) (zTo_of gX6_layWalk_0 ?_)
    have := key (N 4) 0 (zI h 132) (by omega) (fun i hi => by omega)
    rw [rI_id] at this
    exact this
  obtain ⟨o, e1, w, rfl, e2⟩ := hsim
  exact ⟨w, e1, e2⟩
end ZMG
