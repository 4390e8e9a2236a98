/-! THE MODEL: steps of all sets, tours from all sets. -/
section ZMB
theorem ML_fr {A : Nat → Prop} {h g : zm_H} {q : Nat} {N : zLv} (p : zFr A h g) (hA : ¬ A q) (mL : ML h q N) : ML g q N := fun i hi => by rw [p.I hA]; exact mL i hi
theorem ix11 (S a : Nat) : (11 : Int32) * nI S + nI a = nI (11 * S + a) := by
  show nI 11 * nI S + nI a = _
  rw [pk_mul, nI_add]
/-- new rooms to which a room leads -/
def nxv (N : zLv) (S a : Nat) : Nat := nld N S a &&& (S ^^^ 4294967295)
theorem nxv_bit {N : zLv} {S a i : Nat} (hi : i < 32) : (nxv N S a).testBit i = nnx N S a i := on_bit hi
theorem nxv_lt {N : zLv} (hW : WB N) (S a : Nat) : nxv N S a < 2 ^ N 0 := on_lt hW S a
theorem and_or_not {x S b : Nat} (hb : b < 32) : (x ||| 2 ^ b) &&& (S ^^^ 4294967295) = if S.testBit b then x &&& (S ^^^ 4294967295) else (x &&& (S ^^^ 4294967295)) ||| 2 ^ b := by
  apply nat_ext; intro i
  by_cases e : b = i
  · subst e
    rw [bit_not hb, tb_or]
    cases q : S.testBit b
    · simp only [Bool.false_eq_true, if_false]; rw [tb_or]; simp
    · simp only [if_true]; rw [bit_not hb, q]; simp
  · rw [Nat.testBit_and, tb_or]
    cases q : S.testBit b
    · simp only [Bool.false_eq_true, if_false]; rw [tb_or, Nat.testBit_and]; simp [e]
    · simp only [if_true]; rw [Nat.testBit_and]; simp [e]
theorem nxv_step {N : zLv} (hW : WB N) {d : Nat} (hd : d < N 1) (S a : Nat) : zfo (ndstep N S a) 0 (d + 1) &&& (S ^^^ 4294967295) = (match nthr N d a with
    | some b => if nopen N d (nkeys N S) (ncoins N S) then (if S.testBit b then zfo (ndstep N S a) 0 d &&& (S ^^^ 4294967295) else (zfo (ndstep N S a) 0 d &&& (S ^^^ 4294967295)) ||| 2 ^ b) else zfo (ndstep N S a) 0 d &&& (S ^^^ 4294967295)
    | none => zfo (ndstep N S a) 0 d &&& (S ^^^ 4294967295)) := by
  rw [zfo_s, nthr_step hW hd]
  cases e : nthr N d a with
  | none => rfl
  | some b =>
    have hb := nthr_lt hW hd e
    have := hW.1
    cases nopen N d (nkeys N S) (ncoins N S)
    · rfl
    · exact and_or_not (by omega)
/-- one step laid -/
def lnx (h : zm_H) (S a b : Nat) : zm_H := if S.testBit b then h else zsI h 130 (11 * S + a) (zI h 130 (11 * S + a) ||| nI (2 ^ b))
theorem lnx_fr {h : zm_H} {S a b : Nat} : zFr (fun c => c = 130) h (lnx h S a b) := by
  unfold lnx
  split
  · exact zFr.rf
  · exact zFr.sI rfl
theorem lnx_at {h : zm_H} {S a b S' a' : Nat} (ha : a < 11) (ha' : a' < 11) : zI (lnx h S a b) 130 (11 * S' + a') = if S' = S ∧ a' = a ∧ S.testBit b = false then zI h 130 (11 * S + a) ||| nI (2 ^ b) else zI h 130 (11 * S' + a') := by
  unfold lnx
  cases q : S.testBit b
  · simp only [Bool.false_eq_true, if_false, I_sIs]
    by_cases e : S' = S ∧ a' = a
    · rw [if_pos ⟨e.1, e.2, trivial⟩, e.1, e.2, zput_self]
    · rw [if_neg (fun x => e ⟨x.1, x.2.1⟩), zput_ne _ _ (by omega)]
  · simp
theorem r_layNext {h : zm_H} (m0 : moS h 126) {S a b : Nat} (hS : S < 2048) (ha : a < 11) (hb : b < 11) : sX6_layNext [.ref 125, .int (nI S), .int (nI a), .int (nI b)] h = some (.inl none, lnx h S a b) := by
  obtain ⟨t0, t3, tq, t1, t2, t4, t5, t6, t7, t8, t9, t10, t21, t22, t23, t25, n6, n7, n8, n9, n10, n11, n12, n13, n14, n15, n16, n17, n18⟩ := m0
  refine zsem_eq (Nat.le_of_ble_eq_true rfl) (zTo_of gX6_layNext_0 ?_)
  unfold lnx
  simp only [r_has (show S < 2 ^ 31 by omega) (show b < 32 by omega), zb_0, t0, t6, n10, ix11, nI_clamp (show 11 * S + a < 2 ^ 31 by omega), nI_lt0 (show 11 * S + a < 2 ^ 31 by omega), show ¬ 22528 ≤ 11 * S + a by omega, nx_shl1 (show b < 32 by omega), zmp_s, zlt_s, zcV_s, zcI_s, zcJ_s, zcA_s, zcD_s, zcF_s, zth_n, zth_t, zrt_s, zQ_l, zQ_r, false_or, or_false, true_or, or_true, false_and, and_false, not_false_eq_true, not_true_eq_false, and_self, true_and, and_true, if_true, if_false, ite_true, ite_false, zgd_t]
  cases S.testBit b <;> simp [zQ]
def NXT (h : zm_H) (N : zLv) (s : Nat) : Prop := ∀ S a, 0 < S → S < s → a < N 0 → zI h 130 (11 * S + a) = nI (nxv N S a)
theorem r_layNexts {h : zm_H} {N : zLv} (m0 : moS h 126) (mL : ML h 126 N) (hW : WB N) : ∃ g, sX6_layNexts [.ref 125] h = some (.inl none, g) ∧ zFr (fun c => c = 130) h g ∧ NXT g N (2 ^ N 0) := by
  have h0 := hW.1
  have h1 := hW.2.1
  have hp := pow_le h0
  have one := Nat.one_le_two_pow (n := N 0)
  obtain ⟨R, hR⟩ : ∃ R : zm_O → Prop, R = (fun o => ∃ g, o = (.inl none, g) ∧ zFr (fun c => c = 130) h g ∧ NXT g N (2 ^ N 0)) := ⟨_, rfl⟩
  have M := fun {g : zm_H} (fr : zFr (fun c => c = 130) h g) => moS_fr fr m0
  have ML' := fun {g : zm_H} (fr : zFr (fun c => c = 130) h g) => ML_fr fr (show ¬ (126 = 130) by omega) mL
  have outer : ∀ d S g, S + d = 2 ^ N 0 → 0 < S → zFr (fun c => c = 130) h g → NXT g N S → zTo vX6_layNexts rX6_layNexts (2, [some (.ref 125), some (.int (nI S)), none, none, none], [], g) R := by
    intro d
    induction d with
    | zero =>
      intro S g hS _ fr X
      have hS : S = 2 ^ N 0 := by omega
      refine zTo_of gX6_layNexts_2 ?_
      simp only [(M fr).1, r_whole (M fr) (ML' fr) h0, nI_lt (show 2 ^ N 0 - 1 < S by omega) (show S < 2 ^ 31 by omega), zmp_s, zlt_s, zcV_s, zcI_s, zcJ_s, zcA_s, zcD_s, zcF_s, zth_n, zth_t, zrt_s, zQ_l, zQ_r, false_or, or_false, true_or, or_true, false_and, and_false, not_false_eq_true, not_true_eq_false, and_self, true_and, and_true, if_true, if_false, ite_true, ite_false, zgd_t]
      rw [hR]
      rw [hS] at X
      exact ⟨g, rfl, fr, X⟩
    | succ d ih =>
      intro S g hS hS0 fr X
      have hS2 : S < 2 ^ N 0 := by omega
      have hK := nkeys_lt hW S
      have hC := ncoins_le hW S
      refine zTo_of gX6_layNexts_2 ?_
      simp only [(M fr).1, r_whole (M fr) (ML' fr) h0, nI_ltI (show 2 ^ N 0 - 1 < 2 ^ 31 by omega) (show S < 2 ^ 31 by omega), show ¬ 2 ^ N 0 - 1 < S by omega, r_keysIn (M fr) (ML' fr) h0 (show S < 2 ^ 31 by omega), r_coinsIn (M fr) (ML' fr) h0 (show S < 2 ^ 31 by omega), zmp_s, zlt_s, zcV_s, zcI_s, zcJ_s, zcA_s, zcD_s, zcF_s, zth_n, zth_t, zrt_s, zQ_l, zQ_r, false_or, or_false, true_or, or_true, false_and, and_false, not_false_eq_true, not_true_eq_false, and_self, true_and, and_true, if_true, if_false, ite_true, ite_false, zgd_t]
      have doors : ∀ e k g, k + e = N 1 → zFr (fun c => c = 130) h g → NXT g N S → (∀ a, a < N 0 → zI g 130 (11 * S + a) = nI (zfo (ndstep N S a) 0 k &&& (S ^^^ 4294967295))) → zTo vX6_layNexts rX6_layNexts (33, [some (.ref 125), some (.int (nI S)), some (.int (nI (nkeys N S))), some (.int (nI (ncoins N S))), some (.int (nI k))], [], g) R := by
        intro e
        induction e with
        | zero =>
          intro k g hk fr X Y
          have hk : k = N 1 := by omega
          refine zTo_of gX6_layNexts_33 ?_
          simp only [(M fr).1, r_doors (M fr) (ML' fr), hk, nI_le (Nat.le_refl _) (show N 1 < 2 ^ 31 by omega), nI_1, zmp_s, zlt_s, zcV_s, zcI_s, zcJ_s, zcA_s, zcD_s, zcF_s, zth_n, zth_t, zrt_s, zQ_l, zQ_r, false_or, or_false, true_or, or_true, false_and, and_false, not_false_eq_true, not_true_eq_false, and_self, true_and, and_true, if_true, if_false, ite_true, ite_false, zgd_t]
          refine ih (S + 1) g (by omega) (by omega) fr (fun S' a q1 q2 q3 => ?_)
          by_cases w : S' = S
          · rw [w, Y a q3, hk]; rfl
          · exact X S' a q1 (by omega) q3
        | succ e ih2 =>
          intro k g hk fr X Y
          have hkn : k < N 1 := by omega
          obtain ⟨f1, f2, f3, f4⟩ := nI_for hkn (by omega)
          obtain ⟨d1, d2, d3, d4, d5, d6, d7⟩ := hW.2.2.2.2.1 k hkn
          refine zTo_of gX6_layNexts_33 ?_
          simp only [(M fr).1, r_doors (M fr) (ML' fr), f1, f4, r_isOpen (M fr) (ML' fr) hW hkn (show nkeys N S < 2 ^ 31 by omega) (show ncoins N S < 2 ^ 31 by omega), zb_0, zmp_s, zlt_s, zcV_s, zcI_s, zcJ_s, zcA_s, zcD_s, zcF_s, zth_n, zth_t, zrt_s, zQ_l, zQ_r, false_or, or_false, true_or, or_true, false_and, and_false, not_false_eq_true, not_true_eq_false, and_self, true_and, and_true, if_true, if_false, ite_true, ite_false, zgd_t]
          cases o : nopen N k (nkeys N S) (ncoins N S)
          · simp only [false_or, or_false, true_or, or_true, false_and, and_false, not_false_eq_true, not_true_eq_false, and_self, true_and, and_true, if_true, if_false, ite_true, ite_false, zmp_s, zlt_s, zcV_s, zcI_s, zcJ_s, zcA_s, zcD_s, zcF_s, zth_n, zth_t, zrt_s, zQ_l, zQ_r]
            refine ih2 (k + 1) g (by omega) fr X (fun a ha => ?_)
            rw [nxv_step hW hkn, Y a ha, o]
            cases nthr N k a <;> rfl
          · have fr1 := fr.tr (lnx_fr (h := g) (S := S) (a := N (49 + 5 * k)) (b := N (50 + 5 * k)))
            have fr2 := fr1.tr (lnx_fr (h := lnx g S (N (49 + 5 * k)) (N (50 + 5 * k))) (S := S) (a := N (50 + 5 * k)) (b := N (49 + 5 * k)))
            simp only [Bool.true_eq_false, false_or, or_false, true_or, or_true, false_and, and_false, not_false_eq_true, not_true_eq_false, and_self, true_and, and_true, if_true, if_false, ite_true, ite_false, zmp_s, zlt_s, zcV_s, zcI_s, zcJ_s, zcA_s, zcD_s, zcF_s, zth_n, zth_t, zrt_s, zQ_l, zQ_r, (M fr).1, r_ofDoor0 (M fr) (ML' fr) (show k < 20 by omega), r_ofDoor1 (M fr) (ML' fr) (show k < 20 by omega), r_layNext (M fr) (show S < 2048 by omega) (show N (49 + 5 * k) < 11 by omega) (show N (50 + 5 * k) < 11 by omega), (M fr1).1, r_ofDoor4 (M fr1) (ML' fr1) (show k < 20 by omega), r_ofDoor0 (M fr1) (ML' fr1) (show k < 20 by omega), r_ofDoor1 (M fr1) (ML' fr1) (show k < 20 by omega), r_layNext (M fr1) (show S < 2048 by omega) (show N (50 + 5 * k) < 11 by omega) (show N (49 + 5 * k) < 11 by omega), nI_eq0 (show N (53 + 5 * k) < 2 ^ 31 by omega), zgd_t]
            by_cases ow : N (53 + 5 * k) = 0
            · simp only [ow, false_or, or_false, true_or, or_true, false_and, and_false, not_false_eq_true, not_true_eq_false, and_self, true_and, and_true, if_true, if_false, ite_true, ite_false, zmp_s, zlt_s, zcV_s, zcI_s, zcJ_s, zcA_s, zcD_s, zcF_s, zth_n, zth_t, zrt_s, zQ_l, zQ_r]
              refine ih2 (k + 1) _ (by omega) fr2 (fun S' a q1 q2 q3 => ?_) (fun a ha => ?_)
              · rw [lnx_at (by omega) (by omega), if_neg (by omega), lnx_at (by omega) (by omega), if_neg (by omega)]
                exact X S' a q1 q2 q3
              · rw [nxv_step hW hkn, o]
                unfold nthr
                by_cases e1 : N (49 + 5 * k) = a
                · have e2 : ¬ a = N (50 + 5 * k) := by omega
                  rw [if_pos e1, lnx_at (by omega) (by omega), if_neg (by omega), lnx_at (by omega) (by omega), ← e1, Y _ d1]
                  cases q : S.testBit (N (50 + 5 * k)) <;> simp [q, nx_or]
                · by_cases e2 : N (50 + 5 * k) = a
                  · have hin : zI (lnx g S (N (49 + 5 * k)) (N (50 + 5 * k))) 130 (11 * S + N (50 + 5 * k)) = nI (zfo (ndstep N S (N (50 + 5 * k))) 0 k &&& (S ^^^ 4294967295)) := by
                      rw [lnx_at (by omega) (by omega), if_neg (fun w => d3 w.2.1.symm), Y _ d2]
                    rw [if_neg e1, if_pos ⟨e2, ow⟩, lnx_at (by omega) (by omega), ← e2, hin]
                    cases q : S.testBit (N (49 + 5 * k)) <;> simp [q, nx_or]
                  · rw [if_neg e1, if_neg (fun x => e2 x.1), lnx_at (by omega) (by omega), if_neg (by omega), lnx_at (by omega) (by omega), if_neg (by omega), Y a ha]
            · simp only [ow, false_or, or_false, true_or, or_true, false_and, and_false, not_false_eq_true, not_true_eq_false, and_self, true_and, and_true, if_true, if_false, ite_true, ite_false, zmp_s, zlt_s, zcV_s, zcI_s, zcJ_s, zcA_s, zcD_s, zcF_s, zth_n, zth_t, zrt_s, zQ_l, zQ_r]
              refine ih2 (k + 1) _ (by omega) fr1 (fun S' a q1 q2 q3 => ?_) (fun a ha => ?_)
              · rw [lnx_at (by omega) (by omega), if_neg (by omega)]
                exact X S' a q1 q2 q3
              · rw [nxv_step hW hkn, o]
                unfold nthr
                by_cases e1 : N (49 + 5 * k) = a
                · rw [if_pos e1, lnx_at (by omega) (by omega), ← e1, Y _ d1]
                  cases q : S.testBit (N (50 + 5 * k)) <;> simp [q, nx_or]
                · rw [if_neg e1, if_neg (fun x => ow x.2), lnx_at (by omega) (by omega), if_neg (by omega), Y a ha]
      have zeros : ∀ e k g, k + e = N 0 → zFr (fun c => c = 130) h g → NXT g N S → (∀ a, a < k → zI g 130 (11 * S + a) = 0) → zTo vX6_layNexts rX6_layNexts (16, [some (.ref 125), some (.int (nI S)), some (.int (nI (nkeys N S))), some (.int (nI (ncoins N S))), some (.int (nI k))], [], g) R := by
        intro e
        induction e with
        | zero =>
          intro k g hk fr X Y
          have hk : k = N 0 := by omega
          refine zTo_of gX6_layNexts_16 ?_
          simp only [(M fr).1, r_rooms (M fr) (ML' fr), hk, nI_le (Nat.le_refl _) (show N 0 < 2 ^ 31 by omega), zmp_s, zlt_s, zcV_s, zcI_s, zcJ_s, zcA_s, zcD_s, zcF_s, zth_n, zth_t, zrt_s, zQ_l, zQ_r, false_or, or_false, true_or, or_true, false_and, and_false, not_false_eq_true, not_true_eq_false, and_self, true_and, and_true, if_true, if_false, ite_true, ite_false, zgd_t]
          refine doors (N 1) 0 g (by omega) fr X (fun a ha => ?_)
          rw [Y a (by omega), zfo_0, Nat.zero_and]; rfl
        | succ e ih2 =>
          intro k g hk fr X Y
          obtain ⟨f1, f2, f3, f4⟩ := nI_for (show k < N 0 by omega) (by omega)
          have m1 := M fr
          have r1 := r_rooms (M fr) (ML' fr)
          obtain ⟨t0, t3, tq, t1, t2, t4, t5, t6, t7, t8, t9, t10, t21, t22, t23, t25, n6, n7, n8, n9, n10, n11, n12, n13, n14, n15, n16, n17, n18⟩ := m1
          refine zTo_of gX6_layNexts_16 ?_
          simp only [t0, r1, f1, f4, t6, n10, ix11, nI_clamp (show 11 * S + k < 2 ^ 31 by omega), nI_lt0 (show 11 * S + k < 2 ^ 31 by omega), show ¬ 22528 ≤ 11 * S + k by omega, zmp_s, zlt_s, zcV_s, zcI_s, zcJ_s, zcA_s, zcD_s, zcF_s, zth_n, zth_t, zrt_s, zQ_l, zQ_r, false_or, or_false, true_or, or_true, false_and, and_false, not_false_eq_true, not_true_eq_false, and_self, true_and, and_true, if_true, if_false, ite_true, ite_false, zgd_t]
          refine ih2 (k + 1) _ (by omega) (fr.tr (zFr.sI rfl)) (fun S' a q1 q2 q3 => ?_) (fun a ha => ?_)
          · rw [I_sIs, zput_ne _ _ (by omega)]; exact X S' a q1 q2 q3
          · rw [I_sIs]
            by_cases w : a = k
            · rw [w, zput_self]
            · rw [zput_ne _ _ (by omega)]; exact Y a (by omega)
      exact zeros (N 0) 0 g (by omega) fr X (fun a ha => by omega)
  have hsim : zW (sX6_layNexts [.ref 125] h) R := zsem_to (Nat.le_of_ble_eq_true rfl) (zTo_of gX6_layNexts_0 (outer (2 ^ N 0 - 1) 1 h (by omega) (by omega) zFr.rf (fun S a q1 q2 q3 => by omega)))
  rw [hR] at hsim
  obtain ⟨o, e1, g, rfl, e2⟩ := hsim
  exact ⟨g, e1, e2⟩
theorem eI_eq {k l : Nat} (hk : k < 2 ^ 31) (hl : l < 2 ^ 31) : (nI k = eI l) = (k + 1 = l) := by
  cases l with
  | zero =>
    rw [eI_0, nI_m1]
    refine propext ⟨fun w => ?_, fun w => by omega⟩
    have h3 := congrArg (fun y => (Int32.toBitVec y).toNat) w
    have h4 : (BitVec.ofNat 32 k).toNat = (BitVec.ofNat 32 4294967295).toNat := h3
    simp only [BitVec.toNat_ofNat] at h4
    omega
  | succ n =>
    rw [eI_s]
    apply propext
    rw [nI_eq hk (by omega)]
    omega
theorem r_mayEnd {r e : Nat} (hr : r < 2 ^ 31) (he : e < 2 ^ 31) (h : zm_H) : sX6_mayEnd [.ref 125, .int (nI r), .int (eI e)] h = some (.inl (some (.int (zb (decide (e = 0) || decide (e = r + 1))))), h) := by
  refine zsem_eq (Nat.le_of_ble_eq_true rfl) (zTo_of gX6_mayEnd_0 ?_)
  simp only [eI_eq hr he]
  cases e with
  | zero => simp only [eI_0, false_or, or_false, true_or, or_true, false_and, and_false, not_false_eq_true, not_true_eq_false, and_self, true_and, and_true, if_true, if_false, ite_true, ite_false, zmp_s, zlt_s, zcV_s, zcI_s, zcJ_s, zcA_s, zcD_s, zcF_s, zth_n, zth_t, zrt_s, zQ_l, zQ_r]; rfl
  | succ n =>
    have e1 : ¬ (nI n = -1) := by
      have := eI_eq (k := n) (l := 0) (by omega) (by omega)
      rw [eI_0] at this
      rw [this]; omega
    simp only [eI_s, e1, false_or, or_false, true_or, or_true, false_and, and_false, not_false_eq_true, not_true_eq_false, and_self, true_and, and_true, if_true, if_false, ite_true, ite_false]
    by_cases q : r + 1 = n + 1
    · simp [q, zQ, zb]
    · have q2 : ¬ n + 1 = r + 1 := by omega
      have q3 : ¬ r = n := by omega
      have q4 : ¬ n = r := by omega
      simp [q2, q3, q4, zQ, zb]
/-- steps where room l - 1 may not come ahead of room e -/
def nxf (N : zLv) (e l : Nat) : Nat → Nat → Nat → Bool := fun S a b => nnx N S a b && (!decide (b + 1 = l) || S.testBit e)
theorem nxf_ok {N : zLv} (hW : WB N) (e l : Nat) : nxok (nxf N e l) (N 0) := fun S a b h => by
  unfold nxf at h
  simp only [Bool.and_eq_true] at h
  exact nnx_ok hW S a b h.1
theorem nxf_0 {N : zLv} {e : Nat} : nxf N e 0 = nnx N := by
  funext S a b
  unfold nxf
  simp
def wyv (N : zLv) (e l S a : Nat) : Nat := if S.testBit a then nT (nxf N e l) (nba N) (N 0) S a else 0
def WYS (h : zm_H) (N : zLv) (e l s k : Nat) : Prop := ∀ S a, 0 < S → S < 2 ^ N 0 → a < N 0 → (s < S ∨ (S = s ∧ a < k)) → zJ h 128 (11 * S + a) = lN (wyv N e l S a)
end ZMB
