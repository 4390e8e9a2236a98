/-! THE TABLES OF THE CLASS: tours counted backwards, and what is read off. -/
section ZTO
def nba (N : zLv) (S a : Nat) : Nat := if S = 2 ^ N 0 - 1 ∧ nme N a = true then 1 else 0
def nTT (N : zLv) (S a : Nat) : Nat := nT (nnx N) (nba N) (N 0) S a
def nWW (N : zLv) (S0 a0 S a : Nat) : Nat := nW (nnx N) (N 0) S0 a0 S a
/-- what a step to room r is worth -/
def ncn (N : zLv) (S a r : Nat) : Nat := if nnx N S a r then nTT N (S ||| 2 ^ r) r else 0
theorem nTT_eq {N : zLv} (hW : WB N) {S : Nat} (hS : S < 2 ^ N 0) (a : Nat) : nTT N S a = nba N S a + zsu (ncn N S a) (N 0) := nT_eq (nnx_ok hW) hS a
theorem nTT_lt {N : zLv} (hW : WB N) {S : Nat} (hS : S < 2 ^ N 0) (a : Nat) : nTT N S a < 2 ^ 40 := by
  have h := nT_bound (nnx_ok hW) (ba := nba N) (fun S a => by unfold nba; split <;> omega) (fun S a _ h => if_neg (fun e => h e.1)) _ S a hS (Nat.le_refl _)
  have hn := hW.1
  have h1 : N 0 ^ (N 0 - npc S (N 0)) ≤ 11 ^ (N 0 - npc S (N 0)) := Nat.pow_le_pow_left hn _
  have h2 : 11 ^ (N 0 - npc S (N 0)) ≤ 11 ^ 11 := Nat.pow_le_pow_right (by omega) (by omega)
  have h3 : (11 : Nat) ^ 11 < 2 ^ 40 := by decide +kernel
  unfold nTT
  omega
theorem nWW_lt {N : zLv} (hW : WB N) {S0 a0 S b : Nat} (hb : b < N 0) : nWW N S0 a0 S b < 2 ^ 40 := by
  have h := nW_bound (S0 := S0) (a0 := a0) (nnx_ok hW) S b hb
  have hn := hW.1
  have h1 : (N 0 + 1) ^ npc S (N 0) ≤ 12 ^ npc S (N 0) := Nat.pow_le_pow_left (by omega) _
  have h2 : 12 ^ npc S (N 0) ≤ 12 ^ 11 := Nat.pow_le_pow_right (by omega) (by have := npc_le S (N 0); omega)
  have h3 : (12 : Nat) ^ 11 < 2 ^ 40 := by decide +kernel
  unfold nWW
  omega
theorem nWW_on {N : zLv} (hW : WB N) {S0 a0 S a b : Nat} (ha : a < N 0) (h : 0 < nWW N S0 a0 S a) (hx : nnx N S a b = true) : 0 < nWW N S0 a0 (S ||| 2 ^ b) b := by
  obtain ⟨h1, h2⟩ := nnx_ok hW S a b hx
  unfold nWW at h ⊢
  rw [nW_eq, if_pos (show (S ||| 2 ^ b).testBit b = true by rw [tb_or]; simp)]
  have : 0 < zsu (fun a' => if nnx N ((S ||| 2 ^ b) ^^^ 2 ^ b) a' b then nW (nnx N) (N 0) S0 a0 ((S ||| 2 ^ b) ^^^ 2 ^ b) a' else 0) (N 0) := zsu_pos ha (by
    rw [or_xor h2, if_pos hx]; exact h)
  omega
theorem nnx_full {N : zLv} (hW : WB N) (a b : Nat) : nnx N (2 ^ N 0 - 1) a b = false := by
  cases q : nnx N (2 ^ N 0 - 1) a b with
  | false => rfl
  | true =>
    obtain ⟨h1, h2⟩ := nnx_ok hW _ a b q
    rw [tb_full] at h2
    simp [h1] at h2
theorem nTT_full {N : zLv} (hW : WB N) (a : Nat) : nTT N (2 ^ N 0 - 1) a = if nme N a then 1 else 0 := by
  rw [nTT_eq hW (by have := Nat.one_le_two_pow (n := N 0); omega), zsu_0 _ (fun b _ => by unfold ncn; rw [nnx_full hW]; rfl)]
  unfold nba
  by_cases q : nme N a = true
  · rw [if_pos ⟨rfl, q⟩, if_pos q]
  · rw [if_neg (fun e => q e.2), if_neg q]
theorem on_bit {N : zLv} {S a i : Nat} (hi : i < 32) : (nld N S a &&& (S ^^^ 4294967295)).testBit i = nnx N S a i := bit_not hi
theorem on_lt {N : zLv} (hW : WB N) (S a : Nat) : nld N S a &&& (S ^^^ 4294967295) < 2 ^ N 0 := and_lt (nld_lt hW S a)
/-- tours behind S, behind their sets above s alone in the table -/
def TGt (g : zm_H) (t : Nat) (N : zLv) (S0 a0 s k : Nat) : Prop := ∀ S a, S < 2 ^ N 0 → a < N 0 → 0 < nWW N S0 a0 S a → (s < S ∨ (S = s ∧ a < k)) → zJ g (t + 4) (S * 11 + a) = lN (nTT N S a)
theorem q_toursOn {g : zm_H} {t S0 a0 S a : Nat} {N : zLv} (hT : tbS g t) (hW : WB N) (hB : TBs g t N S0 a0) (hs : S < 2 ^ N 0) (ha : a < N 0) (hw : 0 < nWW N S0 a0 S a) {k : Nat} (hG : TGt g t N S0 a0 S k) : sX4_toursOn [.ref t, .int (nI S), .int (nI a)] g = some (.inl (some (.long (lN (nTT N S a)))), g) := by
  have hn := hW.1
  have hp := pow_le hn
  have hT0 := hT
  obtain ⟨k0, p0, p1, p2, p3, k1, k2, k3, k4⟩ := hT
  obtain ⟨b4, b5, bc, bn, be⟩ := hB
  have e1 := nI_clamp (show S * 11 + a < 2 ^ 31 by omega)
  have e2 := nI_lt0 (show S * 11 + a < 2 ^ 31 by omega)
  have e3 : ¬ 22528 ≤ S * 11 + a := by omega
  refine zsem_eq (Nat.le_of_ble_eq_true rfl) (zTo_of gX4_toursOn_0 ?_)
  simp only [k0, b5, zgd_t, nI_eq (show S < 2 ^ 31 by omega) (show 2 ^ N 0 - 1 < 2 ^ 31 by omega)]
  by_cases hf : S = 2 ^ N 0 - 1
  · have hm := nmask_lt (fun r => decide (0 < nW (nnx N) (N 0) S0 a0 (2 ^ N 0 - 1) r) && nme N r) (N 0)
    have hw2 := hw
    rw [hf] at hw2
    unfold nWW at hw2
    simp only [hf, false_or, or_false, not_false_eq_true, not_true_eq_false, and_self, true_and, and_true, if_true, if_false, ite_true, ite_false, be, q_has (show nmask (fun r => decide (0 < nW (nnx N) (N 0) S0 a0 (2 ^ N 0 - 1) r) && nme N r) (N 0) < 2 ^ 31 by omega) (show a < 32 by omega), zb_0, nmask_bit, ha, hw2, decide_true, Bool.true_and, nTT_full hW, zmp_s, zlt_s, zcV_s, zcI_s, zcJ_s, zcA_s, zcD_s, zcF_s, zth_n, zth_t, zrt_s, zQ_l, zQ_r]
    cases nme N a <;> simp [zQ] <;> rfl
  · simp only [hf, false_or, or_false, not_false_eq_true, not_true_eq_false, and_self, true_and, and_true, if_true, if_false, ite_true, ite_false, zmp_s, zlt_s, zcV_s, zcI_s, zcJ_s, zcA_s, zcD_s, zcF_s, zth_n, zth_t, zrt_s, zQ_l, zQ_r, q_cell, p2, k3, e1, e2, e3, zgd_t, bn S a hs ha hw]
    have hol := on_lt hW S a
    have hob : ∀ i, i < 32 → (nld N S a &&& (S ^^^ 4294967295)).testBit i = nnx N S a i := fun i hi => on_bit hi
    generalize nld N S a &&& (S ^^^ 4294967295) = on at hol hob ⊢
    have hTT : nTT N S a = zsu (ncn N S a) (N 0) := by
      rw [nTT_eq hW hs]
      unfold nba
      rw [if_neg (fun e => hf e.1), Nat.zero_add]
    rw [hTT]
    have loop : ∀ d j, j + d = N 0 → zTo vX4_toursOn rX4_toursOn (24, [some (.ref t), some (.int (nI S)), none, some (.int (nI on)), some (.long (lN (zsu (ncn N S a) j))), none, some (.int (nI j))], [], g) (fun y => y = (.inl (some (.long (lN (zsu (ncn N S a) (N 0))))), g)) := by
      intro d
      induction d with
      | zero =>
        intro j hj
        have hj : j = N 0 := by omega
        refine zTo_of gX4_toursOn_24 ?_
        simp only [k0, b4, hj, nI_le (Nat.le_refl _) (show N 0 < 2 ^ 31 by omega), zmp_s, zlt_s, zcV_s, zcI_s, zcJ_s, zcA_s, zcD_s, zcF_s, zth_n, zth_t, zrt_s, zQ_l, zQ_r, false_or, or_false, not_false_eq_true, not_true_eq_false, and_self, true_and, and_true, if_true, if_false, ite_true, ite_false, zgd_t]
      | succ d ih =>
        intro j hj
        obtain ⟨g1, g2, g3, g4⟩ := nI_for (show j < N 0 by omega) (by omega)
        have hjn : j < N 0 := by omega
        have s1 : nI on >>> (nI j &&& 31) = nI (on >>> j) := nx_shr (by omega) (by omega)
        have s2 : on >>> j < 2 ^ 31 := by
          have := Nat.shiftRight_le on j
          omega
        refine zTo_of gX4_toursOn_24 ?_
        simp only [k0, b4, g1, g4, s1, nI_eq0 s2, zgd_t, zmp_s, zlt_s, zcV_s, zcI_s, zcJ_s, zcA_s, zcD_s, zcF_s, zth_n, zth_t, zrt_s, zQ_l, zQ_r, false_or, or_false, not_false_eq_true, not_true_eq_false, and_self, true_and, and_true, if_true, if_false, ite_true, ite_false]
        by_cases z : on >>> j = 0
        · have z2 := shr_0.mp z
          have z3 : zsu (ncn N S a) (N 0) = zsu (ncn N S a) j := by
            have : ∀ m, zsu (ncn N S a) (j + m) = zsu (ncn N S a) j ∨ N 0 < j + m := by
              intro m
              induction m with
              | zero => exact Or.inl rfl
              | succ m ihm =>
                rcases ihm with q | q
                · by_cases w : j + m < N 0
                  · left
                    rw [show j + (m + 1) = j + m + 1 by omega, zsu_s, q]
                    have : nnx N S a (j + m) = false := by rw [← hob _ (by omega)]; exact z2 _ (by omega)
                    unfold ncn
                    rw [this]; rfl
                  · right; omega
                · right; omega
            rcases this (N 0 - j) with q | q
            · rw [show j + (N 0 - j) = N 0 by omega] at q; exact q
            · omega
          simp only [z, false_or, or_false, not_false_eq_true, not_true_eq_false, and_self, true_and, and_true, if_true, if_false, ite_true, ite_false, zmp_s, zlt_s, zcV_s, zcI_s, zcJ_s, zcA_s, zcD_s, zcF_s, zth_n, zth_t, zrt_s, zQ_l, zQ_r, z3]
        · simp only [z, false_or, or_false, not_false_eq_true, not_true_eq_false, and_self, true_and, and_true, if_true, if_false, ite_true, ite_false, zmp_s, zlt_s, zcV_s, zcI_s, zcJ_s, zcA_s, zcD_s, zcF_s, zth_n, zth_t, zrt_s, zQ_l, zQ_r, q_has (show on < 2 ^ 31 by omega) (show j < 32 by omega), zb_0, hob j (by omega)]
          by_cases w : nnx N S a j = true
          · obtain ⟨w1, w2⟩ := nnx_ok hW S a j w
            have w3 := or_lt2 hs hjn
            have c1 := nI_clamp (show (S ||| 2 ^ j) * 11 + j < 2 ^ 31 by omega)
            have c2 := nI_lt0 (show (S ||| 2 ^ j) * 11 + j < 2 ^ 31 by omega)
            have c3 : ¬ 22528 ≤ (S ||| 2 ^ j) * 11 + j := by omega
            have c4 := hG (S ||| 2 ^ j) j w3 hjn (nWW_on hW ha hw w) (Or.inl (or_gt w2))
            simp only [w, Bool.true_eq_false, false_or, or_false, not_false_eq_true, not_true_eq_false, and_self, true_and, and_true, if_true, if_false, ite_true, ite_false, k0, p3, k4, nx_shl1 (show j < 32 by omega), nx_or, q_cell, c1, c2, c3, c4, lN_add, g4, zmp_s, zlt_s, zcV_s, zcI_s, zcJ_s, zcA_s, zcD_s, zcF_s, zth_n, zth_t, zrt_s, zQ_l, zQ_r, zgd_t]
            have := ih (j + 1) (by omega)
            rw [zsu_s] at this
            unfold ncn at this ⊢
            rw [if_pos w] at this
            exact this
          · have w : nnx N S a j = false := by simpa using w
            simp only [w, false_or, or_false, not_false_eq_true, not_true_eq_false, and_self, true_and, and_true, if_true, if_false, ite_true, ite_false, zmp_s, zlt_s, zcV_s, zcI_s, zcJ_s, zcA_s, zcD_s, zcF_s, zth_n, zth_t, zrt_s, zQ_l, zQ_r]
            have := ih (j + 1) (by omega)
            rw [zsu_s] at this
            have e : ncn N S a j = 0 := by unfold ncn; rw [w]; rfl
            rw [e, Nat.add_zero] at this
            exact this
    exact loop (N 0) 0 (by omega)
theorem TBs_fr {h g : zm_H} {t S0 a0 : Nat} {N : zLv} (fr : zFr (fun c => c = t + 4) h g) (hB : TBs h t N S0 a0) : TBs g t N S0 a0 := by
  obtain ⟨b4, b5, bc, bn, be⟩ := hB
  refine ⟨by rw [fr.I (by omega)]; exact b4, by rw [fr.I (by omega)]; exact b5, ⟨fun S hS => by rw [fr.I (by omega)]; exact bc.1 S hS, fun S b q1 q2 q3 => by rw [fr.J (by omega)]; exact bc.2 S b q1 q2 q3⟩, fun S a q1 q2 q3 => by rw [fr.I (by omega)]; exact bn S a q1 q2 q3, by rw [fr.I (by omega)]; exact be⟩
/-- the tables behind spread and gather -/
def TBg (g : zm_H) (t : Nat) (N : zLv) (S0 a0 : Nat) : Prop := TBs g t N S0 a0 ∧ ∀ S a, S < 2 ^ N 0 → a < N 0 → 0 < nWW N S0 a0 S a → zJ g (t + 4) (S * 11 + a) = lN (nTT N S a)
theorem q_gather {h : zm_H} {t S0 a0 : Nat} {N : zLv} (hT : tbS h t) (hW : WB N) (hB : TBs h t N S0 a0) (hb0 : S0.testBit a0 = true) :
    ∃ g, sX4_gather [.ref t] h = some (.inl none, g) ∧ zFr (fun c => c = t + 4) h g ∧ TBg g t N S0 a0 := by
  have hn := hW.1
  have hp := pow_le hn
  have hT0 := hT
  obtain ⟨k0, p0, p1, p2, p3, k1, k2, k3, k4⟩ := hT
  obtain ⟨R, hR⟩ : ∃ R : zm_O → Prop, R = (fun o => ∃ g, o = (.inl none, g) ∧ zFr (fun c => c = t + 4) h g ∧ TBg g t N S0 a0) := ⟨_, rfl⟩
  have one := Nat.one_le_two_pow (n := N 0)
  have outer : ∀ s g, s < 2 ^ N 0 → zFr (fun c => c = t + 4) h g → TGt g t N S0 a0 s 0 → zTo vX4_gather rX4_gather (3, [some (.ref t), some (.int (nI s)), none], [], g) R := by
    intro s
    induction s with
    | zero =>
      intro g hs fr hG
      refine zTo_of gX4_gather_3 ?_
      simp only [nI_0, show ((0 : Int32) ≤ 0) = True by decide +kernel, zmp_s, zlt_s, zcV_s, zcI_s, zcJ_s, zcA_s, zcD_s, zcF_s, zth_n, zth_t, zrt_s, zQ_l, zQ_r, false_or, or_false, not_false_eq_true, not_true_eq_false, and_self, true_and, and_true, if_true, if_false, ite_true, ite_false]
      rw [hR]
      refine ⟨g, rfl, fr, TBs_fr fr hB, fun S a q1 q2 q3 => hG S a q1 q2 q3 ?_⟩
      left
      have := nW_bit hb0 q3
      rcases Nat.eq_zero_or_pos S with e | e
      · rw [e, Nat.zero_testBit] at this; cases this
      · exact e
    | succ s ih =>
      intro g hs fr hG
      have e1 : (nI (s + 1) ≤ 0) = False := eq_false (nI_nle (by omega) (by omega))
      have e2 : nI (s + 1) + (-1 : Int32) = nI s := pk_m1 s
      refine zTo_of gX4_gather_3 ?_
      simp only [e1, zmp_s, zlt_s, zcV_s, zcI_s, zcJ_s, zcA_s, zcD_s, zcF_s, zth_n, zth_t, zrt_s, zQ_l, zQ_r, false_or, or_false, not_false_eq_true, not_true_eq_false, and_self, true_and, and_true, if_true, if_false, ite_true, ite_false]
      have inner : ∀ d k g, k + d = N 0 → zFr (fun c => c = t + 4) h g → TGt g t N S0 a0 (s + 1) k → zTo vX4_gather rX4_gather (7, [some (.ref t), some (.int (nI (s + 1))), some (.int (nI k))], [], g) R := by
        intro d
        induction d with
        | zero =>
          intro k g hk fr hG
          have hk : k = N 0 := by omega
          have K := fr.K
          have b4 : zI g t 4 = nI (N 0) := by rw [fr.I (by omega)]; exact hB.1
          refine zTo_of gX4_gather_7 ?_
          simp only [K, k0, b4, hk, nI_le (Nat.le_refl _) (show N 0 < 2 ^ 31 by omega), e2, zmp_s, zlt_s, zcV_s, zcI_s, zcJ_s, zcA_s, zcD_s, zcF_s, zth_n, zth_t, zrt_s, zQ_l, zQ_r, false_or, or_false, not_false_eq_true, not_true_eq_false, and_self, true_and, and_true, if_true, if_false, ite_true, ite_false, zgd_t]
          refine ih g (by omega) fr (fun S a q1 q2 q3 q4 => hG S a q1 q2 q3 ?_)
          rcases q4 with q4 | ⟨_, q4⟩
          · by_cases w : S = s + 1
            · right; exact ⟨w, by omega⟩
            · left; omega
          · omega
        | succ d ih2 =>
          intro k g hk fr hG
          have K := fr.K
          have P := fr.P
          have hkn : k < N 0 := by omega
          have b4 : zI g t 4 = nI (N 0) := by rw [fr.I (by omega)]; exact hB.1
          have bl : zI g (t + 1) (s + 1) = nI (tmk (nWW N S0 a0) (N 0) (s + 1)) := by rw [fr.I (by omega)]; exact hB.2.2.1.1 _ hs
          obtain ⟨g1, g2, g3, g4⟩ := nI_for hkn (by omega)
          have f1 := nI_clamp (show s + 1 < 2 ^ 31 by omega)
          have f2 := nI_lt0 (show s + 1 < 2 ^ 31 by omega)
          have f3 : ¬ 2048 ≤ s + 1 := by omega
          have hm := tmk_lt (F := nWW N S0 a0) (S := s + 1) hn
          refine zTo_of gX4_gather_7 ?_
          simp only [K, P, k0, p0, k1, b4, bl, g1, f1, f2, f3, nI_eq0 (show tmk (nWW N S0 a0) (N 0) (s + 1) < 2 ^ 31 by omega), zmp_s, zlt_s, zcV_s, zcI_s, zcJ_s, zcA_s, zcD_s, zcF_s, zth_n, zth_t, zrt_s, zQ_l, zQ_r, false_or, or_false, not_false_eq_true, not_true_eq_false, and_self, true_and, and_true, if_true, if_false, ite_true, ite_false, zgd_t]
          by_cases z : tmk (nWW N S0 a0) (N 0) (s + 1) = 0
          · simp only [z, false_or, or_false, not_false_eq_true, not_true_eq_false, and_self, true_and, and_true, if_true, if_false, ite_true, ite_false, zmp_s, zlt_s, zcV_s, zcI_s, zcJ_s, zcA_s, zcD_s, zcF_s, zth_n, zth_t, zrt_s, zQ_l, zQ_r, e2]
            have z2 := tmk_eq0.mp z
            refine ih g (by omega) fr (fun S a q1 q2 q3 q4 => hG S a q1 q2 q3 ?_)
            rcases q4 with q4 | ⟨_, q4⟩
            · by_cases w : S = s + 1
              · rw [w, z2 a q2] at q3; omega
              · left; omega
            · omega
          · simp only [z, false_or, or_false, not_false_eq_true, not_true_eq_false, and_self, true_and, and_true, if_true, if_false, ite_true, ite_false, zmp_s, zlt_s, zcV_s, zcI_s, zcJ_s, zcA_s, zcD_s, zcF_s, zth_n, zth_t, zrt_s, zQ_l, zQ_r, q_has (show tmk (nWW N S0 a0) (N 0) (s + 1) < 2 ^ 31 by omega) (show k < 32 by omega), zb_0, tmk_bit, hkn, decide_true, Bool.true_and]
            by_cases e : 0 < nWW N S0 a0 (s + 1) k
            · have c1 := nI_clamp (show (s + 1) * 11 + k < 2 ^ 31 by omega)
              have c2 := nI_lt0 (show (s + 1) * 11 + k < 2 ^ 31 by omega)
              have c3 : ¬ 22528 ≤ (s + 1) * 11 + k := by omega
              simp only [e, decide_true, Bool.true_eq_false, false_or, or_false, not_false_eq_true, not_true_eq_false, and_self, true_and, and_true, if_true, if_false, ite_true, ite_false, zmp_s, zlt_s, zcV_s, zcI_s, zcJ_s, zcA_s, zcD_s, zcF_s, zth_n, zth_t, zrt_s, zQ_l, zQ_r, K, P, k0, p3, k4, q_cell, c1, c2, c3, g4, q_toursOn (tbS_kp K P hT0) hW (TBs_fr fr hB) hs hkn e hG, zgd_t]
              refine ih2 (k + 1) _ (by omega) (fr.tr (zFr.sJ rfl)) (fun S a q1 q2 q3 q4 => ?_)
              rw [J_sJs]
              by_cases w : S = s + 1 ∧ a = k
              · rw [w.1, w.2, zput_self]
              · rw [zput_ne _ _ (by omega)]
                exact hG S a q1 q2 q3 (by omega)
            · simp only [e, decide_false, false_or, or_false, not_false_eq_true, not_true_eq_false, and_self, true_and, and_true, if_true, if_false, ite_true, ite_false, zmp_s, zlt_s, zcV_s, zcI_s, zcJ_s, zcA_s, zcD_s, zcF_s, zth_n, zth_t, zrt_s, zQ_l, zQ_r, g4]
              refine ih2 (k + 1) g (by omega) fr (fun S a q1 q2 q3 q4 => ?_)
              by_cases w : S = s + 1 ∧ a = k
              · rw [w.1, w.2] at q3; omega
              · exact hG S a q1 q2 q3 (by omega)
      exact inner (N 0) 0 g (by omega) fr hG
  have hsim : zW (sX4_gather [.ref t] h) R := by
    refine zsem_to (Nat.le_of_ble_eq_true rfl) (zTo_of gX4_gather_0 ?_)
    simp only [k0, hB.2.1, zmp_s, zlt_s, zcV_s, zcI_s, zcJ_s, zcA_s, zcD_s, zcF_s, zth_n, zth_t, zrt_s, zQ_l, zQ_r, zgd_t]
    exact outer (2 ^ N 0 - 1) h (by omega) zFr.rf (fun S a q1 q2 q3 q4 => by omega)
  rw [hR] at hsim
  obtain ⟨o, h1, g, rfl, h2⟩ := hsim
  exact ⟨g, h1, h2⟩
/-- what the tables answer: nothing where no walk is -/
def nTB (N : zLv) (S0 a0 S a : Nat) : Nat := if 0 < nWW N S0 a0 S a then nTT N S a else 0
theorem q_begun {g : zm_H} {t S0 a0 S a : Nat} {N : zLv} (hT : tbS g t) (hW : WB N) (hB : TBg g t N S0 a0) (hs : S < 2 ^ N 0) (ha : a < N 0) : sX4_begun [.ref t, .int (nI S), .int (nI a)] g = some (.inl (some (.long (lN (nTB N S0 a0 S a)))), g) := by
  have hn := hW.1
  have hp := pow_le hn
  obtain ⟨k0, p0, p1, p2, p3, k1, k2, k3, k4⟩ := hT
  have bl : zI g (t + 1) S = nI (tmk (nWW N S0 a0) (N 0) S) := hB.1.2.2.1.1 _ hs
  have f1 := nI_clamp (show S < 2 ^ 31 by omega)
  have f2 := nI_lt0 (show S < 2 ^ 31 by omega)
  have f3 : ¬ 2048 ≤ S := by omega
  have hm := tmk_lt (F := nWW N S0 a0) (S := S) hn
  refine zsem_eq (Nat.le_of_ble_eq_true rfl) (zTo_of gX4_begun_0 ?_)
  simp only [k0, p0, k1, f1, f2, f3, bl, q_has (show tmk (nWW N S0 a0) (N 0) S < 2 ^ 31 by omega) (show a < 32 by omega), zb_0, tmk_bit, ha, decide_true, Bool.true_and, zmp_s, zlt_s, zcV_s, zcI_s, zcJ_s, zcA_s, zcD_s, zcF_s, zth_n, zth_t, zrt_s, zQ_l, zQ_r, false_or, or_false, not_false_eq_true, not_true_eq_false, and_self, true_and, and_true, if_true, if_false, ite_true, ite_false, zgd_t]
  unfold nTB
  by_cases e : 0 < nWW N S0 a0 S a
  · have c1 := nI_clamp (show S * 11 + a < 2 ^ 31 by omega)
    have c2 := nI_lt0 (show S * 11 + a < 2 ^ 31 by omega)
    have c3 : ¬ 22528 ≤ S * 11 + a := by omega
    simp only [e, decide_true, Bool.true_eq_false, false_or, or_false, not_false_eq_true, not_true_eq_false, and_self, true_and, and_true, if_true, if_false, ite_true, ite_false, zmp_s, zlt_s, zcV_s, zcI_s, zcJ_s, zcA_s, zcD_s, zcF_s, zth_n, zth_t, zrt_s, zQ_l, zQ_r, k0, p3, k4, q_cell, c1, c2, c3, hB.2 S a hs ha e, zgd_t]
  · simp only [e, decide_false, false_or, or_false, not_false_eq_true, not_true_eq_false, and_self, true_and, and_true, if_true, if_false, ite_true, ite_false, zmp_s, zlt_s, zcV_s, zcI_s, zcJ_s, zcA_s, zcD_s, zcF_s, zth_n, zth_t, zrt_s, zQ_l, zQ_r]
    rfl
theorem q_walksTo {g : zm_H} {t S0 a0 S a : Nat} {N : zLv} (hT : tbS g t) (hW : WB N) (hB : TBs g t N S0 a0) (hs : S < 2 ^ N 0) (ha : a < N 0) : sX4_walksTo [.ref t, .int (nI S), .int (nI a)] g = some (.inl (some (.long (lN (nWW N S0 a0 S a)))), g) := by
  have hn := hW.1
  have hp := pow_le hn
  obtain ⟨k0, p0, p1, p2, p3, k1, k2, k3, k4⟩ := hT
  have bl : zI g (t + 1) S = nI (tmk (nWW N S0 a0) (N 0) S) := hB.2.2.1.1 _ hs
  have f1 := nI_clamp (show S < 2 ^ 31 by omega)
  have f2 := nI_lt0 (show S < 2 ^ 31 by omega)
  have f3 : ¬ 2048 ≤ S := by omega
  have hm := tmk_lt (F := nWW N S0 a0) (S := S) hn
  refine zsem_eq (Nat.le_of_ble_eq_true rfl) (zTo_of gX4_walksTo_0 ?_)
  simp only [k0, p0, k1, f1, f2, f3, bl, q_has (show tmk (nWW N S0 a0) (N 0) S < 2 ^ 31 by omega) (show a < 32 by omega), zb_0, tmk_bit, ha, decide_true, Bool.true_and, zmp_s, zlt_s, zcV_s, zcI_s, zcJ_s, zcA_s, zcD_s, zcF_s, zth_n, zth_t, zrt_s, zQ_l, zQ_r, false_or, or_false, not_false_eq_true, not_true_eq_false, and_self, true_and, and_true, if_true, if_false, ite_true, ite_false, zgd_t]
  by_cases e : 0 < nWW N S0 a0 S a
  · have c1 := nI_clamp (show S * 11 + a < 2 ^ 31 by omega)
    have c2 := nI_lt0 (show S * 11 + a < 2 ^ 31 by omega)
    have c3 : ¬ 22528 ≤ S * 11 + a := by omega
    have c4 : zJ g (t + 2) (S * 11 + a) = lN (nWW N S0 a0 S a) := hB.2.2.1.2 S a hs ha e
    simp only [e, decide_true, Bool.true_eq_false, false_or, or_false, not_false_eq_true, not_true_eq_false, and_self, true_and, and_true, if_true, if_false, ite_true, ite_false, zmp_s, zlt_s, zcV_s, zcI_s, zcJ_s, zcA_s, zcD_s, zcF_s, zth_n, zth_t, zrt_s, zQ_l, zQ_r, k0, p1, k2, q_cell, c1, c2, c3, c4, zgd_t]
  · have e0 : nWW N S0 a0 S a = 0 := by omega
    simp only [e0, Nat.lt_irrefl, decide_false, false_or, or_false, not_false_eq_true, not_true_eq_false, and_self, true_and, and_true, if_true, if_false, ite_true, ite_false, zmp_s, zlt_s, zcV_s, zcI_s, zcJ_s, zcA_s, zcD_s, zcF_s, zth_n, zth_t, zrt_s, zQ_l, zQ_r]
    rfl
theorem q_toursBy {g : zm_H} {t S0 a0 S a : Nat} {N : zLv} (hT : tbS g t) (hW : WB N) (hB : TBg g t N S0 a0) (hs : S < 2 ^ N 0) (ha : a < N 0) : sX4_toursBy [.ref t, .int (nI S), .int (nI a)] g = some (.inl (some (.long (lN (nWW N S0 a0 S a * nTT N S a)))), g) := by
  refine zsem_eq (Nat.le_of_ble_eq_true rfl) (zTo_of gX4_toursBy_0 ?_)
  have k0 := hT.1
  simp only [k0, q_walksTo hT hW hB.1 hs ha, q_begun hT hW hB hs ha, lN_mul, zmp_s, zlt_s, zcV_s, zcI_s, zcJ_s, zcA_s, zcD_s, zcF_s, zth_n, zth_t, zrt_s, zQ_l, zQ_r, zgd_t]
  have e : nWW N S0 a0 S a * nTB N S0 a0 S a = nWW N S0 a0 S a * nTT N S a := by
    unfold nTB
    split
    · rfl
    · rename_i q
      have : nWW N S0 a0 S a = 0 := by omega
      rw [this, Nat.zero_mul, Nat.zero_mul]
  rw [e]
theorem q_fullWalks {g : zm_H} {t S0 a0 : Nat} {N : zLv} (hT : tbS g t) (hW : WB N) (hB : TBs g t N S0 a0) : sX4_fullWalks [.ref t] g = some (.inl (some (.long (lN (zsu (fun r => if nme N r then nWW N S0 a0 (2 ^ N 0 - 1) r else 0) (N 0))))), g) := by
  have hn := hW.1
  have hp := pow_le hn
  have one := Nat.one_le_two_pow (n := N 0)
  have hT0 := hT
  obtain ⟨k0, p0, p1, p2, p3, k1, k2, k3, k4⟩ := hT
  obtain ⟨b4, b5, bc, bn, be⟩ := hB
  have hm := nmask_lt (fun r => decide (0 < nW (nnx N) (N 0) S0 a0 (2 ^ N 0 - 1) r) && nme N r) (N 0)
  refine zsem_eq (Nat.le_of_ble_eq_true rfl) (zTo_of gX4_fullWalks_0 (zTo_for (f := fun r => (4, [some (.ref t), some (.long (lN (zsu (fun r => if nme N r then nWW N S0 a0 (2 ^ N 0 - 1) r else 0) r))), none, some (.int (nI r))], [], g)) (N 0) 0 (Nat.zero_le _) (fun r _ hr => ?_) (zTo_of gX4_fullWalks_4 ?_)))
  · obtain ⟨f1, f2, f3, f4⟩ := nI_for hr (by omega)
    simp only [gX4_fullWalks_4, k0, b4, b5, be, f1, f4, q_has (show nmask (fun r => decide (0 < nW (nnx N) (N 0) S0 a0 (2 ^ N 0 - 1) r) && nme N r) (N 0) < 2 ^ 31 by omega) (show r < 32 by omega), zb_0, nmask_bit, hr, decide_true, Bool.true_and, q_walksTo hT0 hW ⟨b4, b5, bc, bn, be⟩ (show 2 ^ N 0 - 1 < 2 ^ N 0 by omega) hr, lN_add, zsu_s, zmp_s, zlt_s, zcV_s, zcI_s, zcJ_s, zcA_s, zcD_s, zcF_s, zth_n, zth_t, zrt_s, zQ_l, zQ_r, false_or, or_false, not_false_eq_true, not_true_eq_false, and_self, true_and, and_true, if_true, if_false, ite_true, ite_false, zgd_t]
    by_cases e : 0 < nW (nnx N) (N 0) S0 a0 (2 ^ N 0 - 1) r
    · by_cases w : nme N r = true
      · simp [e, w]
      · simp [w]
    · have e0 : nWW N S0 a0 (2 ^ N 0 - 1) r = 0 := by unfold nWW; omega
      simp [e, e0]
  · simp only [k0, b4, nI_le (Nat.le_refl _) (show N 0 < 2 ^ 31 by omega), zmp_s, zlt_s, zcV_s, zcI_s, zcJ_s, zcA_s, zcD_s, zcF_s, zth_n, zth_t, zrt_s, zQ_l, zQ_r, false_or, or_false, not_false_eq_true, not_true_eq_false, and_self, true_and, and_true, if_true, if_false, ite_true, ite_false, zgd_t]
end ZTO

