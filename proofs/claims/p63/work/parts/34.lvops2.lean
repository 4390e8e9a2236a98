/-! A LEVEL OF THE CLASS: doors dropped, steps, the walk cut, rooms and doors added. -/
section ZLP
/-- doors behind door d moved up by one, as far as place t -/
def nMv (N : zLv) (d t : Nat) : zLv := fun k => if 49 + 5 * d ≤ k ∧ k < 49 + 5 * t then N (k + 5) else N k
def nDrop (N : zLv) (d : Nat) : zLv := zput (nMv N d (N 1 - 1)) 1 (N 1 - 1)
theorem nMv_lo {N : zLv} {d t k : Nat} (h : k < 49) : nMv N d t k = N k := if_neg (by omega)
theorem nMv_self {N : zLv} {d : Nat} : nMv N d d = N := by
  funext k; exact if_neg (by omega)
theorem nMv_step {N : zLv} {d t : Nat} (h : d ≤ t) : zput (zput (zput (zput (zput (nMv N d t) (49 + 5 * t) (N (49 + 5 * (t + 1)))) (50 + 5 * t) (N (50 + 5 * (t + 1)))) (53 + 5 * t) (N (53 + 5 * (t + 1)))) (51 + 5 * t) (N (51 + 5 * (t + 1)))) (52 + 5 * t) (N (52 + 5 * (t + 1))) = nMv N d (t + 1) := by
  funext k
  unfold zput nMv
  by_cases e1 : k = 52 + 5 * t
  · rw [if_pos e1, if_pos (by omega), e1, show 52 + 5 * t + 5 = 52 + 5 * (t + 1) by omega]
  rw [if_neg e1]
  by_cases e2 : k = 51 + 5 * t
  · rw [if_pos e2, if_pos (by omega), e2, show 51 + 5 * t + 5 = 51 + 5 * (t + 1) by omega]
  rw [if_neg e2]
  by_cases e3 : k = 53 + 5 * t
  · rw [if_pos e3, if_pos (by omega), e3, show 53 + 5 * t + 5 = 53 + 5 * (t + 1) by omega]
  rw [if_neg e3]
  by_cases e4 : k = 50 + 5 * t
  · rw [if_pos e4, if_pos (by omega), e4, show 50 + 5 * t + 5 = 50 + 5 * (t + 1) by omega]
  rw [if_neg e4]
  by_cases e5 : k = 49 + 5 * t
  · rw [if_pos e5, if_pos (by omega), e5, show 49 + 5 * t + 5 = 49 + 5 * (t + 1) by omega]
  rw [if_neg e5]
  by_cases e6 : 49 + 5 * d ≤ k ∧ k < 49 + 5 * t
  · rw [if_pos e6, if_pos (by omega)]
  · rw [if_neg e6, if_neg (by omega)]
theorem zbz {N : zLv} {i x : Nat} (hb : N 0 ≤ 11 ∧ N 4 ≤ 11) (hi : 5 ≤ i) : zput N i x 0 ≤ 11 ∧ zput N i x 4 ≤ 11 := by
  rw [zput_ne _ _ (by omega), zput_ne _ _ (by omega)]; exact hb
theorem q_dropDoor {h : zm_H} {a d : Nat} {N : zLv} (hS : lvS h a) (hL : KL h a N) (hN : N 0 ≤ 11 ∧ N 1 ≤ 20 ∧ N 4 ≤ 11) (hd : d < N 1) (hw : ∀ i, i < N 1 → N (53 + 5 * i) ≤ 1) (ho : lvO h a) :
    ∃ g, sX2_dropDoor [.ref a, .int (nI d)] h = some (.inl none, g) ∧ zFr (lvA a) h g ∧ KL g a (nDrop N d) ∧ lvO g a := by
  have hS0 := hS
  obtain ⟨k0, p1, p2, p3, p5, p6, p7, p8, p9, p12, p14, k1, k2, k3, k4, k5, k6, k7, k8, k9, k10⟩ := hS
  obtain ⟨R, hR⟩ : ∃ R : zm_O → Prop, R = (fun o => ∃ g, o = (.inl none, g) ∧ zFr (lvA a) h g ∧ KL g a (nDrop N d) ∧ lvO g a) := ⟨_, rfl⟩
  have key : ∀ n t g, t + n = N 1 - 1 → d ≤ t → zFr (lvA a) h g → KL g a (nMv N d t) → lvO g a → zTo vX2_dropDoor rX2_dropDoor (2, [some (.ref a), none, some (.int (nI t))], [], g) R := by
    intro n
    induction n with
    | zero =>
      intro t g ht hdt fr hL ho
      have ht : t = N 1 - 1 := by omega
      have K := fr.K
      have P := fr.P
      have l1 := hL.2.1
      rw [nMv_lo (by omega)] at l1
      have e1 : nI t + (1 : Int32) = nI (N 1) := by rw [nI_1]; congr 1; omega
      have e2 : nI (N 1) - (1 : Int32) = nI (N 1 - 1) := pk_sub (b := 1) (show 1 ≤ N 1 by omega)
      refine zTo_of gX2_dropDoor_2 ?_
      simp only [K, k0, l1, e1, e2, nI_le (Nat.le_refl _) (show N 1 < 2 ^ 31 by omega), zgd_t, zmp_s, zlt_s, zcV_s, zcI_s, zcJ_s, zcA_s, zcD_s, zcF_s, zth_n, zth_t, zrt_s, zQ_l, zQ_r, false_or, or_false, not_false_eq_true, not_true_eq_false, and_self, true_and, and_true, if_true, if_false, ite_true, ite_false]
      rw [hR]
      refine ⟨_, rfl, fr.tr (zFr.sI ⟨by omega, by omega⟩), ?_, lvO_fr (A := fun c => c = a) (zFr.sI rfl) (by omega) ho⟩
      have c := KL_doors_dn hL (N 1 - 1) (by rw [nMv_lo (by omega)]; omega)
      unfold nDrop
      rw [← ht] at c ⊢
      exact c
    | succ n ih =>
      intro t g ht hdt fr hL ho
      have K := fr.K
      have P := fr.P
      have hL0 := hL
      obtain ⟨l0, l1, l2, l3, l4, ln, lk, lc, lf, lt, ld, lb, lo, lw⟩ := hL
      have n1 : nMv N d t 1 = N 1 := nMv_lo (by omega)
      have n0 : nMv N d t 0 = N 0 := nMv_lo (by omega)
      have n4 : nMv N d t 4 = N 4 := nMv_lo (by omega)
      rw [n1] at l1 lf lt ld lb lo
      obtain ⟨f1, f2, f3, f4⟩ := nI_for (show t + 1 < N 1 by omega) (by omega)
      obtain ⟨g1, g2, g3, g4⟩ := nI_for (show t < N 1 by omega) (by omega)
      have f5 : ¬ 20 ≤ t + 1 := by omega
      have f6 : ¬ 20 ≤ t := by omega
      have up : ∀ j, nMv N d t (j + 5 * (t + 1) + 49) = N (j + 5 * (t + 1) + 49) := fun j => if_neg (by omega)
      have u9 : nMv N d t (49 + 5 * (t + 1)) = N (49 + 5 * (t + 1)) := if_neg (by omega)
      have u0 : nMv N d t (50 + 5 * (t + 1)) = N (50 + 5 * (t + 1)) := if_neg (by omega)
      have u1 : nMv N d t (51 + 5 * (t + 1)) = N (51 + 5 * (t + 1)) := if_neg (by omega)
      have u2 : nMv N d t (52 + 5 * (t + 1)) = N (52 + 5 * (t + 1)) := if_neg (by omega)
      have u3 : nMv N d t (53 + 5 * (t + 1)) = N (53 + 5 * (t + 1)) := if_neg (by omega)
      have v9 := lf (t + 1) (by omega)
      have v0 := lt (t + 1) (by omega)
      have v1 := ld (t + 1) (by omega)
      have v2 := lb (t + 1) (by omega)
      have v3 := lo (t + 1) (by omega)
      rw [u9] at v9; rw [u0] at v0; rw [u1] at v1; rw [u2] at v2; rw [u3] at v3
      have ow : nI (N (53 + 5 * (t + 1))) = 0 ∨ nI (N (53 + 5 * (t + 1))) = 1 := by
        have := hw (t + 1) (by omega)
        rcases Nat.le_one_iff_eq_zero_or_eq_one.mp this with q | q <;> rw [q]
        · exact Or.inl rfl
        · exact Or.inr rfl
      have hb : nMv N d t 0 ≤ 11 ∧ nMv N d t 4 ≤ 11 := by rw [n0, n4]; exact ⟨hN.1, hN.2.2⟩
      have c1 := KL_from hL0 hb t (N (49 + 5 * (t + 1)))
      have hb1 := zbz (i := 49 + 5 * t) (x := N (49 + 5 * (t + 1))) hb (by omega)
      have c2 := KL_to c1 hb1 t (N (50 + 5 * (t + 1)))
      have hb2 := zbz (i := 50 + 5 * t) (x := N (50 + 5 * (t + 1))) hb1 (by omega)
      have c3 := KL_ow c2 hb2 t (N (53 + 5 * (t + 1)))
      have hb3 := zbz (i := 53 + 5 * t) (x := N (53 + 5 * (t + 1))) hb2 (by omega)
      have c4 := KL_kind c3 hb3 t (N (51 + 5 * (t + 1)))
      have hb4 := zbz (i := 51 + 5 * t) (x := N (51 + 5 * (t + 1))) hb3 (by omega)
      have c5 := KL_num c4 hb4 t (N (52 + 5 * (t + 1)))
      rw [nMv_step hdt] at c5
      have hSg : lvS (zsI (zsI (zsI g (a + 4) t (nI (N (49 + 5 * (t + 1))))) (a + 5) t (nI (N (50 + 5 * (t + 1))))) (a + 8) t (nI (N (53 + 5 * (t + 1))))) a := lvS_kp (by simp only [K_sI, K_sJ, K_sD, K_sP, K_rI, K_rJ, P_sI, P_sJ, P_sD, P_rI, P_rJ, N_sI, N_sJ, N_sD, N_sP, N_rI, N_rJ, J_sI, J_sD, J_sP, J_rI, I_sJ, I_sD, I_sP, I_rJ, D_sI, D_sJ, D_sP, D_rI, D_rJ]; exact K) (by simp only [K_sI, K_sJ, K_sD, K_sP, K_rI, K_rJ, P_sI, P_sJ, P_sD, P_rI, P_rJ, N_sI, N_sJ, N_sD, N_sP, N_rI, N_rJ, J_sI, J_sD, J_sP, J_rI, I_sJ, I_sD, I_sP, I_rJ, D_sI, D_sJ, D_sP, D_rI, D_rJ]; exact P) hS0
      refine zTo_of gX2_dropDoor_2 ?_
      have r5 : zI (zsI g (a + 4) t (nI (N (49 + 5 * (t + 1))))) (a + 5) = zI g (a + 5) := I_sIn (by omega)
      have r8 : zI (zsI (zsI g (a + 4) t (nI (N (49 + 5 * (t + 1))))) (a + 5) t (nI (N (50 + 5 * (t + 1))))) (a + 8) = zI g (a + 8) := by rw [I_sIn (by omega), I_sIn (by omega)]
      have r6 : zI (zsI (zsI (zsI g (a + 4) t (nI (N (49 + 5 * (t + 1))))) (a + 5) t (nI (N (50 + 5 * (t + 1))))) (a + 8) t (nI (N (53 + 5 * (t + 1))))) (a + 6) = zI g (a + 6) := by rw [I_sIn (by omega), I_sIn (by omega), I_sIn (by omega)]
      have r7 : zI (zsI (zsI (zsI g (a + 4) t (nI (N (49 + 5 * (t + 1))))) (a + 5) t (nI (N (50 + 5 * (t + 1))))) (a + 8) t (nI (N (53 + 5 * (t + 1))))) (a + 7) = zI g (a + 7) := by rw [I_sIn (by omega), I_sIn (by omega), I_sIn (by omega)]
      simp only [K, P, k0, l1, g4, f1, f2, f3, g2, g3, f5, f6, p5, k4, p6, k5, p7, k6, p8, k7, p9, k8, v9, zmp_s, zlt_s, zcV_s, zcI_s, zcJ_s, zcA_s, zcD_s, zcF_s, zth_n, zth_t, zrt_s, zQ_l, zQ_r, false_or, or_false, not_false_eq_true, not_true_eq_false, and_self, true_and, and_true, if_true, if_false, ite_true, ite_false, K_sI, K_sJ, K_sD, K_sP, K_rI, K_rJ, P_sI, P_sJ, P_sD, P_rI, P_rJ, N_sI, N_sJ, N_sD, N_sP, N_rI, N_rJ, J_sI, J_sD, J_sP, J_rI, I_sJ, I_sD, I_sP, I_rJ, D_sI, D_sJ, D_sP, D_rI, D_rJ, zgd_t]
      simp only [r5, v0, K, P, k0, p9, k8, f2, f3, g2, g3, f5, f6, zmp_s, zlt_s, zcV_s, zcI_s, zcJ_s, zcA_s, zcD_s, zcF_s, zth_n, zth_t, zrt_s, zQ_l, zQ_r, false_or, or_false, not_false_eq_true, not_true_eq_false, and_self, true_and, and_true, if_true, if_false, ite_true, ite_false, K_sI, K_sJ, K_sD, K_sP, K_rI, K_rJ, P_sI, P_sJ, P_sD, P_rI, P_rJ, N_sI, N_sJ, N_sD, N_sP, N_rI, N_rJ, J_sI, J_sD, J_sP, J_rI, I_sJ, I_sD, I_sP, I_rJ, D_sI, D_sJ, D_sP, D_rI, D_rJ, zgd_t]
      simp only [r8, v3, ow, K, P, k0, p9, k8, f2, f3, g2, g3, f5, f6, zmp_s, zlt_s, zcV_s, zcI_s, zcJ_s, zcA_s, zcD_s, zcF_s, zth_n, zth_t, zrt_s, zQ_l, zQ_r, false_or, or_false, not_false_eq_true, not_true_eq_false, and_self, true_and, and_true, if_true, if_false, ite_true, ite_false, K_sI, K_sJ, K_sD, K_sP, K_rI, K_rJ, P_sI, P_sJ, P_sD, P_rI, P_rJ, N_sI, N_sJ, N_sD, N_sP, N_rI, N_rJ, J_sI, J_sD, J_sP, J_rI, I_sJ, I_sD, I_sP, I_rJ, D_sI, D_sJ, D_sP, D_rI, D_rJ, zgd_t]
      simp only [r6, r7, v1, v2, K, P, k0, p7, k6, p8, k7, f2, f3, f5, zmp_s, zlt_s, zcV_s, zcI_s, zcJ_s, zcA_s, zcD_s, zcF_s, zth_n, zth_t, zrt_s, zQ_l, zQ_r, false_or, or_false, not_false_eq_true, not_true_eq_false, and_self, true_and, and_true, if_true, if_false, ite_true, ite_false, K_sI, K_sJ, K_sD, K_sP, K_rI, K_rJ, P_sI, P_sJ, P_sD, P_rI, P_rJ, N_sI, N_sJ, N_sD, N_sP, N_rI, N_rJ, J_sI, J_sD, J_sP, J_rI, I_sJ, I_sD, I_sP, I_rJ, D_sI, D_sJ, D_sP, D_rI, D_rJ, zgd_t, q_lock hSg (show t < 20 by omega)]
      refine ih (t + 1) _ (by omega) (by omega) ?_ c5 ?_
      · exact ((((fr.tr (zFr.sI ⟨by omega, by omega⟩)).tr (zFr.sI ⟨by omega, by omega⟩)).tr (zFr.sI ⟨by omega, by omega⟩)).tr (zFr.sI ⟨by omega, by omega⟩)).tr (zFr.sI ⟨by omega, by omega⟩)
      · intro i hi
        rw [I_sIn (by omega), I_sIn (by omega), I_sIs, I_sIn (by omega), I_sIn (by omega)]
        unfold zput
        split
        · exact ow
        · exact ho i hi
  have hsim : zW (sX2_dropDoor [.ref a, .int (nI d)] h) R := zsem_to (Nat.le_of_ble_eq_true rfl) (zTo_of gX2_dropDoor_0 (key (N 1 - 1 - d) d h (by omega) (Nat.le_refl _) zFr.rf (by rw [nMv_self]; exact hL) ho))
  rw [hR] at hsim
  obtain ⟨o, h1, g, rfl, h2⟩ := hsim
  exact ⟨g, h1, h2⟩
/-- the rooms to which room r leads with what is found in S -/
def ndstep (N : zLv) (S r d acc : Nat) : Nat := if nopen N d (nkeys N S) (ncoins N S) then (if N (53 + 5 * d) = 0 ∧ N (50 + 5 * d) = r then (if N (49 + 5 * d) = r then acc ||| 2 ^ N (50 + 5 * d) else acc) ||| 2 ^ N (49 + 5 * d) else (if N (49 + 5 * d) = r then acc ||| 2 ^ N (50 + 5 * d) else acc)) else acc
def nld (N : zLv) (S r : Nat) : Nat := zfo (ndstep N S r) 0 (N 1)
def ndgo (N : zLv) (d r b : Nat) : Bool := (decide (N (49 + 5 * d) = r) && decide (N (50 + 5 * d) = b)) || (decide (N (53 + 5 * d) = 0) && decide (N (50 + 5 * d) = r) && decide (N (49 + 5 * d) = b))
theorem nld_bit (N : zLv) (S r b : Nat) : ∀ n, (zfo (ndstep N S r) 0 n).testBit b = nany (fun d => nopen N d (nkeys N S) (ncoins N S) && ndgo N d r b) n := by
  intro n
  induction n with
  | zero => simp [zfo, nany]
  | succ n ih =>
    rw [zfo_s, nany, ← ih]
    generalize zfo (ndstep N S r) 0 n = z
    unfold ndstep ndgo
    cases nopen N n (nkeys N S) (ncoins N S)
    · simp
    · by_cases e1 : N (49 + 5 * n) = r
      · by_cases e2 : N (50 + 5 * n) = r
        · by_cases e3 : N (53 + 5 * n) = 0
          · simp [e1, e2, e3, Nat.testBit_or, Nat.testBit_two_pow]
          · simp [e1, e2, e3, Nat.testBit_or, Nat.testBit_two_pow]
        · simp [e1, e2, Nat.testBit_or, Nat.testBit_two_pow]
      · by_cases e2 : N (50 + 5 * n) = r
        · by_cases e3 : N (53 + 5 * n) = 0
          · simp [e1, e2, e3, Nat.testBit_or, Nat.testBit_two_pow]
          · simp [e1, e2, e3]
        · simp [e1, e2]
/-- the row that is filled -/
def nldF (N : zLv) (S : Nat) (f : Nat → Int32) (d : Nat) : Nat → Int32 := fun r => if r < 11 then nI (zfo (ndstep N S r) 0 d) else f r
theorem q_leads {h : zm_H} {a : Nat} {N : zLv} {S : Nat} (hS : lvS h a) (hL : KL h a N) (hW : WB N) (hs : S < 2 ^ 31) (hK : nkeys N S < 2 ^ 31) (hC : ncoins N S < 2 ^ 31) : sX2_leads [.ref a, .int (nI S)] h = some (.inl (some (.ref (a + 10))), zrI h (a + 10) (nldF N S (zI h (a + 10)) (N 1))) := by
  have hS0 := hS
  have hL0 := hL
  have hW0 := hW
  obtain ⟨w0, w1, w4, wr, wd, ww⟩ := hW
  obtain ⟨k0, p1, p2, p3, p5, p6, p7, p8, p9, p12, p14, k1, k2, k3, k4, k5, k6, k7, k8, k9, k10⟩ := hS
  obtain ⟨l0, l1, l2, l3, l4, ln, lk, lc, lf, lt, ld, lb, lo, lw⟩ := hL
  refine zsem_eq (Nat.le_of_ble_eq_true rfl) (zTo_of gX2_leads_0 ?_)
  simp only [k0, p14, zgd_t, q_keysIn hS0 hL0 w0 hs, q_coinsIn hS0 hL0 w0 hs, q_fill k10 (show 11 < 2 ^ 31 by omega), zmp_s, zlt_s, zcV_s, zcI_s, zcJ_s, zcA_s, zcD_s, zcF_s, zth_n, zth_t, zrt_s, zQ_l, zQ_r]
  have z := zTo_for (env := vX2_leads) (rows := rX2_leads) (R := fun y => y = (.inl (some (.ref (a + 10))), zrI h (a + 10) (nldF N S (zI h (a + 10)) (N 1)))) (f := fun d => (14, [some (.ref a), none, some (.int (nI (nkeys N S))), some (.int (nI (ncoins N S))), some (.int (nI d))], [], zrI h (a + 10) (nldF N S (zI h (a + 10)) d))) (N 1) 0 (Nat.zero_le _) (fun d _ hd => by
    obtain ⟨f1, f2, f3, f4⟩ := nI_for hd (by omega)
    have f5 : ¬ 20 ≤ d := by omega
    obtain ⟨d1, d2, d3, d4, d5, d6, d7⟩ := wd d hd
    have hSg : lvS (zrI h (a + 10) (nldF N S (zI h (a + 10)) d)) a := lvS_kp rfl rfl hS0
    have hLg : KL (zrI h (a + 10) (nldF N S (zI h (a + 10)) d)) a N := KL_fr (A := fun c => c = a + 10) (zFr.rI rfl) (fun i hi => by omega) hL0
    have r0 : zI (zrI h (a + 10) (nldF N S (zI h (a + 10)) d)) a = zI h a := I_rIn (by omega)
    have r4 : zI (zrI h (a + 10) (nldF N S (zI h (a + 10)) d)) (a + 4) = zI h (a + 4) := I_rIn (by omega)
    have r5 : zI (zrI h (a + 10) (nldF N S (zI h (a + 10)) d)) (a + 5) = zI h (a + 5) := I_rIn (by omega)
    have r8 : zI (zrI h (a + 10) (nldF N S (zI h (a + 10)) d)) (a + 8) = zI h (a + 8) := I_rIn (by omega)
    have g1 := nI_clamp (show N (49 + 5 * d) < 2 ^ 31 by omega)
    have g2 := nI_clamp (show N (50 + 5 * d) < 2 ^ 31 by omega)
    have g3 := nI_lt0 (show N (49 + 5 * d) < 2 ^ 31 by omega)
    have g4 := nI_lt0 (show N (50 + 5 * d) < 2 ^ 31 by omega)
    have g5 : ¬ 11 ≤ N (49 + 5 * d) := by omega
    have g6 : ¬ 11 ≤ N (50 + 5 * d) := by omega
    have o0 := nI_eq0 (show N (53 + 5 * d) < 2 ^ 31 by omega)
    rw [gX2_leads_14]
    simp only [K_sI, K_sJ, K_sD, K_sP, K_rI, K_rJ, P_sI, P_sJ, P_sD, P_rI, P_rJ, N_sI, N_sJ, N_sD, N_sP, N_rI, N_rJ, J_sI, J_sD, J_sP, J_rI, I_sJ, I_sD, I_sP, I_rJ, D_sI, D_sJ, D_sP, D_rI, D_rJ, k0, r0, l1, f1, f4, q_opens hSg hLg hW0 hd hK hC, zb_0, zmp_s, zlt_s, zcV_s, zcI_s, zcJ_s, zcA_s, zcD_s, zcF_s, zth_n, zth_t, zrt_s, zQ_l, zQ_r, false_or, or_false, not_false_eq_true, not_true_eq_false, and_self, true_and, and_true, if_true, if_false, ite_true, ite_false, zgd_t]
    cases eo : nopen N d (nkeys N S) (ncoins N S)
    · simp only [false_or, or_false, not_false_eq_true, not_true_eq_false, and_self, true_and, and_true, if_true, if_false, ite_true, ite_false]
      congr 6
      funext r
      unfold nldF
      split
      · rw [zfo_s]; unfold ndstep; rw [eo]; rfl
      · rfl
    · simp only [K_sI, K_sJ, K_sD, K_sP, K_rI, K_rJ, P_sI, P_sJ, P_sD, P_rI, P_rJ, N_sI, N_sJ, N_sD, N_sP, N_rI, N_rJ, J_sI, J_sD, J_sP, J_rI, I_sJ, I_sD, I_sP, I_rJ, D_sI, D_sJ, D_sP, D_rI, D_rJ, Bool.true_eq_false, false_or, or_false, not_false_eq_true, not_true_eq_false, and_self, true_and, and_true, if_true, if_false, ite_true, ite_false, k0, p14, p5, k4, p6, k5, p9, k8, k10, f2, f3, f5, r4, r5, lf d hd, lt d hd, g1, g2, g3, g4, g5, g6, zmp_s, zlt_s, zcV_s, zcI_s, zcJ_s, zcA_s, zcD_s, zcF_s, zth_n, zth_t, zrt_s, zQ_l, zQ_r, zgd_t, nx_shl1 (show N (50 + 5 * d) < 32 by omega), nx_shl1 (show N (49 + 5 * d) < 32 by omega)]
      have s4 : ∀ i x, zI (zsI (zrI h (a + 10) (nldF N S (zI h (a + 10)) d)) (a + 10) i x) (a + 4) = zI h (a + 4) := fun i x => by rw [I_sIn (by omega), r4]
      have s5 : ∀ i x, zI (zsI (zrI h (a + 10) (nldF N S (zI h (a + 10)) d)) (a + 10) i x) (a + 5) = zI h (a + 5) := fun i x => by rw [I_sIn (by omega), r5]
      have s8 : ∀ i x, zI (zsI (zrI h (a + 10) (nldF N S (zI h (a + 10)) d)) (a + 10) i x) (a + 8) = zI h (a + 8) := fun i x => by rw [I_sIn (by omega), r8]
      have t1 : zI (zrI h (a + 10) (nldF N S (zI h (a + 10)) d)) (a + 10) (N (49 + 5 * d)) = nI (zfo (ndstep N S (N (49 + 5 * d))) 0 d) := by rw [I_rIs]; exact if_pos (by omega)
      simp only [s4, s5, s8, lo d hd, lf d hd, lt d hd, o0, t1, nx_or, f2, f3, f5, g1, g2, g3, g4, g5, g6, false_or, or_false, not_false_eq_true, not_true_eq_false, and_self, true_and, and_true, if_true, if_false, ite_true, ite_false, zgd_t, nx_shl1 (show N (49 + 5 * d) < 32 by omega)]
      by_cases e0 : N (53 + 5 * d) = 0
      · simp only [e0, false_or, or_false, not_false_eq_true, not_true_eq_false, and_self, true_and, and_true, if_true, if_false, ite_true, ite_false]
        congr 6
        rw [I_sIs, zput_ne _ _ (show N (50 + 5 * d) ≠ N (49 + 5 * d) by omega)]
        have t2 : zI (zrI h (a + 10) (nldF N S (zI h (a + 10)) d)) (a + 10) (N (50 + 5 * d)) = nI (zfo (ndstep N S (N (50 + 5 * d))) 0 d) := by rw [I_rIs]; exact if_pos (by omega)
        rw [t2, nx_or, sI_rI, I_sIs, sI_rI, rI_rI, rI_rI, I_rIs]
        congr 1
        funext r
        unfold zput nldF
        by_cases q1 : r = N (50 + 5 * d)
        · rw [if_pos q1, if_pos (by omega), zfo_s]
          unfold ndstep
          rw [eo, if_pos rfl, if_pos ⟨e0, q1.symm⟩, if_neg (by omega), q1]
        · rw [if_neg q1]
          by_cases q2 : r = N (49 + 5 * d)
          · rw [if_pos q2, if_pos (by omega), zfo_s]
            unfold ndstep
            rw [eo, if_pos rfl, if_neg (by omega), if_pos q2.symm, q2]
          · rw [if_neg q2]
            split
            · rw [zfo_s]
              unfold ndstep
              rw [eo, if_pos rfl, if_neg (by omega), if_neg (by omega)]
            · rfl
      · simp only [e0, false_or, or_false, not_false_eq_true, not_true_eq_false, and_self, true_and, and_true, if_true, if_false, ite_true, ite_false]
        congr 6
        rw [sI_rI, rI_rI, I_rIs]
        congr 1
        funext r
        unfold zput nldF
        by_cases q2 : r = N (49 + 5 * d)
        · rw [if_pos q2, if_pos (by omega), zfo_s]
          unfold ndstep
          rw [eo, if_pos rfl, if_neg (by omega), if_pos q2.symm, q2]
        · rw [if_neg q2]
          split
          · rw [zfo_s]
            unfold ndstep
            rw [eo, if_pos rfl, if_neg (by omega), if_neg (by omega)]
          · rfl) (zTo_of gX2_leads_14 (by
      have r0 : zI (zrI h (a + 10) (nldF N S (zI h (a + 10)) (N 1))) a = zI h a := I_rIn (by omega)
      simp only [K_sI, K_sJ, K_sD, K_sP, K_rI, K_rJ, P_sI, P_sJ, P_sD, P_rI, P_rJ, N_sI, N_sJ, N_sD, N_sP, N_rI, N_rJ, J_sI, J_sD, J_sP, J_rI, I_sJ, I_sD, I_sP, I_rJ, D_sI, D_sJ, D_sP, D_rI, D_rJ, k0, r0, l1, p14, nI_le (Nat.le_refl _) (show N 1 < 2 ^ 31 by omega), zmp_s, zlt_s, zcV_s, zcI_s, zcJ_s, zcA_s, zcD_s, zcF_s, zth_n, zth_t, zrt_s, zQ_l, zQ_r, false_or, or_false, not_false_eq_true, not_true_eq_false, and_self, true_and, and_true, if_true, if_false, ite_true, ite_false, zgd_t]))
  have e : zrI h (a + 10) (nldF N S (zI h (a + 10)) 0) = zrI h (a + 10) (fun i => if i < 11 then 0 else zI h (a + 10) i) := rfl
  rw [e] at z
  exact z
end ZLP

