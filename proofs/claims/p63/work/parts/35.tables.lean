/-! THE TABLES OF THE CLASS: walks counted forwards. -/
section ZTB
def tbS (h : zm_H) (t : Nat) : Prop := zK h t = (10, 7) ∧ zP h t 0 = some (t + 1) ∧ zP h t 1 = some (t + 2) ∧ zP h t 2 = some (t + 3) ∧ zP h t 3 = some (t + 4) ∧ zK h (t + 1) = (0, 2048) ∧ zK h (t + 2) = (1, 22528) ∧ zK h (t + 3) = (0, 22528) ∧ zK h (t + 4) = (1, 22528)
theorem tbS_kp {h h2 : zm_H} {a : Nat} (k : zK h2 = zK h) (p : zP h2 = zP h) (hS : tbS h a) : tbS h2 a := by
  unfold tbS; rw [k, p]; exact hS
theorem q_cell {S b : Nat} (h : zm_H) : sX4_cell [.int (nI S), .int (nI b)] h = some (.inl (some (.int (nI (S * 11 + b)))), h) := by
  refine zsem_eq (Nat.le_of_ble_eq_true rfl) (zTo_of gX4_cell_0 ?_)
  have e : nI S * (11 : Int32) + nI b = nI (S * 11 + b) := by
    show nI S * nI 11 + nI b = _
    rw [pk_mul, nI_add]
  simp only [e, zmp_s, zlt_s, zcV_s, zcI_s, zcJ_s, zcA_s, zcD_s, zcF_s, zth_n, zth_t, zrt_s, zQ_l, zQ_r]
/-- the last rooms, as a mask -/
def tmk (F : Nat → Nat → Nat) (n S : Nat) : Nat := nmask (fun b => decide (0 < F S b)) n
def CN (h : zm_H) (t n : Nat) (F : Nat → Nat → Nat) : Prop := (∀ S, S < 2 ^ n → zI h (t + 1) S = nI (tmk F n S)) ∧ ∀ S b, S < 2 ^ n → b < n → 0 < F S b → zJ h (t + 2) (S * 11 + b) = lN (F S b)
theorem pow_le {n : Nat} (hn : n ≤ 11) : 2 ^ n ≤ 2048 := Nat.pow_le_pow_right (by omega) hn
theorem tmk_lt {F : Nat → Nat → Nat} {n S : Nat} (hn : n ≤ 11) : tmk F n S < 2048 := Nat.lt_of_lt_of_le (nmask_lt _ n) (pow_le hn)
theorem tmk_bit {F : Nat → Nat → Nat} {n S b : Nat} : (tmk F n S).testBit b = (decide (b < n) && decide (0 < F S b)) := nmask_bit _ n b
theorem CN_congr {h : zm_H} {t n : Nat} {F G : Nat → Nat → Nat} (hC : CN h t n F) (e : ∀ S b, S < 2 ^ n → b < n → G S b = F S b) : CN h t n G := by
  refine ⟨fun S hS => ?_, fun S b hS hb hp => ?_⟩
  · rw [hC.1 S hS]
    congr 1
    apply nat_ext; intro i
    rw [tmk_bit, tmk_bit]
    by_cases hi : i < n
    · rw [e S i hS hi]
    · simp [hi]
  · rw [e S b hS hb] at hp ⊢
    exact hC.2 S b hS hb hp
def tadd (F : Nat → Nat → Nat) (S b c : Nat) : Nat → Nat → Nat := fun S' b' => if S' = S ∧ b' = b then F S b + c else F S' b'
def tgo (h : zm_H) (t n : Nat) (F : Nat → Nat → Nat) (S b c : Nat) : zm_H := zsI (zsJ h (t + 2) (S * 11 + b) (lN (c + F S b))) (t + 1) S (nI (tmk F n S ||| 2 ^ b))
theorem q_addWalks {h : zm_H} {t n S b c : Nat} {F : Nat → Nat → Nat} (hS : tbS h t) (hn : n ≤ 11) (hC : CN h t n F) (hs : S < 2 ^ n) (hb : b < n) : sX4_addWalks [.ref t, .int (nI S), .int (nI b), .long (lN c)] h = some (.inl none, tgo h t n F S b c) := by
  obtain ⟨k0, p0, p1, p2, p3, k1, k2, k3, k4⟩ := hS
  have hp := pow_le hn
  have hm := tmk_lt (F := F) (S := S) hn
  have hc := hC.1 S hs
  have f1 := nI_clamp (show S < 2 ^ 31 by omega)
  have f2 := nI_lt0 (show S < 2 ^ 31 by omega)
  have f3 : ¬ 2048 ≤ S := by omega
  have g1 := nI_clamp (show S * 11 + b < 2 ^ 31 by omega)
  have g2 := nI_lt0 (show S * 11 + b < 2 ^ 31 by omega)
  have g3 : ¬ 22528 ≤ S * 11 + b := by omega
  refine zsem_eq (Nat.le_of_ble_eq_true rfl) (zTo_of gX4_addWalks_0 ?_)
  simp only [q_cell, k0, p0, p1, k1, k2, f1, f2, f3, hc, q_has (show tmk F n S < 2 ^ 31 by omega) (show b < 32 by omega), zb_0, tmk_bit, g1, g2, g3, zmp_s, zlt_s, zcV_s, zcI_s, zcJ_s, zcA_s, zcD_s, zcF_s, zth_n, zth_t, zrt_s, zQ_l, zQ_r, false_or, or_false, not_false_eq_true, not_true_eq_false, and_self, true_and, and_true, if_true, if_false, ite_true, ite_false, K_sI, K_sJ, K_sD, K_sP, K_rI, K_rJ, P_sI, P_sJ, P_sD, P_rI, P_rJ, N_sI, N_sJ, N_sD, N_sP, N_rI, N_rJ, J_sI, J_sD, J_sP, J_rI, I_sJ, I_sD, I_sP, I_rJ, D_sI, D_sJ, D_sP, D_rI, D_rJ, zgd_t, hb, decide_true, Bool.true_and]
  unfold tgo
  by_cases e : 0 < F S b
  · simp only [e, decide_true, Bool.true_eq_false, false_or, or_false, not_false_eq_true, not_true_eq_false, and_self, true_and, and_true, if_true, if_false, ite_true, ite_false, nx_shl1 (show b < 32 by omega), nx_or, hC.2 S b hs hb e, lN_add, zmp_s, zlt_s, zcV_s, zcI_s, zcJ_s, zcA_s, zcD_s, zcF_s, zth_n, zth_t, zrt_s, zQ_l, zQ_r]
  · have e0 : F S b = 0 := by omega
    have e1 : lN c + (0 : Int64) = lN (c + 0) := by
      show lN c + lN 0 = _
      rw [lN_add]
    simp only [e0, Nat.lt_irrefl, decide_false, false_or, or_false, not_false_eq_true, not_true_eq_false, and_self, true_and, and_true, if_true, if_false, ite_true, ite_false, nx_shl1 (show b < 32 by omega), nx_or, e1, zmp_s, zlt_s, zcV_s, zcI_s, zcJ_s, zcA_s, zcD_s, zcF_s, zth_n, zth_t, zrt_s, zQ_l, zQ_r]
theorem CN_add {h : zm_H} {t n S b c : Nat} {F : Nat → Nat → Nat} (hn : n ≤ 11) (hC : CN h t n F) (hs : S < 2 ^ n) (hb : b < n) (hc : 0 < c) : CN (tgo h t n F S b c) t n (tadd F S b c) := by
  unfold tgo
  refine ⟨fun S' hS' => ?_, fun S' b' hS' hb' hp => ?_⟩
  · rw [I_sIs]
    by_cases e : S' = S
    · subst e
      rw [zput_self]
      congr 1
      apply nat_ext; intro i
      rw [tb_or, tmk_bit, tmk_bit]
      unfold tadd
      by_cases q : b = i
      · subst q
        have : 0 < F S' b + c := by omega
        simp [hb, this]
      · have q2 : ¬ (S' = S' ∧ i = b) := fun x => q x.2.symm
        rw [if_neg q2]
        simp [q]
    · rw [zput_ne _ _ e, I_sJ, hC.1 S' hS']
      congr 1
      apply nat_ext; intro i
      rw [tmk_bit, tmk_bit]
      unfold tadd
      rw [if_neg (fun x => e x.1)]
  · rw [J_sI, J_sJs]
    unfold tadd at hp ⊢
    by_cases e : S' = S ∧ b' = b
    · rw [if_pos e, e.1, e.2, zput_self, Nat.add_comm]
    · rw [if_neg e] at hp ⊢
      rw [zput_ne _ _ (by omega)]
      exact hC.2 S' b' hS' hb' hp
def tA (t : Nat) : Nat → Prop := fun c => t ≤ c ∧ c ≤ t + 4
theorem tgo_fr {h : zm_H} {t n S b c : Nat} {F : Nat → Nat → Nat} : zFr (fun q => q = t + 1 ∨ q = t + 2) h (tgo h t n F S b c) := (zFr.sJ (Or.inr rfl)).tr (zFr.sI (Or.inl rfl))
theorem nI_not (x s : Nat) : nI x &&& (nI s ^^^ (-1 : Int32)) = nI (x &&& (s ^^^ 4294967295)) := by
  rw [nI_m1, nx_xor, nx_and]
theorem bit_not {x s i : Nat} (hi : i < 32) : (x &&& (s ^^^ 4294967295)).testBit i = (x.testBit i && !s.testBit i) := by
  rw [Nat.testBit_and, Nat.testBit_xor, show (4294967295 : Nat) = 2 ^ 32 - 1 from rfl, tb_full]
  simp [hi]
theorem and_lt {x y n : Nat} (h : x < 2 ^ n) : x &&& y < 2 ^ n := Nat.lt_of_le_of_lt Nat.and_le_left h
theorem shr_0 {x b : Nat} : x >>> b = 0 ↔ ∀ i, b ≤ i → x.testBit i = false := by
  constructor
  · intro h i hi
    have := congrArg (fun z => z.testBit (i - b)) h
    simp only [Nat.testBit_shiftRight, Nat.zero_testBit] at this
    rwa [show b + (i - b) = i by omega] at this
  · intro h
    apply nat_ext; intro i
    rw [Nat.testBit_shiftRight, Nat.zero_testBit]
    exact h _ (by omega)
/-- what the walks of one set give to the next sets, as far as last room k, and room j of the next -/
def tst (F : Nat → Nat → Nat) (nx : Nat → Nat → Bool) (s k j : Nat) : Nat → Nat → Nat := fun S b => if S.testBit b = true ∧ S ^^^ 2 ^ b = s then F S b + zsu (fun a => if nx a b then F s a else 0) k + (if b < j ∧ nx k b = true then F s k else 0) else F S b
theorem tst_self {F : Nat → Nat → Nat} {nx : Nat → Nat → Bool} {s k j a : Nat} : tst F nx s k j s a = F s a := if_neg (fun e => by have := xor_lt e.1; omega)
theorem tst_0 {F : Nat → Nat → Nat} {nx : Nat → Nat → Bool} {s : Nat} : tst F nx s 0 0 = F := by
  funext S b
  unfold tst
  split
  · simp [zsu]
  · rfl
theorem tst_next {F : Nat → Nat → Nat} {nx : Nat → Nat → Bool} {s k j n : Nat} (h : ∀ b, b < n → j ≤ b → nx k b = false) : ∀ S b, b < n → tst F nx s (k + 1) 0 S b = tst F nx s k j S b := by
  intro S b hb
  unfold tst
  split
  · rw [zsu_s]
    by_cases q : nx k b = true
    · have q2 : b < j := by
        rcases Nat.lt_or_ge b j with w | w
        · exact w
        · rw [h b hb w] at q; cases q
      rw [if_pos q, if_neg (by omega), if_pos ⟨q2, q⟩]; omega
    · rw [if_neg q, if_neg (by omega), if_neg (fun e => q e.2)]; omega
  · rfl
theorem tst_skip {F : Nat → Nat → Nat} {nx : Nat → Nat → Bool} {s k n : Nat} (h : F s k = 0) : ∀ S b, b < n → tst F nx s (k + 1) 0 S b = tst F nx s k 0 S b := by
  intro S b hb
  unfold tst
  split
  · rw [zsu_s, h]; simp
  · rfl
theorem tst_no {F : Nat → Nat → Nat} {nx : Nat → Nat → Bool} {s k j : Nat} (h : nx k j = false) : tst F nx s k (j + 1) = tst F nx s k j := by
  funext S b
  unfold tst
  split
  · congr 1
    by_cases q : b = j
    · subst q; rw [if_neg (by rw [h]; simp), if_neg (by omega)]
    · have : (b < j + 1) = (b < j) := propext ⟨fun _ => by omega, fun _ => by omega⟩
      simp only [this]
  · rfl
theorem tst_add {F : Nat → Nat → Nat} {nx : Nat → Nat → Bool} {s k j : Nat} (h : nx k j = true) (hs : s.testBit j = false) : tst F nx s k (j + 1) = tadd (tst F nx s k j) (s ||| 2 ^ j) j (F s k) := by
  funext S b
  unfold tadd
  by_cases e : S = s ||| 2 ^ j ∧ b = j
  · rw [if_pos e, e.1, e.2]
    have c : (s ||| 2 ^ j).testBit j = true ∧ (s ||| 2 ^ j) ^^^ 2 ^ j = s := ⟨by rw [tb_or]; simp, or_xor hs⟩
    unfold tst
    rw [if_pos c, if_pos c, if_pos ⟨by omega, h⟩, if_neg (by omega)]; rfl
  · rw [if_neg e]
    unfold tst
    split
    · rename_i c
      congr 1
      have q : b ≠ j := by
        intro q
        subst q
        exact e ⟨by rw [← c.2, xor_or c.1], rfl⟩
      have : (b < j + 1) = (b < j) := propext ⟨fun _ => by omega, fun _ => by omega⟩
      simp only [this]
    · rfl
theorem q_spreadFrom {h : zm_H} {t n s q : Nat} {F : Nat → Nat → Nat} {lr : Nat → Nat} (hS : tbS h t) (hn : n ≤ 11) (hC : CN h t n F) (hs : s < 2 ^ n) (hl4 : zI h t 4 = nI n) (hq : q < t ∨ t + 4 < q) (hkq : zK h q = (0, 11)) (hlr : ∀ r, r < 11 → zI h q r = nI (lr r)) (hlt : ∀ r, r < 11 → lr r < 2 ^ n) :
    ∃ g, sX4_spreadFrom [.ref t, .int (nI s), .ref q] h = some (.inl none, g) ∧ zFr (fun c => t + 1 ≤ c ∧ c ≤ t + 3) h g ∧ CN g t n (tst F (fun a b => (lr a).testBit b && !s.testBit b) s n 0) ∧
      (∀ a, a < n → 0 < F s a → zI g (t + 3) (s * 11 + a) = nI (lr a &&& (s ^^^ 4294967295))) ∧ (∀ S a, S ≠ s → a < n → zI g (t + 3) (S * 11 + a) = zI h (t + 3) (S * 11 + a)) := by
  have hS0 := hS
  have hp := pow_le hn
  obtain ⟨k0, p0, p1, p2, p3, k1, k2, k3, k4⟩ := hS
  obtain ⟨R, hR⟩ : ∃ R : zm_O → Prop, R = (fun o => ∃ g, o = (.inl none, g) ∧ zFr (fun c => t + 1 ≤ c ∧ c ≤ t + 3) h g ∧ CN g t n (tst F (fun a b => (lr a).testBit b && !s.testBit b) s n 0) ∧
      (∀ a, a < n → 0 < F s a → zI g (t + 3) (s * 11 + a) = nI (lr a &&& (s ^^^ 4294967295))) ∧ (∀ S a, S ≠ s → a < n → zI g (t + 3) (S * 11 + a) = zI h (t + 3) (S * 11 + a))) := ⟨_, rfl⟩
  obtain ⟨nx, hnx⟩ : ∃ nx : Nat → Nat → Bool, nx = (fun a b => (lr a).testBit b && !s.testBit b) := ⟨_, rfl⟩
  rw [← hnx] at hR
  have f1 := nI_clamp (show s < 2 ^ 31 by omega)
  have f2 := nI_lt0 (show s < 2 ^ 31 by omega)
  have f3 : ¬ 2048 ≤ s := by omega
  have outer : ∀ d k g, k + d = n → zFr (fun c => t + 1 ≤ c ∧ c ≤ t + 3) h g → CN g t n (tst F nx s k 0) → (∀ a, a < k → 0 < F s a → zI g (t + 3) (s * 11 + a) = nI (lr a &&& (s ^^^ 4294967295))) → (∀ S a, S ≠ s → a < n → zI g (t + 3) (S * 11 + a) = zI h (t + 3) (S * 11 + a)) →
      zTo vX4_spreadFrom rX4_spreadFrom (2, [some (.ref t), some (.int (nI s)), some (.ref q), some (.int (nI k)), none, none, none], [], g) R := by
    intro d
    induction d with
    | zero =>
      intro k g hk fr c n1 n2
      have hk : k = n := by omega
      subst hk
      have K := fr.K
      have l4 : zI g t 4 = nI k := by rw [fr.I (by omega)]; exact hl4
      refine zTo_of gX4_spreadFrom_2 ?_
      simp only [K, k0, l4, nI_le (Nat.le_refl _) (show k < 2 ^ 31 by omega), zmp_s, zlt_s, zcV_s, zcI_s, zcJ_s, zcA_s, zcD_s, zcF_s, zth_n, zth_t, zrt_s, zQ_l, zQ_r, false_or, or_false, not_false_eq_true, not_true_eq_false, and_self, true_and, and_true, if_true, if_false, ite_true, ite_false, zgd_t]
      rw [hR]
      exact ⟨g, rfl, fr, c, n1, n2⟩
    | succ d ih =>
      intro k g hk fr c n1 n2
      have K := fr.K
      have P := fr.P
      have l4 : zI g t 4 = nI n := by rw [fr.I (by omega)]; exact hl4
      obtain ⟨g1, g2, g3, g4⟩ := nI_for (show k < n by omega) (by omega)
      have g5 : ¬ 11 ≤ k := by omega
      have hm := tmk_lt (F := tst F nx s k 0) (S := s) hn
      have e1 := nI_clamp (show s * 11 + k < 2 ^ 31 by omega)
      have e2 := nI_lt0 (show s * 11 + k < 2 ^ 31 by omega)
      have e3 : ¬ 22528 ≤ s * 11 + k := by omega
      refine zTo_of gX4_spreadFrom_2 ?_
      have hkn : k < n := by omega
      simp only [K, P, k0, l4, g1, g2, g3, g4, g5, p0, k1, f1, f2, f3, c.1 s hs, q_has (show tmk (tst F nx s k 0) n s < 2 ^ 31 by omega) (show k < 32 by omega), zb_0, tmk_bit, tst_self, hkn, decide_true, Bool.true_and, zmp_s, zlt_s, zcV_s, zcI_s, zcJ_s, zcA_s, zcD_s, zcF_s, zth_n, zth_t, zrt_s, zQ_l, zQ_r, false_or, or_false, not_false_eq_true, not_true_eq_false, and_self, true_and, and_true, if_true, if_false, ite_true, ite_false, zgd_t]
      by_cases e : 0 < F s k
      · simp only [e, decide_true, Bool.true_eq_false, false_or, or_false, not_false_eq_true, not_true_eq_false, and_self, true_and, and_true, if_true, if_false, ite_true, ite_false, q_cell, zmp_s, zlt_s, zcV_s, zcI_s, zcJ_s, zcA_s, zcD_s, zcF_s, zth_n, zth_t, zrt_s, zQ_l, zQ_r, K, P, k0, hkq, p2, k3, e1, e2, e3, g2, g3, g5, zgd_t]
        have lq : zI g q k = nI (lr k) := by rw [fr.I (by omega)]; exact hlr k (by omega)
        simp only [lq, nI_not]
        obtain ⟨on, hon⟩ : ∃ on, on = lr k &&& (s ^^^ 4294967295) := ⟨_, rfl⟩
        rw [← hon]
        have onlt : on < 2 ^ n := by rw [hon]; exact and_lt (hlt k (by omega))
        have onb : ∀ i, i < 32 → on.testBit i = nx k i := fun i hi => by rw [hon, bit_not hi, hnx]
        have inner : ∀ d2 j g2, j + d2 = n → zFr (fun c => t + 1 ≤ c ∧ c ≤ t + 3) h g2 → CN g2 t n (tst F nx s k j) → (∀ a, a < k + 1 → 0 < F s a → zI g2 (t + 3) (s * 11 + a) = nI (lr a &&& (s ^^^ 4294967295))) → (∀ S a, S ≠ s → a < n → zI g2 (t + 3) (S * 11 + a) = zI h (t + 3) (S * 11 + a)) →
            zTo vX4_spreadFrom rX4_spreadFrom (33, [some (.ref t), some (.int (nI s)), some (.ref q), some (.int (nI k)), some (.int (nI (s * 11 + k))), some (.int (nI on)), some (.int (nI j))], [], g2) R := by
          intro d2
          induction d2 with
          | zero =>
            intro j g2 hj fr2 c2 m1 m2
            have hj : j = n := by omega
            subst hj
            have K2 := fr2.K
            have l42 : zI g2 t 4 = nI j := by rw [fr2.I (by omega)]; exact hl4
            refine zTo_of gX4_spreadFrom_33 ?_
            simp only [K2, k0, l42, g4, nI_le (Nat.le_refl _) (show j < 2 ^ 31 by omega), zmp_s, zlt_s, zcV_s, zcI_s, zcJ_s, zcA_s, zcD_s, zcF_s, zth_n, zth_t, zrt_s, zQ_l, zQ_r, false_or, or_false, not_false_eq_true, not_true_eq_false, and_self, true_and, and_true, if_true, if_false, ite_true, ite_false, zgd_t]
            exact ih (k + 1) g2 (by omega) fr2 (CN_congr c2 (fun S b hS hb => tst_next (n := j) (fun b hb hjb => by omega) S b hb)) m1 m2
          | succ d2 ih2 =>
            intro j g2 hj fr2 c2 m1 m2
            have K2 := fr2.K
            have P2 := fr2.P
            have l42 : zI g2 t 4 = nI n := by rw [fr2.I (by omega)]; exact hl4
            obtain ⟨j1, j2, j3, j4⟩ := nI_for (show j < n by omega) (by omega)
            refine zTo_of gX4_spreadFrom_33 ?_
            have s1 : nI on >>> (nI j &&& 31) = nI (on >>> j) := nx_shr (by omega) (by omega)
            have s2 : on >>> j < 2 ^ 31 := by
              have := Nat.shiftRight_le on j
              omega
            simp only [K2, k0, l42, j1, s1, nI_eq0 s2, g4, zmp_s, zlt_s, zcV_s, zcI_s, zcJ_s, zcA_s, zcD_s, zcF_s, zth_n, zth_t, zrt_s, zQ_l, zQ_r, false_or, or_false, not_false_eq_true, not_true_eq_false, and_self, true_and, and_true, if_true, if_false, ite_true, ite_false, zgd_t]
            by_cases z : on >>> j = 0
            · simp only [z, false_or, or_false, not_false_eq_true, not_true_eq_false, and_self, true_and, and_true, if_true, if_false, ite_true, ite_false, zmp_s, zlt_s, zcV_s, zcI_s, zcJ_s, zcA_s, zcD_s, zcF_s, zth_n, zth_t, zrt_s, zQ_l, zQ_r]
              have z2 := shr_0.mp z
              exact ih (k + 1) g2 (by omega) fr2 (CN_congr c2 (fun S b hS hb => tst_next (n := n) (fun b hb hjb => by rw [← onb b (by omega)]; exact z2 b hjb) S b hb)) m1 m2
            · simp only [z, false_or, or_false, not_false_eq_true, not_true_eq_false, and_self, true_and, and_true, if_true, if_false, ite_true, ite_false, zmp_s, zlt_s, zcV_s, zcI_s, zcJ_s, zcA_s, zcD_s, zcF_s, zth_n, zth_t, zrt_s, zQ_l, zQ_r, q_has (show on < 2 ^ 31 by omega) (show j < 32 by omega), zb_0, onb j (by omega)]
              by_cases w : nx k j = true
              · have w1 : s.testBit j = false := by
                  rw [hnx] at w
                  simp at w
                  exact w.2
                have w2 : zJ g2 (t + 2) (s * 11 + k) = lN (F s k) := by
                  have := c2.2 s k hs (by omega) (by rw [tst_self]; exact e)
                  rwa [tst_self] at this
                have w3 := q_addWalks (c := F s k) (tbS_kp K2 P2 hS0) hn c2 (or_lt2 hs (show j < n by omega)) (show j < n by omega)
                simp only [w, Bool.true_eq_false, false_or, or_false, not_false_eq_true, not_true_eq_false, and_self, true_and, and_true, if_true, if_false, ite_true, ite_false, K2, P2, k0, p1, k2, e1, e2, e3, w2, nx_shl1 (show j < 32 by omega), nx_or, w3, j4, zmp_s, zlt_s, zcV_s, zcI_s, zcJ_s, zcA_s, zcD_s, zcF_s, zth_n, zth_t, zrt_s, zQ_l, zQ_r, zgd_t]
                refine ih2 (j + 1) _ (by omega) (fr2.tr (tgo_fr.mono (fun c hc => by omega))) ?_ ?_ ?_
                · rw [tst_add w w1]
                  exact CN_add hn c2 (or_lt2 hs (show j < n by omega)) (by omega) e
                · intro a ha hp2
                  rw [tgo_fr.I (by omega)]; exact m1 a ha hp2
                · intro S a hS2 ha
                  rw [tgo_fr.I (by omega)]; exact m2 S a hS2 ha
              · have w : nx k j = false := by simpa using w
                simp only [w, false_or, or_false, not_false_eq_true, not_true_eq_false, and_self, true_and, and_true, if_true, if_false, ite_true, ite_false, j4, zmp_s, zlt_s, zcV_s, zcI_s, zcJ_s, zcA_s, zcD_s, zcF_s, zth_n, zth_t, zrt_s, zQ_l, zQ_r]
                exact ih2 (j + 1) g2 (by omega) fr2 (by rw [tst_no w]; exact c2) m1 m2
        refine inner n 0 _ (by omega) (fr.tr (zFr.sI ⟨by omega, by omega⟩)) ?_ ?_ ?_
        · refine ⟨fun S hS2 => ?_, fun S b hS2 hb hp2 => ?_⟩
          · rw [I_sIn (by omega)]; exact c.1 S hS2
          · rw [J_sI]; exact c.2 S b hS2 hb hp2
        · intro a ha hp2
          rw [I_sIs]
          by_cases qa : a = k
          · subst qa; rw [zput_self, hon]
          · rw [zput_ne _ _ (by omega)]; exact n1 a (by omega) hp2
        · intro S a hS2 ha
          rw [I_sIs, zput_ne _ _ (by omega)]; exact n2 S a hS2 ha
      · have e0 : F s k = 0 := by omega
        simp only [e0, Nat.lt_irrefl, decide_false, false_or, or_false, not_false_eq_true, not_true_eq_false, and_self, true_and, and_true, if_true, if_false, ite_true, ite_false, zmp_s, zlt_s, zcV_s, zcI_s, zcJ_s, zcA_s, zcD_s, zcF_s, zth_n, zth_t, zrt_s, zQ_l, zQ_r]
        exact ih (k + 1) g (by omega) fr (CN_congr c (fun S b hS hb => tst_skip (n := n) e0 S b hb)) (fun a ha hp2 => n1 a (by
          by_cases qa : a = k
          · subst qa; omega
          · omega) hp2) n2
  have hsim : zW (sX4_spreadFrom [.ref t, .int (nI s), .ref q] h) R := zsem_to (Nat.le_of_ble_eq_true rfl) (zTo_of gX4_spreadFrom_0 (outer n 0 h (by omega) zFr.rf (by rw [tst_0]; exact hC) (fun a ha => by omega) (fun S a _ _ => rfl)))
  rw [hR, hnx] at hsim
  obtain ⟨o, h1, g, rfl, h2⟩ := hsim
  exact ⟨g, h1, h2⟩
end ZTB

