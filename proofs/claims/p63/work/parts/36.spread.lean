/-! THE TABLES OF THE CLASS: all walks from one; tours from each of them. -/
section ZSP
/-- a step of walks -/
def nnx (N : zLv) : Nat → Nat → Nat → Bool := fun S a b => (nld N S a).testBit b && !S.testBit b
def nme (N : zLv) (r : Nat) : Bool := decide (N 3 = 0) || decide (N 3 = r + 1)
theorem nkeys_lt {N : zLv} (hW : WB N) (S : Nat) : nkeys N S < 256 := by
  unfold nkeys
  refine zfo_ind (fun x => x < 256) (by omega) (N 0) (fun i x hi hx => ?_)
  split
  · exact Nat.or_lt_two_pow (n := 8) hx (hW.2.2.2.1 i hi).1
  · exact hx
theorem ncoins_le {N : zLv} (hW : WB N) (S : Nat) : ncoins N S ≤ 1089 := by
  have : ∀ n, n ≤ N 0 → zfo (fun r acc => if S.testBit r then acc + N (17 + 3 * r) else acc) 0 n ≤ 99 * n := by
    intro n
    induction n with
    | zero => intro _; exact Nat.le_refl _
    | succ n ih =>
      intro hn
      rw [zfo_s]
      have h1 := ih (by omega)
      have h2 := (hW.2.2.2.1 n (by omega)).2
      split <;> omega
  have h1 := this (N 0) (Nat.le_refl _)
  have h2 := hW.1
  unfold ncoins
  omega
theorem nld_lt {N : zLv} (hW : WB N) (S r : Nat) : nld N S r < 2 ^ N 0 := by
  refine tb_lt (fun k hk => ?_)
  unfold nld
  rw [nld_bit]
  cases q : nany (fun d => nopen N d (nkeys N S) (ncoins N S) && ndgo N d r k) (N 1) with
  | false => rfl
  | true =>
    obtain ⟨d, hd, h2⟩ := nany_iff.mp q
    obtain ⟨d1, d2, -⟩ := hW.2.2.2.2.1 d hd
    unfold ndgo at h2
    simp at h2
    omega
theorem nnx_ok {N : zLv} (hW : WB N) : nxok (nnx N) (N 0) := by
  intro S a b h
  unfold nnx at h
  simp only [Bool.and_eq_true, Bool.not_eq_true'] at h
  refine ⟨?_, h.2⟩
  rcases Nat.lt_or_ge b (N 0) with q | q
  · exact q
  · have := tb_big (nld_lt hW S a) q
    rw [this] at h
    cases h.1
/-- counts, as far as the sets below s -/
def nP (nx : Nat → Nat → Nat → Bool) (n S0 a0 s : Nat) : Nat → Nat → Nat := fun S b => fI S0 a0 S b + (if S.testBit b = true ∧ S ^^^ 2 ^ b < s then fP nx n S0 a0 S b else 0)
theorem nP_at {nx : Nat → Nat → Nat → Bool} {n S0 a0 s S b : Nat} (h : S ≤ s) : nP nx n S0 a0 s S b = nW nx n S0 a0 S b := by
  unfold nP
  rw [nW_f]
  congr 1
  by_cases t : S.testBit b = true
  · have := xor_lt t
    rw [if_pos ⟨t, by omega⟩, if_pos t]
  · rw [if_neg (fun e => t e.1), if_neg t]
theorem nP_step {nx : Nat → Nat → Nat → Bool} {n S0 a0 s : Nat} : tst (nP nx n S0 a0 s) (fun a b => nx s a b) s n 0 = nP nx n S0 a0 (s + 1) := by
  funext S b
  unfold tst
  by_cases c : S.testBit b = true ∧ S ^^^ 2 ^ b = s
  · have e1 : zsu (fun a => if nx s a b then nP nx n S0 a0 s s a else 0) n = fP nx n S0 a0 S b := by
      unfold fP
      rw [c.2]
      exact zsu_congr n (fun a ha => by rw [nP_at (Nat.le_refl _)])
    rw [if_pos c, if_neg (show ¬ (b < 0 ∧ nx s n b = true) from fun e => by omega), Nat.add_zero, e1]
    unfold nP
    rw [if_neg (show ¬ (S.testBit b = true ∧ S ^^^ 2 ^ b < s) from fun e => by omega), if_pos (show S.testBit b = true ∧ S ^^^ 2 ^ b < s + 1 from ⟨c.1, by omega⟩), Nat.add_zero]
  · rw [if_neg c]
    unfold nP
    congr 1
    by_cases t : S.testBit b = true
    · by_cases w : S ^^^ 2 ^ b < s
      · rw [if_pos ⟨t, w⟩, if_pos ⟨t, by omega⟩]
      · have : S ^^^ 2 ^ b ≠ s := fun e => c ⟨t, e⟩
        rw [if_neg (fun e => w e.2), if_neg (fun e => by omega)]
    · rw [if_neg (fun e => t e.1), if_neg (fun e => t e.1)]
theorem nP_skip {nx : Nat → Nat → Nat → Bool} {n S0 a0 s : Nat} (h : ∀ a, a < n → nW nx n S0 a0 s a = 0) : nP nx n S0 a0 (s + 1) = nP nx n S0 a0 s := by
  rw [← nP_step]
  funext S b
  unfold tst
  split
  · rw [zsu_0 n (fun a ha => by rw [nP_at (Nat.le_refl _), h a ha]; simp)]
    simp
  · rfl
theorem nP_start {nx : Nat → Nat → Nat → Bool} {n S0 a0 : Nat} : nP nx n S0 a0 S0 = fI S0 a0 := by
  funext S b
  unfold nP
  split
  · rename_i c
    have : fP nx n S0 a0 S b = 0 := by
      unfold fP
      exact zsu_0 n (fun a ha => by rw [nW_low _ _ c.2]; simp)
    rw [this]; rfl
  · rfl
/-- what the tables hold behind spread -/
def TBs (g : zm_H) (t : Nat) (N : zLv) (S0 a0 : Nat) : Prop :=
  zI g t 4 = nI (N 0) ∧ zI g t 5 = nI (2 ^ N 0 - 1) ∧ CN g t (N 0) (nW (nnx N) (N 0) S0 a0) ∧
  (∀ S a, S < 2 ^ N 0 → a < N 0 → 0 < nW (nnx N) (N 0) S0 a0 S a → zI g (t + 3) (S * 11 + a) = nI (nld N S a &&& (S ^^^ 4294967295))) ∧
  zI g t 6 = nI (nmask (fun r => decide (0 < nW (nnx N) (N 0) S0 a0 (2 ^ N 0 - 1) r) && nme N r) (N 0))
def tAl (t a : Nat) : Nat → Prop := fun c => (t ≤ c ∧ c ≤ t + 4) ∨ c = a + 10
theorem tmk_0 {n S : Nat} : tmk (fun _ _ => 0) n S = 0 := by
  apply nat_ext; intro i
  rw [tmk_bit, Nat.zero_testBit]; simp
theorem tmk_eq0 {F : Nat → Nat → Nat} {n S : Nat} : tmk F n S = 0 ↔ ∀ a, a < n → F S a = 0 := by
  constructor
  · intro h a ha
    have := tmk_bit (F := F) (n := n) (S := S) (b := a)
    rw [h, Nat.zero_testBit] at this
    simp [ha] at this
    omega
  · intro h
    apply nat_ext; intro i
    rw [tmk_bit, Nat.zero_testBit]
    by_cases hi : i < n
    · rw [h i hi]; simp
    · simp [hi]
theorem q_spread {h : zm_H} {t a S0 a0 : Nat} {N : zLv} (hT : tbS h t) (hS : lvS h a) (hL : KL h a N) (hW : WB N) (h3 : N 3 ≤ 11) (hat : a + 10 < t ∨ t + 4 < a) (hS0 : S0 < 2 ^ N 0) (ha0 : a0 < N 0) (hb0 : S0.testBit a0 = true) :
    ∃ g, sX4_spread [.ref t, .ref a, .int (nI S0), .int (nI a0)] h = some (.inl none, g) ∧ zFr (tAl t a) h g ∧ TBs g t N S0 a0 := by
  have hn := hW.1
  have hp := pow_le hn
  have hT0 := hT
  have hSv := hS
  obtain ⟨k0, p0, p1, p2, p3, k1, k2, k3, k4⟩ := hT
  have y0 := hS.1
  obtain ⟨R, hR⟩ : ∃ R : zm_O → Prop, R = (fun o => ∃ g, o = (.inl none, g) ∧ zFr (tAl t a) h g ∧ TBs g t N S0 a0) := ⟨_, rfl⟩
  obtain ⟨n, hn0⟩ : ∃ n, n = N 0 := ⟨_, rfl⟩
  have hx := nnx_ok hW
  -- the last loop
  have ends : ∀ d r g, r + d = N 0 → zFr (tAl t a) h g → zI g t 4 = nI (N 0) → zI g t 5 = nI (2 ^ N 0 - 1) → CN g t (N 0) (nW (nnx N) (N 0) S0 a0) →
      (∀ S a, S < 2 ^ N 0 → a < N 0 → 0 < nW (nnx N) (N 0) S0 a0 S a → zI g (t + 3) (S * 11 + a) = nI (nld N S a &&& (S ^^^ 4294967295))) →
      zI g t 6 = nI (nmask (fun r => decide (0 < nW (nnx N) (N 0) S0 a0 (2 ^ N 0 - 1) r) && nme N r) r) → zTo vX4_spread rX4_spread (41, [some (.ref t), some (.ref a), none, none, some (.int (nI r))], [], g) R := by
    intro d
    induction d with
    | zero =>
      intro r g hr fr l4 l5 c nf e6
      have hr : r = N 0 := by omega
      have K := fr.K
      refine zTo_of gX4_spread_41 ?_
      simp only [K, k0, l4, hr, nI_le (Nat.le_refl _) (show N 0 < 2 ^ 31 by omega), zmp_s, zlt_s, zcV_s, zcI_s, zcJ_s, zcA_s, zcD_s, zcF_s, zth_n, zth_t, zrt_s, zQ_l, zQ_r, false_or, or_false, not_false_eq_true, not_true_eq_false, and_self, true_and, and_true, if_true, if_false, ite_true, ite_false, zgd_t]
      rw [hR]
      rw [hr] at e6
      exact ⟨g, rfl, fr, l4, l5, c, nf, e6⟩
    | succ d ih =>
      intro r g hr fr l4 l5 c nf e6
      have K := fr.K
      have P := fr.P
      obtain ⟨g1, g2, g3, g4⟩ := nI_for (show r < N 0 by omega) (by omega)
      have hrn : r < N 0 := by omega
      have f1 := nI_clamp (show 2 ^ N 0 - 1 < 2 ^ 31 by omega)
      have f2 := nI_lt0 (show 2 ^ N 0 - 1 < 2 ^ 31 by omega)
      have f3 : ¬ 2048 ≤ 2 ^ N 0 - 1 := by have := Nat.one_le_two_pow (n := N 0); omega
      have fl : 2 ^ N 0 - 1 < 2 ^ N 0 := by have := Nat.one_le_two_pow (n := N 0); omega
      have hm := tmk_lt (F := nW (nnx N) (N 0) S0 a0) (S := 2 ^ N 0 - 1) hn
      have hLg : KL g a N := KL_fr fr (fun i hi q => by unfold tAl at q; omega) hL
      refine zTo_of gX4_spread_41 ?_
      simp only [K, P, k0, p0, k1, l4, l5, g1, g4, f1, f2, f3, c.1 _ fl, q_has (show tmk (nW (nnx N) (N 0) S0 a0) (N 0) (2 ^ N 0 - 1) < 2 ^ 31 by omega) (show r < 32 by omega), zb_0, tmk_bit, hrn, decide_true, Bool.true_and, zmp_s, zlt_s, zcV_s, zcI_s, zcJ_s, zcA_s, zcD_s, zcF_s, zth_n, zth_t, zrt_s, zQ_l, zQ_r, false_or, or_false, not_false_eq_true, not_true_eq_false, and_self, true_and, and_true, if_true, if_false, ite_true, ite_false, zgd_t]
      by_cases e : 0 < nW (nnx N) (N 0) S0 a0 (2 ^ N 0 - 1) r
      · simp only [e, decide_true, Bool.true_eq_false, false_or, or_false, not_false_eq_true, not_true_eq_false, and_self, true_and, and_true, if_true, if_false, ite_true, ite_false, zmp_s, zlt_s, zcV_s, zcI_s, zcJ_s, zcA_s, zcD_s, zcF_s, zth_n, zth_t, zrt_s, zQ_l, zQ_r, K, y0, q_mayEnd (lvS_fr fr hSv) hLg h3 (show r < 2 ^ 31 by omega), zb_0, zgd_t]
        by_cases w : nme N r = true
        · have w' := w
          unfold nme at w'
          simp only [w', Bool.true_eq_false, false_or, or_false, not_false_eq_true, not_true_eq_false, and_self, true_and, and_true, if_true, if_false, ite_true, ite_false, zmp_s, zlt_s, zcV_s, zcI_s, zcJ_s, zcA_s, zcD_s, zcF_s, zth_n, zth_t, zrt_s, zQ_l, zQ_r, K, k0, e6, nx_shl1 (show r < 32 by omega), nx_or, zgd_t]
          refine ih (r + 1) _ (by omega) (fr.tr (zFr.sI (Or.inl ⟨by omega, by omega⟩))) ?_ ?_ ?_ ?_ ?_
          · rw [I_sIs, zput_ne _ _ (by omega)]; exact l4
          · rw [I_sIs, zput_ne _ _ (by omega)]; exact l5
          · exact ⟨fun S hS2 => by rw [I_sIn (by omega)]; exact c.1 S hS2, fun S b q1 q2 q3 => by rw [J_sI]; exact c.2 S b q1 q2 q3⟩
          · intro S b q1 q2 q3
            rw [I_sIn (by omega)]; exact nf S b q1 q2 q3
          · rw [I_sIs, zput_self]
            congr 1
            unfold nmask
            rw [zfo_s, if_pos (by simp [w, e])]
        · have w : nme N r = false := by simpa using w
          have w' := w
          unfold nme at w'
          simp only [w', false_or, or_false, not_false_eq_true, not_true_eq_false, and_self, true_and, and_true, if_true, if_false, ite_true, ite_false, zmp_s, zlt_s, zcV_s, zcI_s, zcJ_s, zcA_s, zcD_s, zcF_s, zth_n, zth_t, zrt_s, zQ_l, zQ_r]
          refine ih (r + 1) g (by omega) fr l4 l5 c nf ?_
          rw [e6]
          congr 1
          unfold nmask
          rw [zfo_s, if_neg (by simp [w])]
      · simp only [e, decide_false, false_or, or_false, not_false_eq_true, not_true_eq_false, and_self, true_and, and_true, if_true, if_false, ite_true, ite_false, zmp_s, zlt_s, zcV_s, zcI_s, zcJ_s, zcA_s, zcD_s, zcF_s, zth_n, zth_t, zrt_s, zQ_l, zQ_r]
        refine ih (r + 1) g (by omega) fr l4 l5 c nf ?_
        rw [e6]
        congr 1
        unfold nmask
        rw [zfo_s, if_neg (by simp [e])]
  have sets : ∀ d s g, s + d = 2 ^ N 0 → S0 ≤ s → zFr (tAl t a) h g → zI g t 4 = nI (N 0) → zI g t 5 = nI (2 ^ N 0 - 1) → CN g t (N 0) (nP (nnx N) (N 0) S0 a0 s) →
      (∀ S a, S < s → a < N 0 → 0 < nW (nnx N) (N 0) S0 a0 S a → zI g (t + 3) (S * 11 + a) = nI (nld N S a &&& (S ^^^ 4294967295))) →
      zTo vX4_spread rX4_spread (19, [some (.ref t), some (.ref a), none, none, some (.int (nI s))], [], g) R := by
    intro d
    induction d with
    | zero =>
      intro s g hd hs fr l4 l5 c nf
      have hs2 : s = 2 ^ N 0 := by omega
      have K := fr.K
      refine zTo_of gX4_spread_19 ?_
      simp only [K, k0, l5, nI_ltI (show 2 ^ N 0 - 1 < 2 ^ 31 by omega) (show s < 2 ^ 31 by omega), show 2 ^ N 0 - 1 < s by omega, zmp_s, zlt_s, zcV_s, zcI_s, zcJ_s, zcA_s, zcD_s, zcF_s, zth_n, zth_t, zrt_s, zQ_l, zQ_r, false_or, or_false, not_false_eq_true, not_true_eq_false, and_self, true_and, and_true, if_true, if_false, ite_true, ite_false, K_sI, K_sJ, K_sD, K_sP, K_rI, K_rJ, P_sI, P_sJ, P_sD, P_rI, P_rJ, N_sI, N_sJ, N_sD, N_sP, N_rI, N_rJ, J_sI, J_sD, J_sP, J_rI, I_sJ, I_sD, I_sP, I_rJ, D_sI, D_sJ, D_sP, D_rI, D_rJ, zgd_t]
      refine ends (N 0) 0 _ (by omega) (fr.tr (zFr.sI (Or.inl ⟨by omega, by omega⟩))) ?_ ?_ ?_ ?_ ?_
      · rw [I_sIs, zput_ne _ _ (by omega)]; exact l4
      · rw [I_sIs, zput_ne _ _ (by omega)]; exact l5
      · exact CN_congr (F := nP (nnx N) (N 0) S0 a0 s) ⟨fun S hS2 => by rw [I_sIn (by omega)]; exact c.1 S hS2, fun S b q1 q2 q3 => by rw [J_sI]; exact c.2 S b q1 q2 q3⟩ (fun S b hS2 hb => (nP_at (by omega)).symm)
      · intro S b q1 q2 q3
        rw [I_sIn (by omega)]; exact nf S b (by omega) q2 q3
      · rw [I_sIs, zput_self]; rfl
    | succ d ih =>
      intro s g hd hs fr l4 l5 c nf
      have K := fr.K
      have P := fr.P
      have hsn : s < 2 ^ N 0 := by omega
      have f1 := nI_clamp (show s < 2 ^ 31 by omega)
      have f2 := nI_lt0 (show s < 2 ^ 31 by omega)
      have f3 : ¬ 2048 ≤ s := by omega
      have hm := tmk_lt (F := nP (nnx N) (N 0) S0 a0 s) (S := s) hn
      have hLg : KL g a N := KL_fr fr (fun i hi q => by unfold tAl at q; omega) hL
      have f4 : nI s + (1 : Int32) = nI (s + 1) := nI_1 s
      refine zTo_of gX4_spread_19 ?_
      simp only [K, P, k0, p0, k1, l5, f1, f2, f3, f4, c.1 s hsn, nI_ltI (show 2 ^ N 0 - 1 < 2 ^ 31 by omega) (show s < 2 ^ 31 by omega), show ¬ 2 ^ N 0 - 1 < s by omega, nI_eq0 (show tmk (nP (nnx N) (N 0) S0 a0 s) (N 0) s < 2 ^ 31 by omega), zmp_s, zlt_s, zcV_s, zcI_s, zcJ_s, zcA_s, zcD_s, zcF_s, zth_n, zth_t, zrt_s, zQ_l, zQ_r, false_or, or_false, not_false_eq_true, not_true_eq_false, and_self, true_and, and_true, if_true, if_false, ite_true, ite_false, zgd_t]
      by_cases e : tmk (nP (nnx N) (N 0) S0 a0 s) (N 0) s = 0
      · simp only [e, false_or, or_false, not_false_eq_true, not_true_eq_false, and_self, true_and, and_true, if_true, if_false, ite_true, ite_false, zmp_s, zlt_s, zcV_s, zcI_s, zcJ_s, zcA_s, zcD_s, zcF_s, zth_n, zth_t, zrt_s, zQ_l, zQ_r]
        have z := tmk_eq0.mp e
        have z2 : ∀ a, a < N 0 → nW (nnx N) (N 0) S0 a0 s a = 0 := fun a ha => by rw [← nP_at (Nat.le_refl s)]; exact z a ha
        refine ih (s + 1) g (by omega) (by omega) fr l4 l5 (by rw [nP_skip z2]; exact c) (fun S b q1 q2 q3 => ?_)
        by_cases w : S = s
        · subst w; rw [z2 b q2] at q3; omega
        · exact nf S b (by omega) q2 q3
      · have hk := nkeys_lt hW s
        have hc := ncoins_le hW s
        simp only [e, false_or, or_false, not_false_eq_true, not_true_eq_false, and_self, true_and, and_true, if_true, if_false, ite_true, ite_false, zmp_s, zlt_s, zcV_s, zcI_s, zcJ_s, zcA_s, zcD_s, zcF_s, zth_n, zth_t, zrt_s, zQ_l, zQ_r, y0, q_leads (lvS_fr fr hSv) hLg hW (show s < 2 ^ 31 by omega) (show nkeys N s < 2 ^ 31 by omega) (show ncoins N s < 2 ^ 31 by omega), K_sI, K_sJ, K_sD, K_sP, K_rI, K_rJ, P_sI, P_sJ, P_sD, P_rI, P_rJ, N_sI, N_sJ, N_sD, N_sP, N_rI, N_rJ, J_sI, J_sD, J_sP, J_rI, I_sJ, I_sD, I_sP, I_rJ, D_sI, D_sJ, D_sP, D_rI, D_rJ, K, k0, zgd_t]
        obtain ⟨g2, hg2⟩ : ∃ g2, g2 = zrI g (a + 10) (nldF N s (zI g (a + 10)) (N 1)) := ⟨_, rfl⟩
        rw [← hg2]
        have fr2 : zFr (tAl t a) h g2 := by rw [hg2]; exact fr.tr (zFr.rI (Or.inr rfl))
        have c2 : CN g2 t (N 0) (nP (nnx N) (N 0) S0 a0 s) := by
          rw [hg2]
          exact ⟨fun S hS2 => by rw [I_rIn (by omega)]; exact c.1 S hS2, fun S b q1 q2 q3 => by rw [J_rI]; exact c.2 S b q1 q2 q3⟩
        have y10 : zK h (a + 10) = (0, 11) := hSv.2.2.2.2.2.2.2.2.2.2.2.2.2.2.2.2.2.2.2.2
        obtain ⟨g3, w1, w2, w3, w4, w5⟩ := q_spreadFrom (lr := fun r => nld N s r) (tbS_kp fr2.K fr2.P hT0) hn c2 hsn (by rw [hg2, I_rIn (by omega)]; exact l4) (show a + 10 < t ∨ t + 4 < a + 10 by omega) (by rw [fr2.K]; exact y10) (fun r hr => by rw [hg2, I_rIs]; exact if_pos hr) (fun r hr => nld_lt hW s r)
        simp only [w1, zmp_s, zlt_s, zcV_s, zcI_s, zcJ_s, zcA_s, zcD_s, zcF_s, zth_n, zth_t, zrt_s, zQ_l, zQ_r]
        have w6 : zI g3 t = zI g t := by rw [w2.I (by omega), hg2, I_rIn (by omega)]
        refine ih (s + 1) g3 (by omega) (by omega) (fr2.tr (w2.mono (fun c hc => Or.inl ⟨by omega, by omega⟩))) (by rw [w6]; exact l4) (by rw [w6]; exact l5) ?_ (fun S b q1 q2 q3 => ?_)
        · rw [← nP_step]; exact w3
        · by_cases w : S = s
          · subst w
            exact w4 b q2 (by rw [nP_at (Nat.le_refl _)]; exact q3)
          · rw [w5 S b w q2, hg2, I_rIn (by omega)]
            exact nf S b (by omega) q2 q3
  have hsim : zW (sX4_spread [.ref t, .ref a, .int (nI S0), .int (nI a0)] h) R := by
    refine zsem_to (Nat.le_of_ble_eq_true rfl) (zTo_of gX4_spread_0 ?_)
    obtain ⟨h2, hh2⟩ : ∃ h2, h2 = zrI h (t + 1) (fun i => if i < 2048 then (0 : Int32) else zI h (t + 1) i) := ⟨_, rfl⟩
    have hl0 : zI h2 a 0 = nI (N 0) := by rw [hh2, I_rIn (by omega)]; exact hL.1
    have fr0 : zFr (tAl t a) h h2 := by rw [hh2]; exact zFr.rI (Or.inl ⟨by omega, by omega⟩)
    obtain ⟨h3', hh3⟩ : ∃ h3', h3' = zsI h2 t 4 (nI (N 0)) := ⟨_, rfl⟩
    have fr3 : zFr (tAl t a) h h3' := by rw [hh3]; exact fr0.tr (zFr.sI (Or.inl ⟨by omega, by omega⟩))
    have hL3 : KL h3' a N := KL_fr fr3 (fun i hi q => by unfold tAl at q; omega) hL
    obtain ⟨h6, hh6⟩ : ∃ h6, h6 = zsI h3' t 5 (nI (2 ^ N 0 - 1)) := ⟨_, rfl⟩
    have fr6 : zFr (tAl t a) h h6 := by rw [hh6]; exact fr3.tr (zFr.sI (Or.inl ⟨by omega, by omega⟩))
    have c6 : CN h6 t (N 0) (fun _ _ => 0) := by
      refine ⟨fun S hS2 => ?_, fun S b _ _ q => absurd q (Nat.lt_irrefl 0)⟩
      rw [hh6, hh3, I_sIn (by omega), I_sIn (by omega), hh2, I_rIs, tmk_0]
      exact if_pos (by omega)
    have aw := q_addWalks (c := 1) (tbS_kp fr6.K fr6.P hT0) hn c6 hS0 ha0
    have hl1 : (1 : Int64) = lN 1 := rfl
    rw [← hl1] at aw
    simp only [k0, p0, q_fill k1 (show 2048 < 2 ^ 31 by omega), ← hh2, fr0.K, y0, hl0, ← hh3, fr3.K, q_everyRoom (lvS_fr fr3 hSv) hL3 hn, ← hh6, fr6.K, aw, zmp_s, zlt_s, zcV_s, zcI_s, zcJ_s, zcA_s, zcD_s, zcF_s, zth_n, zth_t, zrt_s, zQ_l, zQ_r, zgd_t]
    refine sets (2 ^ N 0 - S0) S0 _ (by omega) (Nat.le_refl _) (fr6.tr (tgo_fr.mono (fun c hc => Or.inl ⟨by omega, by omega⟩))) ?_ ?_ ?_ ?_
    · rw [tgo_fr.I (by omega), hh6, I_sIs, zput_ne _ _ (by omega), hh3, I_sIs, zput_self]
    · rw [tgo_fr.I (by omega), hh6, I_sIs, zput_self]
    · refine CN_congr (CN_add hn c6 hS0 ha0 (by omega)) (fun S b hS2 hb => ?_)
      rw [nP_start]
      unfold tadd fI
      split <;> rfl
    · intro S b q1 q2 q3
      rw [nW_low _ _ q1] at q3; omega
  rw [hR] at hsim
  obtain ⟨o, h1, g, rfl, h2⟩ := hsim
  exact ⟨g, h1, h2⟩
end ZSP

