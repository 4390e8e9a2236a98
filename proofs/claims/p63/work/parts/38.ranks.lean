/-! THE TABLES OF THE CLASS: the greatest number of rooms, the tour with a rank, tours ahead. -/
section ZRK
set_option maxRecDepth 100000 in
theorem bc_all : ∀ S, S < 2048 → (((((((((nI S) - ((((nI S)).toUInt32 >>> (((1 : Int32)).toUInt32 &&& Int32.toUInt32 31)).toInt32 &&& (1431655765 : Int32))) &&& (858993459 : Int32)) + (((((nI S) - ((((nI S)).toUInt32 >>> (((1 : Int32)).toUInt32 &&& Int32.toUInt32 31)).toInt32 &&& (1431655765 : Int32)))).toUInt32 >>> (((2 : Int32)).toUInt32 &&& Int32.toUInt32 31)).toInt32 &&& (858993459 : Int32))) + ((((((nI S) - ((((nI S)).toUInt32 >>> (((1 : Int32)).toUInt32 &&& Int32.toUInt32 31)).toInt32 &&& (1431655765 : Int32))) &&& (858993459 : Int32)) + (((((nI S) - ((((nI S)).toUInt32 >>> (((1 : Int32)).toUInt32 &&& Int32.toUInt32 31)).toInt32 &&& (1431655765 : Int32)))).toUInt32 >>> (((2 : Int32)).toUInt32 &&& Int32.toUInt32 31)).toInt32 &&& (858993459 : Int32)))).toUInt32 >>> (((4 : Int32)).toUInt32 &&& Int32.toUInt32 31)).toInt32) &&& (252645135 : Int32)) + ((((((((nI S) - ((((nI S)).toUInt32 >>> (((1 : Int32)).toUInt32 &&& Int32.toUInt32 31)).toInt32 &&& (1431655765 : Int32))) &&& (858993459 : Int32)) + (((((nI S) - ((((nI S)).toUInt32 >>> (((1 : Int32)).toUInt32 &&& Int32.toUInt32 31)).toInt32 &&& (1431655765 : Int32)))).toUInt32 >>> (((2 : Int32)).toUInt32 &&& Int32.toUInt32 31)).toInt32 &&& (858993459 : Int32))) + ((((((nI S) - ((((nI S)).toUInt32 >>> (((1 : Int32)).toUInt32 &&& Int32.toUInt32 31)).toInt32 &&& (1431655765 : Int32))) &&& (858993459 : Int32)) + (((((nI S) - ((((nI S)).toUInt32 >>> (((1 : Int32)).toUInt32 &&& Int32.toUInt32 31)).toInt32 &&& (1431655765 : Int32)))).toUInt32 >>> (((2 : Int32)).toUInt32 &&& Int32.toUInt32 31)).toInt32 &&& (858993459 : Int32)))).toUInt32 >>> (((4 : Int32)).toUInt32 &&& Int32.toUInt32 31)).toInt32) &&& (252645135 : Int32))).toUInt32 >>> (((8 : Int32)).toUInt32 &&& Int32.toUInt32 31)).toInt32) + (((((((((nI S) - ((((nI S)).toUInt32 >>> (((1 : Int32)).toUInt32 &&& Int32.toUInt32 31)).toInt32 &&& (1431655765 : Int32))) &&& (858993459 : Int32)) + (((((nI S) - ((((nI S)).toUInt32 >>> (((1 : Int32)).toUInt32 &&& Int32.toUInt32 31)).toInt32 &&& (1431655765 : Int32)))).toUInt32 >>> (((2 : Int32)).toUInt32 &&& Int32.toUInt32 31)).toInt32 &&& (858993459 : Int32))) + ((((((nI S) - ((((nI S)).toUInt32 >>> (((1 : Int32)).toUInt32 &&& Int32.toUInt32 31)).toInt32 &&& (1431655765 : Int32))) &&& (858993459 : Int32)) + (((((nI S) - ((((nI S)).toUInt32 >>> (((1 : Int32)).toUInt32 &&& Int32.toUInt32 31)).toInt32 &&& (1431655765 : Int32)))).toUInt32 >>> (((2 : Int32)).toUInt32 &&& Int32.toUInt32 31)).toInt32 &&& (858993459 : Int32)))).toUInt32 >>> (((4 : Int32)).toUInt32 &&& Int32.toUInt32 31)).toInt32) &&& (252645135 : Int32)) + ((((((((nI S) - ((((nI S)).toUInt32 >>> (((1 : Int32)).toUInt32 &&& Int32.toUInt32 31)).toInt32 &&& (1431655765 : Int32))) &&& (858993459 : Int32)) + (((((nI S) - ((((nI S)).toUInt32 >>> (((1 : Int32)).toUInt32 &&& Int32.toUInt32 31)).toInt32 &&& (1431655765 : Int32)))).toUInt32 >>> (((2 : Int32)).toUInt32 &&& Int32.toUInt32 31)).toInt32 &&& (858993459 : Int32))) + ((((((nI S) - ((((nI S)).toUInt32 >>> (((1 : Int32)).toUInt32 &&& Int32.toUInt32 31)).toInt32 &&& (1431655765 : Int32))) &&& (858993459 : Int32)) + (((((nI S) - ((((nI S)).toUInt32 >>> (((1 : Int32)).toUInt32 &&& Int32.toUInt32 31)).toInt32 &&& (1431655765 : Int32)))).toUInt32 >>> (((2 : Int32)).toUInt32 &&& Int32.toUInt32 31)).toInt32 &&& (858993459 : Int32)))).toUInt32 >>> (((4 : Int32)).toUInt32 &&& Int32.toUInt32 31)).toInt32) &&& (252645135 : Int32))).toUInt32 >>> (((8 : Int32)).toUInt32 &&& Int32.toUInt32 31)).toInt32)).toUInt32 >>> (((16 : Int32)).toUInt32 &&& Int32.toUInt32 31)).toInt32) &&& (63 : Int32)) = nI (npc S 11) := by decide +kernel
theorem q_bitCount {S : Nat} (hs : S < 2048) (h : zm_H) : sJ6_bitCount_0f7a4 [.int (nI S)] h = some (.inl (some (.int (nI (npc S 11)))), h) := by
  refine zsem_eq (Nat.le_of_ble_eq_true rfl) (zTo_of gJ6_bitCount_0f7a4_0 ?_)
  rw [bc_all S hs]; rfl
theorem npc_wide {S n m : Nat} (hS : S < 2 ^ n) (hm : n ≤ m) : npc S m = npc S n := by
  obtain ⟨d, rfl⟩ : ∃ d, m = n + d := ⟨m - n, by omega⟩
  clear hm
  induction d with
  | zero => rfl
  | succ d ih =>
    unfold npc at ih ⊢
    rw [show n + (d + 1) = n + d + 1 by omega, zsu_s, ih, if_neg (by rw [tb_big hS (by omega)]; simp)]
    rfl
/-- the greatest number of rooms of a set that walks reach -/
def nmost (N : zLv) (S0 a0 : Nat) : Nat := zfo (fun S acc => if tmk (nWW N S0 a0) (N 0) S = 0 then acc else if acc < npc S (N 0) then npc S (N 0) else acc) 0 (2 ^ N 0)
/-- the first r with left below the sum of what stands up to it -/
def nfp (c : Nat → Nat) (left : Nat) : Nat → Nat
  | 0 => 0
  | n + 1 => if nfp c left n < n then nfp c left n else if left < zsu c (n + 1) then n else n + 1
theorem zsu_mono {c : Nat → Nat} {i j : Nat} (h : i ≤ j) : zsu c i ≤ zsu c j := by
  induction h with
  | refl => exact Nat.le_refl _
  | step _ ih => rw [zsu_s]; omega
theorem nfp_spec {c : Nat → Nat} {left : Nat} : ∀ n, (left < zsu c n → nfp c left n < n ∧ zsu c (nfp c left n) ≤ left ∧ left < zsu c (nfp c left n + 1)) ∧ (zsu c n ≤ left → nfp c left n = n) := by
  intro n
  induction n with
  | zero => exact ⟨fun h => absurd h (by simp [zsu]), fun _ => rfl⟩
  | succ n ih =>
    rcases Nat.lt_or_ge left (zsu c n) with q | q
    · obtain ⟨h1, h2, h3⟩ := ih.1 q
      have h4 : nfp c left (n + 1) = nfp c left n := by rw [nfp, if_pos h1]
      rw [h4]
      exact ⟨fun _ => ⟨by omega, h2, h3⟩, fun h => by have := zsu_mono (c := c) (show n ≤ n + 1 by omega); omega⟩
    · have h1 := ih.2 q
      constructor
      · intro h
        have h4 : nfp c left (n + 1) = n := by rw [nfp, if_neg (by omega), if_pos h]
        rw [h4]
        exact ⟨by omega, q, h⟩
      · intro h
        rw [nfp, if_neg (by omega), if_neg (by omega)]
/-- a state of the walk that a rank picks: rooms, last room, what is left of the rank -/
def nstp (N : zLv) (s : Nat × Nat × Nat) : Nat × Nat × Nat := (s.1 ||| 2 ^ nfp (ncn N s.1 s.2.1) s.2.2 (N 0), nfp (ncn N s.1 s.2.1) s.2.2 (N 0), s.2.2 - zsu (ncn N s.1 s.2.1) (nfp (ncn N s.1 s.2.1) s.2.2 (N 0)))
def nitr (N : zLv) (s : Nat × Nat × Nat) : Nat → Nat × Nat × Nat
  | 0 => s
  | k + 1 => nstp N (nitr N s k)
def nvs (N : zLv) (s : Nat × Nat × Nat) : Prop := s.1 < 2 ^ N 0 ∧ s.2.1 < N 0 ∧ s.1.testBit s.2.1 = true ∧ s.2.2 < nTT N s.1 s.2.1
theorem nstp_ok {N : zLv} (hW : WB N) {s : Nat × Nat × Nat} (h : nvs N s) (hf : s.1 ≠ 2 ^ N 0 - 1) :
    nvs N (nstp N s) ∧ nnx N s.1 s.2.1 (nstp N s).2.1 = true ∧ npc (nstp N s).1 (N 0) = npc s.1 (N 0) + 1 ∧ (nstp N s).2.1 < N 0 ∧ zsu (ncn N s.1 s.2.1) (nstp N s).2.1 ≤ s.2.2 ∧ s.2.2 < zsu (ncn N s.1 s.2.1) ((nstp N s).2.1 + 1) := by
  obtain ⟨S, a, left⟩ := s
  obtain ⟨h1, h2, h3, h4⟩ := h
  have e : nTT N S a = zsu (ncn N S a) (N 0) := by
    rw [nTT_eq hW h1]
    unfold nba
    rw [if_neg (fun e => hf e.1), Nat.zero_add]
  have h5 : left < zsu (ncn N S a) (N 0) := by rw [← e]; exact h4
  obtain ⟨p1, p2, p3⟩ := (nfp_spec (c := ncn N S a) (left := left) (N 0)).1 h5
  show nvs N (S ||| 2 ^ nfp (ncn N S a) left (N 0), nfp (ncn N S a) left (N 0), left - zsu (ncn N S a) (nfp (ncn N S a) left (N 0))) ∧ nnx N S a (nfp (ncn N S a) left (N 0)) = true ∧ npc (S ||| 2 ^ nfp (ncn N S a) left (N 0)) (N 0) = npc S (N 0) + 1 ∧ nfp (ncn N S a) left (N 0) < N 0 ∧ zsu (ncn N S a) (nfp (ncn N S a) left (N 0)) ≤ left ∧ left < zsu (ncn N S a) (nfp (ncn N S a) left (N 0) + 1)
  generalize nfp (ncn N S a) left (N 0) = r at p1 p2 p3
  have p4 := p3
  rw [zsu_s] at p3
  have hx : nnx N S a r = true := by
    cases q : nnx N S a r with
    | true => rfl
    | false => exact absurd (show ncn N S a r = 0 by unfold ncn; rw [q]; rfl) (by omega)
  have hc : ncn N S a r = nTT N (S ||| 2 ^ r) r := by unfold ncn; rw [if_pos hx]
  obtain ⟨x1, x2⟩ := nnx_ok hW S a r hx
  refine ⟨⟨or_lt2 h1 x1, x1, ?_, ?_⟩, hx, npc_or _ x1 x2, p1, p2, p4⟩
  · show (S ||| 2 ^ r).testBit r = true
    rw [tb_or]; simp
  · show left - zsu (ncn N S a) r < nTT N (S ||| 2 ^ r) r
    omega
theorem TBg_off {A : Nat → Prop} {h g : zm_H} {t S0 a0 : Nat} {N : zLv} (fr : zFr A h g) (hA : ∀ i, i ≤ 4 → ¬ A (t + i)) (hB : TBg h t N S0 a0) : TBg g t N S0 a0 := by
  obtain ⟨⟨b4, b5, bc, bn, be⟩, bt⟩ := hB
  have e0 := hA 0 (by omega)
  rw [Nat.add_zero] at e0
  exact ⟨⟨by rw [fr.I e0]; exact b4, by rw [fr.I e0]; exact b5, ⟨fun S hS => by rw [fr.I (hA 1 (by omega))]; exact bc.1 S hS, fun S b q1 q2 q3 => by rw [fr.J (hA 2 (by omega))]; exact bc.2 S b q1 q2 q3⟩, fun S a q1 q2 q3 => by rw [fr.I (hA 3 (by omega))]; exact bn S a q1 q2 q3, by rw [fr.I e0]; exact be⟩, fun S a q1 q2 q3 => by rw [fr.J (hA 4 (by omega))]; exact bt S a q1 q2 q3⟩
/-- rooms of a row, as a set -/
def nsk (f : Nat → Nat) (k : Nat) : Nat := zfo (fun i acc => acc ||| 2 ^ f i) 0 k
theorem nsk_lt {f : Nat → Nat} {n : Nat} : ∀ k, (∀ i, i < k → f i < n) → nsk f k < 2 ^ n := by
  intro k h
  exact zfo_ind (fun x => x < 2 ^ n) (Nat.two_pow_pos n) k (fun i x hi hx => or_lt2 hx (h i hi))
theorem nsk_bit {f : Nat → Nat} {j : Nat} : ∀ k, (nsk f k).testBit j = nany (fun i => decide (f i = j)) k := by
  intro k
  induction k with
  | zero => simp [nsk, zfo, nany]
  | succ k ih =>
    unfold nsk at ih ⊢
    rw [zfo_s, tb_or, ih, nany]
def nfw (N : zLv) (s : Nat × Nat × Nat) (len : Nat) (old : Nat → Int32) (p : Nat) : Nat → Int32 := fun i => if len ≤ i ∧ i < p then nI (nitr N s (i - len + 1)).2.1 else old i
theorem q_follow {h : zm_H} {t q len S0 a0 rank : Nat} {N : zLv} {f : Nat → Nat} (hT : tbS h t) (hW : WB N) (hB : TBg h t N S0 a0) (hq : q < t ∨ t + 4 < q) (hkq : zK h q = (0, 11)) (hlen : 1 ≤ len ∧ len ≤ N 0) (hf : ∀ i, i < len → zI h q i = nI (f i) ∧ f i < N 0) (hv : nvs N (nsk f len, f (len - 1), rank)) (hw : 0 < nWW N S0 a0 (nsk f len) (f (len - 1))) (hpc : npc (nsk f len) (N 0) = len) :
    sX4_follow [.ref t, .ref q, .int (nI len), .long (lN rank)] h = some (.inl none, zrI h q (nfw N (nsk f len, f (len - 1), rank) len (zI h q) (N 0))) := by
  have hn := hW.1
  have hp := pow_le hn
  have hT0 := hT
  obtain ⟨k0, p0, p1, p2, p3, k1, k2, k3, k4⟩ := hT
  have ht0 : t ≠ q := by omega
  obtain ⟨R, hR⟩ : ∃ R : zm_O → Prop, R = (fun y => y = (.inl none, zrI h q (nfw N (nsk f len, f (len - 1), rank) len (zI h q) (N 0)))) := ⟨_, rfl⟩
  obtain ⟨s0, hs0⟩ : ∃ s0, s0 = (nsk f len, f (len - 1), rank) := ⟨_, rfl⟩
  rw [← hs0] at hR hv
  -- one place after the other
  have places : ∀ d p, p + d = N 0 → len ≤ p → nvs N (nitr N s0 (p - len)) → npc (nitr N s0 (p - len)).1 (N 0) = p → 0 < nWW N S0 a0 (nitr N s0 (p - len)).1 (nitr N s0 (p - len)).2.1 →
      zTo vX4_follow rX4_follow (21, [some (.ref t), some (.ref q), none, none, none, some (.int (nI (nitr N s0 (p - len)).1)), some (.long (lN (nitr N s0 (p - len)).2.2)), none, some (.int (nI p)), none, none, none, none], [], zrI h q (nfw N s0 len (zI h q) p)) R := by
    intro d
    induction d with
    | zero =>
      intro p hp2 hlp hvp hpp hwp
      have hp3 : p = N 0 := by omega
      have b4 : ∀ p, zI (zrI h q (nfw N s0 len (zI h q) p)) t = zI h t := fun p => I_rIn ht0
      refine zTo_of gX4_follow_21 ?_
      simp only [K_sI, K_sJ, K_sD, K_sP, K_rI, K_rJ, P_sI, P_sJ, P_sD, P_rI, P_rJ, N_sI, N_sJ, N_sD, N_sP, N_rI, N_rJ, J_sI, J_sD, J_sP, J_rI, I_sJ, I_sD, I_sP, I_rJ, D_sI, D_sJ, D_sP, D_rI, D_rJ, k0, b4, hB.1.1, hp3, nI_le (Nat.le_refl _) (show N 0 < 2 ^ 31 by omega), zmp_s, zlt_s, zcV_s, zcI_s, zcJ_s, zcA_s, zcD_s, zcF_s, zth_n, zth_t, zrt_s, zQ_l, zQ_r, false_or, or_false, not_false_eq_true, not_true_eq_false, and_self, true_and, and_true, if_true, if_false, ite_true, ite_false, zgd_t]
      rw [hR]
    | succ d ih =>
      intro p hp2 hlp hvp hpp hwp
      have b4 : zI (zrI h q (nfw N s0 len (zI h q) p)) t 4 = nI (N 0) := by rw [I_rIn ht0]; exact hB.1.1
      have b3 : zI (zrI h q (nfw N s0 len (zI h q) p)) (t + 3) = zI h (t + 3) := I_rIn (by omega)
      obtain ⟨f1, f2, f3, f4⟩ := nI_for (show p < N 0 by omega) (by omega)
      have f5 : ¬ 11 ≤ p := by omega
      have e1 : nI p - (1 : Int32) = nI (p - 1) := pk_sub (b := 1) (by omega)
      have e2 := nI_clamp (show p - 1 < 2 ^ 31 by omega)
      have e3 := nI_lt0 (show p - 1 < 2 ^ 31 by omega)
      have e4 : ¬ 11 ≤ p - 1 := by omega
      -- the room at the place ahead
      have ra : zI (zrI h q (nfw N s0 len (zI h q) p)) q (p - 1) = nI (nitr N s0 (p - len)).2.1 := by
        rw [I_rIs]
        unfold nfw
        by_cases w : len ≤ p - 1
        · rw [if_pos ⟨w, by omega⟩, show p - 1 - len + 1 = p - len by omega]
        · rw [if_neg (fun e => w e.1), show p - len = 0 by omega, hs0, show p - 1 = len - 1 by omega]
          exact (hf (len - 1) (by omega)).1
      obtain ⟨S, a, left, hst⟩ : ∃ S a left, nitr N s0 (p - len) = (S, a, left) := ⟨_, _, _, rfl⟩
      have hne : S ≠ 2 ^ N 0 - 1 := by
        intro e
        rw [hst] at hpp
        simp only at hpp
        rw [e, npc_full] at hpp
        omega
      have hok := nstp_ok hW hvp (by rw [hst]; exact hne)
      have hst1 : nitr N s0 (p + 1 - len) = nstp N (S, a, left) := by
        rw [show p + 1 - len = p - len + 1 by omega, nitr, hst]
      rw [hst] at hok hvp hpp hwp ra ⊢
      simp only at hvp hpp hwp ra ⊢
      obtain ⟨v1, v2, v3, v4⟩ := hvp
      simp only at v1 v2 v3 v4
      have c1 := nI_clamp (show S * 11 + a < 2 ^ 31 by omega)
      have c2 := nI_lt0 (show S * 11 + a < 2 ^ 31 by omega)
      have c3 : ¬ 22528 ≤ S * 11 + a := by omega
      have c4 : zI h (t + 3) (S * 11 + a) = nI (nld N S a &&& (S ^^^ 4294967295)) := hB.1.2.2.2.1 S a v1 v2 hwp
      refine zTo_of gX4_follow_21 ?_
      simp only [K_sI, K_sJ, K_sD, K_sP, K_rI, K_rJ, P_sI, P_sJ, P_sD, P_rI, P_rJ, N_sI, N_sJ, N_sD, N_sP, N_rI, N_rJ, J_sI, J_sD, J_sP, J_rI, I_sJ, I_sD, I_sP, I_rJ, D_sI, D_sJ, D_sP, D_rI, D_rJ, k0, b4, f1, p2, hkq, e1, e2, e3, e4, ra, q_cell, k3, c1, c2, c3, b3, c4, zmp_s, zlt_s, zcV_s, zcI_s, zcJ_s, zcA_s, zcD_s, zcF_s, zth_n, zth_t, zrt_s, zQ_l, zQ_r, false_or, or_false, not_false_eq_true, not_true_eq_false, and_self, true_and, and_true, if_true, if_false, ite_true, ite_false, zgd_t]
      have hol := on_lt hW S a
      have hob : ∀ i, i < 32 → (nld N S a &&& (S ^^^ 4294967295)).testBit i = nnx N S a i := fun i hi => on_bit hi
      generalize nld N S a &&& (S ^^^ 4294967295) = on at hol hob ⊢
      have hB2 : TBg (zrI h q (nfw N s0 len (zI h q) p)) t N S0 a0 := TBg_off (A := fun c => c = q) (zFr.rI rfl) (fun i hi => by omega) hB
      have hT2 : tbS (zrI h q (nfw N s0 len (zI h q) p)) t := tbS_kp rfl rfl hT0
      obtain ⟨hok1, hok2, hok3, hok4, hok5, hok6⟩ := hok
      simp only at hok2 hok3 hok5 hok6
      obtain ⟨r0, hr0⟩ : ∃ r0, r0 = (nstp N (S, a, left)).2.1 := ⟨_, rfl⟩
      rw [← hr0] at hok2 hok4 hok5 hok6
      have hS1 : (nstp N (S, a, left)).1 = S ||| 2 ^ r0 := by rw [hr0]; rfl
      have hl1 : (nstp N (S, a, left)).2.2 = left - zsu (ncn N S a) r0 := by rw [hr0]; rfl
      have fin : zTo vX4_follow rX4_follow (21, [some (.ref t), some (.ref q), none, none, none, some (.int (nI (S ||| 2 ^ r0))), some (.long (lN (left - zsu (ncn N S a) r0))), none, some (.int (nI (p + 1))), none, none, none, none], [], zsI (zrI h q (nfw N s0 len (zI h q) p)) q p (nI r0)) R := by
        have e : zsI (zrI h q (nfw N s0 len (zI h q) p)) q p (nI r0) = zrI h q (nfw N s0 len (zI h q) (p + 1)) := by
          rw [sI_rI, rI_rI, I_rIs]
          congr 1
          funext i
          unfold zput nfw
          by_cases w : i = p
          · rw [if_pos w, if_pos ⟨by omega, by omega⟩, w, show p - len + 1 = p + 1 - len by omega, hst1, hr0]
          · rw [if_neg w]
            by_cases w2 : len ≤ i ∧ i < p
            · rw [if_pos w2, if_pos ⟨w2.1, by omega⟩]
            · rw [if_neg w2, if_neg (by omega)]
        rw [e]
        have := ih (p + 1) (by omega) (by omega) (by rw [hst1]; exact hok1) (by rw [hst1]; omega) (by rw [hst1, hS1, ← hr0]; exact nWW_on hW v2 hwp hok2)
        rw [hst1, hS1, hl1] at this
        exact this
      have tl := nTT_lt hW v1 a
      have rooms : ∀ d r, r + d = r0 → zTo vX4_follow rX4_follow (38, [some (.ref t), some (.ref q), none, none, none, some (.int (nI S)), some (.long (lN (left - zsu (ncn N S a) r))), none, some (.int (nI p)), some (.int (nI r)), some (.int (nI on)), none, none], [], zrI h q (nfw N s0 len (zI h q) p)) R := by
        intro d
        induction d with
        | zero =>
          intro r hr
          have hr : r = r0 := by omega
          rw [hr]
          refine zTo_of gX4_follow_38 ?_
          have g1 : nI r0 + (1 : Int32) = nI (r0 + 1) := nI_1 r0
          simp only [K_sI, K_sJ, K_sD, K_sP, K_rI, K_rJ, P_sI, P_sJ, P_sD, P_rI, P_rJ, N_sI, N_sJ, N_sD, N_sP, N_rI, N_rJ, J_sI, J_sD, J_sP, J_rI, I_sJ, I_sD, I_sP, I_rJ, D_sI, D_sJ, D_sP, D_rI, D_rJ, k0, b4, g1, nI_leI (show N 0 < 2 ^ 31 by omega) (show r0 + 1 < 2 ^ 31 by omega), zgd_t]
          by_cases w : N 0 ≤ r0 + 1
          · simp only [w, false_or, or_false, not_false_eq_true, not_true_eq_false, and_self, true_and, and_true, if_true, if_false, ite_true, ite_false, K_sI, K_sJ, K_sD, K_sP, K_rI, K_rJ, P_sI, P_sJ, P_sD, P_rI, P_rJ, N_sI, N_sJ, N_sD, N_sP, N_rI, N_rJ, J_sI, J_sD, J_sP, J_rI, I_sJ, I_sD, I_sP, I_rJ, D_sI, D_sJ, D_sP, D_rI, D_rJ, hkq, f2, f3, f5, f4, nx_shl1 (show r0 < 32 by omega), nx_or, zmp_s, zlt_s, zcV_s, zcI_s, zcJ_s, zcA_s, zcD_s, zcF_s, zth_n, zth_t, zrt_s, zQ_l, zQ_r, zgd_t]
            exact fin
          · have w1 := or_lt2 v1 hok4
            have w2 : nTB N S0 a0 (S ||| 2 ^ r0) r0 = ncn N S a r0 := by
              unfold nTB ncn
              rw [if_pos (nWW_on hW v2 hwp hok2), if_pos hok2]
            have w3 : ¬ ncn N S a r0 ≤ left - zsu (ncn N S a) r0 := by rw [zsu_s] at hok6; omega
            have w4 : ncn N S a r0 < 2 ^ 63 := by
              unfold ncn
              rw [if_pos hok2]
              have := nTT_lt hW w1 r0
              omega
            have w5 : (0 ≤ lg_cmp (lN (left - zsu (ncn N S a) r0)) (lN (ncn N S a r0))) = False := eq_false (by
              rw [lg_cmp_ge, pk_lLE w4 (by omega)]; exact w3)
            simp only [w, false_or, or_false, not_false_eq_true, not_true_eq_false, and_self, true_and, and_true, if_true, if_false, ite_true, ite_false, q_has (show on < 2 ^ 31 by omega) (show r0 < 32 by omega), zb_0, hob r0 (by omega), hok2, Bool.true_eq_false, K_sI, K_sJ, K_sD, K_sP, K_rI, K_rJ, P_sI, P_sJ, P_sD, P_rI, P_rJ, N_sI, N_sJ, N_sD, N_sP, N_rI, N_rJ, J_sI, J_sD, J_sP, J_rI, I_sJ, I_sD, I_sP, I_rJ, D_sI, D_sJ, D_sP, D_rI, D_rJ, k0, nx_shl1 (show r0 < 32 by omega), nx_or, q_begun hT2 hW hB2 w1 hok4, w2, w5, hkq, f2, f3, f5, f4, zmp_s, zlt_s, zcV_s, zcI_s, zcJ_s, zcA_s, zcD_s, zcF_s, zth_n, zth_t, zrt_s, zQ_l, zQ_r, zgd_t]
            exact fin
        | succ d ih2 =>
          intro r hr
          have hrn : r < N 0 := by omega
          have g1 : nI r + (1 : Int32) = nI (r + 1) := nI_1 r
          have w : ¬ N 0 ≤ r + 1 := by omega
          have m1 := zsu_mono (c := ncn N S a) (show r + 1 ≤ r0 by omega)
          have m2 := m1
          rw [zsu_s] at m2
          have m3 : left - zsu (ncn N S a) r - ncn N S a r = left - zsu (ncn N S a) (r + 1) := by rw [zsu_s]; omega
          refine zTo_of gX4_follow_38 ?_
          simp only [K_sI, K_sJ, K_sD, K_sP, K_rI, K_rJ, P_sI, P_sJ, P_sD, P_rI, P_rJ, N_sI, N_sJ, N_sD, N_sP, N_rI, N_rJ, J_sI, J_sD, J_sP, J_rI, I_sJ, I_sD, I_sP, I_rJ, D_sI, D_sJ, D_sP, D_rI, D_rJ, k0, b4, g1, nI_leI (show N 0 < 2 ^ 31 by omega) (show r + 1 < 2 ^ 31 by omega), w, false_or, or_false, not_false_eq_true, not_true_eq_false, and_self, true_and, and_true, if_true, if_false, ite_true, ite_false, q_has (show on < 2 ^ 31 by omega) (show r < 32 by omega), zb_0, hob r (by omega), zmp_s, zlt_s, zcV_s, zcI_s, zcJ_s, zcA_s, zcD_s, zcF_s, zth_n, zth_t, zrt_s, zQ_l, zQ_r, zgd_t]
          by_cases x : nnx N S a r = true
          · obtain ⟨x1, x2⟩ := nnx_ok hW S a r x
            have w1 := or_lt2 v1 x1
            have w2 : nTB N S0 a0 (S ||| 2 ^ r) r = ncn N S a r := by
              unfold nTB ncn
              rw [if_pos (nWW_on hW v2 hwp x), if_pos x]
            have w4 : ncn N S a r < 2 ^ 63 := by
              unfold ncn
              rw [if_pos x]
              have := nTT_lt hW w1 r
              omega
            have w5 : (0 ≤ lg_cmp (lN (left - zsu (ncn N S a) r)) (lN (ncn N S a r))) = True := eq_true (by
              rw [lg_cmp_ge, pk_lLE w4 (by omega)]; omega)
            have w6 : lN (left - zsu (ncn N S a) r) - lN (ncn N S a r) = lN (left - zsu (ncn N S a) (r + 1)) := by rw [lN_sub (by omega), m3]
            simp only [x, Bool.true_eq_false, false_or, or_false, not_false_eq_true, not_true_eq_false, and_self, true_and, and_true, if_true, if_false, ite_true, ite_false, K_sI, K_sJ, K_sD, K_sP, K_rI, K_rJ, P_sI, P_sJ, P_sD, P_rI, P_rJ, N_sI, N_sJ, N_sD, N_sP, N_rI, N_rJ, J_sI, J_sD, J_sP, J_rI, I_sJ, I_sD, I_sP, I_rJ, D_sI, D_sJ, D_sP, D_rI, D_rJ, k0, nx_shl1 (show r < 32 by omega), nx_or, q_begun hT2 hW hB2 w1 hrn, w2, w5, w6, zmp_s, zlt_s, zcV_s, zcI_s, zcJ_s, zcA_s, zcD_s, zcF_s, zth_n, zth_t, zrt_s, zQ_l, zQ_r, zgd_t]
            exact ih2 (r + 1) (by omega)
          · have x : nnx N S a r = false := by simpa using x
            have x0 : ncn N S a r = 0 := by unfold ncn; rw [x]; rfl
            have w5 : (0 ≤ lg_cmp (lN (left - zsu (ncn N S a) r)) (0 : Int64)) = True := eq_true (by
              rw [lg_cmp_ge]
              show lN 0 ≤ _
              rw [pk_lLE (by omega) (by omega)]; omega)
            have w6 : lN (left - zsu (ncn N S a) r) - (0 : Int64) = lN (left - zsu (ncn N S a) (r + 1)) := by
              show lN _ - lN 0 = _
              rw [lN_sub (by omega), zsu_s, x0]; rfl
            simp only [x, false_or, or_false, not_false_eq_true, not_true_eq_false, and_self, true_and, and_true, if_true, if_false, ite_true, ite_false, w5, w6, zmp_s, zlt_s, zcV_s, zcI_s, zcJ_s, zcA_s, zcD_s, zcF_s, zth_n, zth_t, zrt_s, zQ_l, zQ_r]
            exact ih2 (r + 1) (by omega)
      have := rooms r0 0 (by omega)
      rw [show left - zsu (ncn N S a) 0 = left by simp [zsu]] at this
      exact this
  have hsim : zW (sX4_follow [.ref t, .ref q, .int (nI len), .long (lN rank)] h) R := by
    refine zsem_to (Nat.le_of_ble_eq_true rfl) (zTo_of gX4_follow_0 ?_)
    refine zTo_for (f := fun i => (4, [some (.ref t), some (.ref q), some (.int (nI len)), some (.long (lN rank)), none, some (.int (nI (nsk f i))), some (.int (nI i)), none, none, none, none, none, none], [], h)) len 0 (Nat.zero_le _) (fun i _ hi => ?_) (zTo_of gX4_follow_4 ?_)
    · obtain ⟨f1, f2, f3, f4⟩ := nI_for hi (by omega)
      have f5 : ¬ 11 ≤ i := by omega
      obtain ⟨y1, y2⟩ := hf i hi
      simp only [gX4_follow_4, f1, f2, f3, f4, f5, hkq, y1, nx_shl1 (show f i < 32 by omega), nx_or, zmp_s, zlt_s, zcV_s, zcI_s, zcJ_s, zcA_s, zcD_s, zcF_s, zth_n, zth_t, zrt_s, zQ_l, zQ_r, false_or, or_false, not_false_eq_true, not_true_eq_false, and_self, true_and, and_true, if_true, if_false, ite_true, ite_false, zgd_t]
      rfl
    · simp only [nI_le (Nat.le_refl _) (show len < 2 ^ 31 by omega), zmp_s, zlt_s, zcV_s, zcI_s, zcJ_s, zcA_s, zcD_s, zcF_s, zth_n, zth_t, zrt_s, zQ_l, zQ_r, false_or, or_false, not_false_eq_true, not_true_eq_false, and_self, true_and, and_true, if_true, if_false, ite_true, ite_false]
      have e : zrI h q (nfw N s0 len (zI h q) len) = h := by
        have : nfw N s0 len (zI h q) len = zI h q := by funext i; unfold nfw; exact if_neg (by omega)
        rw [this, rI_id]
      have := places (N 0 - len) len (by omega) (Nat.le_refl _) (by rw [Nat.sub_self]; exact hv) (by rw [Nat.sub_self, hs0]; exact hpc) (by rw [Nat.sub_self, hs0]; exact hw)
      rw [e, Nat.sub_self, hs0] at this
      exact this
  rw [hR, hs0] at hsim
  exact zW_eq.mp hsim
/-- tours ahead of a row of rooms -/
def nah (N : zLv) (f : Nat → Nat) (len : Nat) : Nat := zsu (fun k => zsu (ncn N (nsk f (k + 1)) (f k)) (f (k + 1))) (len - 1)
theorem q_toursAhead {h : zm_H} {t q len S0 a0 : Nat} {N : zLv} {f : Nat → Nat} (hT : tbS h t) (hW : WB N) (hB : TBg h t N S0 a0) (hkq : zK h q = (0, 11)) (hlen : 1 ≤ len ∧ len ≤ N 0) (hf : ∀ i, i < len → zI h q i = nI (f i) ∧ f i < N 0) (hw : ∀ k, k + 1 < len → 0 < nWW N S0 a0 (nsk f (k + 1)) (f k)) :
    sX4_toursAhead [.ref t, .ref q, .int (nI len)] h = some (.inl (some (.long (lN (nah N f len)))), h) := by
  have hn := hW.1
  have hp := pow_le hn
  have hT0 := hT
  obtain ⟨k0, p0, p1, p2, p3, k1, k2, k3, k4⟩ := hT
  refine zsem_eq (Nat.le_of_ble_eq_true rfl) (zTo_of gX4_toursAhead_0 ?_)
  have key : ∀ d k, k + d = len - 1 → zTo vX4_toursAhead rX4_toursAhead (6, [some (.ref t), some (.ref q), some (.int (nI len)), some (.int (nI (nsk f k))), some (.long (lN (zsu (fun k => zsu (ncn N (nsk f (k + 1)) (f k)) (f (k + 1))) k))), none, some (.int (nI k)), none, none], [], h) (fun y => y = (.inl (some (.long (lN (nah N f len)))), h)) := by
    intro d
    induction d with
    | zero =>
      intro k hk
      have hk : k = len - 1 := by omega
      have e1 : nI k + (1 : Int32) = nI len := by rw [nI_1]; congr 1; omega
      refine zTo_of gX4_toursAhead_6 ?_
      simp only [e1, nI_le (Nat.le_refl _) (show len < 2 ^ 31 by omega), zmp_s, zlt_s, zcV_s, zcI_s, zcJ_s, zcA_s, zcD_s, zcF_s, zth_n, zth_t, zrt_s, zQ_l, zQ_r, false_or, or_false, not_false_eq_true, not_true_eq_false, and_self, true_and, and_true, if_true, if_false, ite_true, ite_false]
      unfold nah
      rw [hk]
    | succ d ih =>
      intro k hk
      have e1 : nI k + (1 : Int32) = nI (k + 1) := nI_1 k
      obtain ⟨f1, f2, f3, f4⟩ := nI_for (show k + 1 < len by omega) (by omega)
      obtain ⟨g1, g2, g3, g4⟩ := nI_for (show k < len by omega) (by omega)
      have f5 : ¬ 11 ≤ k + 1 := by omega
      have g5 : ¬ 11 ≤ k := by omega
      obtain ⟨y1, y2⟩ := hf k (by omega)
      obtain ⟨y3, y4⟩ := hf (k + 1) (by omega)
      have hSl : nsk f (k + 1) < 2 ^ N 0 := nsk_lt (k + 1) (fun i hi => (hf i (by omega)).2)
      have hSe : nsk f k ||| 2 ^ f k = nsk f (k + 1) := rfl
      have hwk := hw k (by omega)
      have c1 := nI_clamp (show nsk f (k + 1) * 11 + f k < 2 ^ 31 by omega)
      have c2 := nI_lt0 (show nsk f (k + 1) * 11 + f k < 2 ^ 31 by omega)
      have c3 : ¬ 22528 ≤ nsk f (k + 1) * 11 + f k := by omega
      have c4 : zI h (t + 3) (nsk f (k + 1) * 11 + f k) = nI (nld N (nsk f (k + 1)) (f k) &&& (nsk f (k + 1) ^^^ 4294967295)) := hB.1.2.2.2.1 _ _ hSl y2 hwk
      refine zTo_of gX4_toursAhead_6 ?_
      simp only [e1, f1, g2, g3, g5, hkq, k0, p2, k3, y1, nx_shl1 (show f k < 32 by omega), nx_or, hSe, q_cell, c1, c2, c3, c4, zmp_s, zlt_s, zcV_s, zcI_s, zcJ_s, zcA_s, zcD_s, zcF_s, zth_n, zth_t, zrt_s, zQ_l, zQ_r, false_or, or_false, not_false_eq_true, not_true_eq_false, and_self, true_and, and_true, if_true, if_false, ite_true, ite_false, zgd_t]
      have hol := on_lt hW (nsk f (k + 1)) (f k)
      have hob : ∀ i, i < 32 → (nld N (nsk f (k + 1)) (f k) &&& (nsk f (k + 1) ^^^ 4294967295)).testBit i = nnx N (nsk f (k + 1)) (f k) i := fun i hi => on_bit hi
      generalize nld N (nsk f (k + 1)) (f k) &&& (nsk f (k + 1) ^^^ 4294967295) = on at hol hob ⊢
      refine zTo_for (f := fun r => (30, [some (.ref t), some (.ref q), some (.int (nI len)), some (.int (nI (nsk f (k + 1)))), some (.long (lN (zsu (fun k => zsu (ncn N (nsk f (k + 1)) (f k)) (f (k + 1))) k + zsu (ncn N (nsk f (k + 1)) (f k)) r))), none, some (.int (nI k)), some (.int (nI on)), some (.int (nI r))], [], h)) (f (k + 1)) 0 (Nat.zero_le _) (fun r _ hr => ?_) (zTo_of gX4_toursAhead_30 ?_)
      · obtain ⟨r1, r2, r3, r4⟩ := nI_for hr (by omega)
        simp only [gX4_toursAhead_30, e1, f2, f3, f5, hkq, y3, r1, r4, q_has (show on < 2 ^ 31 by omega) (show r < 32 by omega), zb_0, hob r (by omega), zsu_s, zmp_s, zlt_s, zcV_s, zcI_s, zcJ_s, zcA_s, zcD_s, zcF_s, zth_n, zth_t, zrt_s, zQ_l, zQ_r, false_or, or_false, not_false_eq_true, not_true_eq_false, and_self, true_and, and_true, if_true, if_false, ite_true, ite_false, zgd_t]
        by_cases x : nnx N (nsk f (k + 1)) (f k) r = true
        · obtain ⟨x1, x2⟩ := nnx_ok hW _ _ r x
          have w1 := or_lt2 hSl x1
          have w2 : nTB N S0 a0 (nsk f (k + 1) ||| 2 ^ r) r = ncn N (nsk f (k + 1)) (f k) r := by
            unfold nTB ncn
            rw [if_pos (nWW_on hW y2 hwk x), if_pos x]
          simp only [x, Bool.true_eq_false, false_or, or_false, not_false_eq_true, not_true_eq_false, and_self, true_and, and_true, if_true, if_false, ite_true, ite_false, k0, nx_shl1 (show r < 32 by omega), nx_or, q_begun hT0 hW hB w1 x1, w2, lN_add, zmp_s, zlt_s, zcV_s, zcI_s, zcJ_s, zcA_s, zcD_s, zcF_s, zth_n, zth_t, zrt_s, zQ_l, zQ_r, zgd_t, Nat.add_assoc]
        · have x : nnx N (nsk f (k + 1)) (f k) r = false := by simpa using x
          have x0 : ncn N (nsk f (k + 1)) (f k) r = 0 := by unfold ncn; rw [x]; rfl
          simp only [x, false_or, or_false, not_false_eq_true, not_true_eq_false, and_self, true_and, and_true, if_true, if_false, ite_true, ite_false, x0, Nat.add_zero]
      · simp only [e1, f2, f3, f5, hkq, y3, nI_le (Nat.le_refl _) (show f (k + 1) < 2 ^ 31 by omega), zmp_s, zlt_s, zcV_s, zcI_s, zcJ_s, zcA_s, zcD_s, zcF_s, zth_n, zth_t, zrt_s, zQ_l, zQ_r, false_or, or_false, not_false_eq_true, not_true_eq_false, and_self, true_and, and_true, if_true, if_false, ite_true, ite_false, zgd_t]
        exact ih (k + 1) (by omega)
  exact key (len - 1) 0 (by omega)
end ZRK

