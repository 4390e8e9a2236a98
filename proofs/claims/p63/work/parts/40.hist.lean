/-! THE CLASS: names written, numbers written, a whole name, what can be undone. -/
section ZHI
theorem nl_shr {w k : Nat} (hw : w < 2 ^ 56) (hk : k < 64) : lN w >>> ((nI k).toInt64 &&& 63) = lN (w >>> k) := by
  apply Int64.toBitVec_inj.1
  rw [Int64.toBitVec_shiftRight]
  have e : (((nI k).toInt64 &&& 63).toBitVec.smod 64).toNat = k := (by decide +kernel : ∀ k, k < 64 → (((nI k).toInt64 &&& 63).toBitVec.smod 64).toNat = k) k hk
  show (BitVec.ofNat 64 w).sshiftRight (((nI k).toInt64 &&& 63).toBitVec.smod 64).toNat = BitVec.ofNat 64 (w >>> k)
  rw [e]
  apply BitVec.eq_of_toNat_eq
  have h1 : (BitVec.ofNat 64 w).msb = false := by
    rw [BitVec.msb_eq_decide]
    simp only [BitVec.toNat_ofNat, decide_eq_false_iff_not]
    omega
  rw [BitVec.toNat_sshiftRight_of_msb_false h1]
  have h2 : w >>> k ≤ w := Nat.shiftRight_le w k
  simp only [BitVec.toNat_ofNat]
  rw [Nat.mod_eq_of_lt (show w < 2 ^ 64 by omega), Nat.mod_eq_of_lt (show w >>> k < 2 ^ 64 by omega)]
theorem nl_byte (w : Nat) : (lN w).toInt32 &&& 255 = nI (w % 256) := by
  rw [lN_i]
  show nI w &&& nI 255 = _
  rw [nx_and, show (255 : Nat) = 2 ^ 8 - 1 from rfl, Nat.and_two_pow_sub_one_eq_mod]
theorem nI_255 {x : Nat} (h : x < 256) : nI x &&& (255 : Int32) = nI x := by
  show nI x &&& nI 255 = _
  rw [nx_and, show (255 : Nat) = 2 ^ 8 - 1 from rfl, Nat.and_two_pow_sub_one_eq_mod, Nat.mod_eq_of_lt h]
/-- the letters of a name, by its number -/
def nlt : Nat → Nat → List Int32
  | 0, _ => []
  | f + 1, c => if c = 0 then [] else nlt f (c / 27) ++ [nI (96 + c % 27)]
theorem nlt_len : ∀ f c, (nlt f c).length ≤ f := by
  intro f
  induction f with
  | zero => intro c; exact Nat.le_refl _
  | succ f ih =>
    intro c
    unfold nlt
    split
    · exact Nat.zero_le _
    · rw [List.length_append]
      have := ih (c / 27)
      simp; omega
/-- the letters out of the packed name: places j-1 .. 0 -/
def npl (w : Nat) : Nat → List Int32
  | 0 => []
  | j + 1 => (if (w >>> (8 * j)) % 256 = 0 then [] else [nI ((w >>> (8 * j)) % 256)]) ++ npl w j
theorem npl_len (w : Nat) : ∀ j, (npl w j).length ≤ j := by
  intro j
  induction j with
  | zero => exact Nat.le_refl _
  | succ j ih =>
    unfold npl
    rw [List.length_append]
    split <;> simp <;> omega
theorem npl_s (w j : Nat) : npl w (j + 1) = (if (w >>> (8 * j)) % 256 = 0 then [] else [nI ((w >>> (8 * j)) % 256)]) ++ npl w j := rfl
theorem npl_shift {x d : Nat} (hd : d < 256) : ∀ j, npl (x * 256 + d) (j + 1) = npl x j ++ npl d 1 := by
  intro j
  induction j with
  | zero =>
    unfold npl npl
    simp only [Nat.mul_zero, Nat.shiftRight_zero, List.nil_append, List.append_nil]
    have : (x * 256 + d) % 256 = d % 256 := by omega
    rw [this]
  | succ j ih =>
    rw [npl_s (x * 256 + d) (j + 1), ih, npl_s x j]
    have : (x * 256 + d) >>> (8 * (j + 1)) = x >>> (8 * j) := by
      rw [Nat.shiftRight_eq_div_pow, Nat.shiftRight_eq_div_pow, show 2 ^ (8 * (j + 1)) = 256 * 2 ^ (8 * j) by rw [show 8 * (j + 1) = 8 + 8 * j by omega, Nat.pow_add], ← Nat.div_div_eq_div_mul]
      congr 1
      omega
    rw [this, List.append_assoc]
theorem npl_nlt : ∀ f c j, c < 27 ^ f → f ≤ j → npl (pk27 f c) j = nlt f c := by
  intro f
  induction f with
  | zero =>
    intro c j _ _
    unfold pk27 nlt
    induction j with
    | zero => rfl
    | succ j ih => unfold npl; rw [Nat.zero_shiftRight]; simp [ih]
  | succ f ih =>
    intro c j hc hj
    unfold pk27 nlt
    by_cases e : c = 0
    · rw [if_pos e, if_pos e]
      clear hj
      induction j with
      | zero => rfl
      | succ j ih => unfold npl; rw [Nat.zero_shiftRight]; simp [ih]
    · rw [if_neg e, if_neg e]
      obtain ⟨j, rfl⟩ : ∃ i, j = i + 1 := ⟨j - 1, by omega⟩
      have h27 : c % 27 < 27 := Nat.mod_lt _ (by omega)
      rw [npl_shift (by omega), ih (c / 27) j (by rw [Nat.pow_succ] at hc; exact Nat.div_lt_of_lt_mul (by rw [Nat.mul_comm]; exact hc)) (by omega)]
      congr 1
      unfold npl npl
      simp only [Nat.mul_zero, Nat.shiftRight_zero]
      rw [Nat.mod_eq_of_lt (show 96 + c % 27 < 256 by omega), if_neg (by omega)]
      rfl
theorem pk27_more : ∀ f c, c < 27 ^ f → pk27 (f + 1) c = pk27 f c := by
  intro f
  induction f with
  | zero => intro c hc; have : c = 0 := by omega
            subst this; rfl
  | succ f ih =>
    intro c hc
    rw [pk27]
    conv => rhs; rw [pk27]
    split
    · rfl
    · rw [ih (c / 27) (by rw [Nat.pow_succ] at hc; exact Nat.div_lt_of_lt_mul (by rw [Nat.mul_comm]; exact hc))]
/-- a number's digits, up to 999 -/
def ndg (v : Nat) : List Int32 := (if 99 < v then [nI (48 + v / 100)] else []) ++ ((if 9 < v then [nI (48 + v / 10 % 10)] else []) ++ [nI (48 + v % 10)])
-- what can be undone
def hiS (h : zm_H) : Prop := zK h 27 = (7, 3) ∧ zP h 27 0 = some 28 ∧ zK h 28 = (5, 6) ∧ (∀ i, i < 6 → zP h 28 i = some (29 + 11 * i)) ∧ ∀ i, i < 6 → lvS h (29 + 11 * i)
/-- the ring: its next place and its number -/
def hiR (h : zm_H) (nx ct : Nat) : Prop := zI h 27 1 = nI nx ∧ zI h 27 2 = nI ct ∧ nx < 6 ∧ ct ≤ 6
def hiA : Nat → Prop := fun c => c = 27 ∨ (29 ≤ c ∧ c ≤ 94)
theorem q_push {h : zm_H} {a nx ct : Nat} {N : zLv} (hH : hiS h) (hR : hiR h nx ct) (hS : lvS h a) (ha : a + 10 < 27 ∨ 94 < a) (hL : KL h a N) (hN : N 0 ≤ 11 ∧ N 1 ≤ 20 ∧ N 4 ≤ 11) (ho : lvO h a) :
    ∃ g, sX1_push [.ref 27, .ref a] h = some (.inl none, g) ∧ zFr (fun c => c = 27 ∨ (29 + 11 * nx ≤ c ∧ c ≤ 39 + 11 * nx)) h g ∧ hiR g ((nx + 1) % 6) (if ct < 6 then ct + 1 else ct) ∧ KL g (29 + 11 * nx) N ∧ lvO g (29 + 11 * nx) := by
  obtain ⟨k0, p0, k1, p1, hl⟩ := hH
  obtain ⟨r1, r2, r3, r4⟩ := hR
  obtain ⟨g, s1, fr, c1, o1⟩ := q_copyFrom (hl nx r3) hS (show 29 + 11 * nx + 10 < a ∨ a + 10 < 29 + 11 * nx by omega) hL hN ho
  have K := fr.K
  have P := fr.P
  have f2 := nI_clamp (show nx < 2 ^ 31 by omega)
  have f3 := nI_lt0 (show nx < 2 ^ 31 by omega)
  have f5 : ¬ 6 ≤ nx := by omega
  have kl := (hl nx r3).1
  have e27 : zI g 27 = zI h 27 := fr.I (fun q => by unfold lvA at q; omega)
  have z6 : ((6 : Int32) = 0) = False := by decide +kernel
  have e1 : nI nx + (1 : Int32) = nI (nx + 1) := nI_1 _
  have e2 : nI (nx + 1) - nI (nx + 1) / (6 : Int32) * (6 : Int32) = nI ((nx + 1) % 6) := pk_rem (d := 6) (by omega) (by omega) (by omega)
  have e3 : nI ct + (1 : Int32) = nI (ct + 1) := nI_1 _
  have l6 : ((6 : Int32) ≤ nI ct) = (6 ≤ ct) := propext (nI_leI (a := 6) (by omega) (by omega))
  have m1 : (nx + 1) % 6 < 6 := Nat.mod_lt _ (by omega)
  have fr2 : zFr (fun c => c = 27 ∨ (29 + 11 * nx ≤ c ∧ c ≤ 39 + 11 * nx)) h g := fr.mono (fun c hc => by unfold lvA at hc; omega)
  by_cases w : ct < 6
  · refine ⟨zsI (zsI g 27 1 (nI ((nx + 1) % 6))) 27 2 (nI (ct + 1)), ?_, (fr2.tr (zFr.sI (Or.inl rfl))).tr (zFr.sI (Or.inl rfl)), ?_, ?_, ?_⟩
    · refine zsem_eq (Nat.le_of_ble_eq_true rfl) (zTo_of gX1_push_0 ?_)
      have g2 : zI (zsI g 27 1 (nI ((nx + 1) % 6))) 27 2 = nI ct := by rw [I_sIs, zput_ne _ _ (by omega), e27]; exact r2
      simp only [k0, p0, k1, r1, f2, f3, f5, p1 nx r3, kl, s1, K, e27, z6, e1, e2, K_sI, K_sJ, K_sD, K_sP, K_rI, K_rJ, P_sI, P_sJ, P_sD, P_rI, P_rJ, N_sI, N_sJ, N_sD, N_sP, N_rI, N_rJ, J_sI, J_sD, J_sP, J_rI, I_sJ, I_sD, I_sP, I_rJ, D_sI, D_sJ, D_sP, D_rI, D_rJ, g2, l6, show ¬ 6 ≤ ct by omega, e3, zmp_s, zlt_s, zcV_s, zcI_s, zcJ_s, zcA_s, zcD_s, zcF_s, zth_n, zth_t, zrt_s, zQ_l, zQ_r, false_or, or_false, not_false_eq_true, not_true_eq_false, and_self, true_and, and_true, if_true, if_false, ite_true, ite_false, zgd_t]
    · rw [if_pos w]
      refine ⟨?_, ?_, m1, by omega⟩
      · rw [I_sIs, zput_ne _ _ (by omega), I_sIs, zput_self]
      · rw [I_sIs, zput_self]
    · exact KL_fr (A := fun c => c = 27) ((zFr.sI (A := fun c => c = 27) rfl).tr (zFr.sI (A := fun c => c = 27) rfl)) (fun i hi => by omega) c1
    · exact lvO_fr (A := fun c => c = 27) ((zFr.sI (A := fun c => c = 27) rfl).tr (zFr.sI (A := fun c => c = 27) rfl)) (by omega) o1
  · refine ⟨zsI g 27 1 (nI ((nx + 1) % 6)), ?_, fr2.tr (zFr.sI (Or.inl rfl)), ?_, ?_, ?_⟩
    · refine zsem_eq (Nat.le_of_ble_eq_true rfl) (zTo_of gX1_push_0 ?_)
      have g2 : zI (zsI g 27 1 (nI ((nx + 1) % 6))) 27 2 = nI ct := by rw [I_sIs, zput_ne _ _ (by omega), e27]; exact r2
      simp only [k0, p0, k1, r1, f2, f3, f5, p1 nx r3, kl, s1, K, e27, z6, e1, e2, K_sI, K_sJ, K_sD, K_sP, K_rI, K_rJ, P_sI, P_sJ, P_sD, P_rI, P_rJ, N_sI, N_sJ, N_sD, N_sP, N_rI, N_rJ, J_sI, J_sD, J_sP, J_rI, I_sJ, I_sD, I_sP, I_rJ, D_sI, D_sJ, D_sP, D_rI, D_rJ, g2, l6, show 6 ≤ ct by omega, zmp_s, zlt_s, zcV_s, zcI_s, zcJ_s, zcA_s, zcD_s, zcF_s, zth_n, zth_t, zrt_s, zQ_l, zQ_r, false_or, or_false, not_false_eq_true, not_true_eq_false, and_self, true_and, and_true, if_true, if_false, ite_true, ite_false, zgd_t]
    · rw [if_neg w]
      refine ⟨?_, ?_, m1, by omega⟩
      · rw [I_sIs, zput_self]
      · rw [I_sIs, zput_ne _ _ (by omega), e27]; exact r2
    · exact KL_fr (A := fun c => c = 27) (zFr.sI rfl) (fun i hi => by omega) c1
    · exact lvO_fr (A := fun c => c = 27) (zFr.sI rfl) (by omega) o1
theorem q_pop {h : zm_H} {a nx ct : Nat} {N : zLv} (hH : hiS h) (hR : hiR h nx ct) (hc : 0 < ct) (hS : lvS h a) (ha : a + 10 < 27 ∨ 94 < a) (hL : KL h (29 + 11 * ((nx + 5) % 6)) N) (hN : N 0 ≤ 11 ∧ N 1 ≤ 20 ∧ N 4 ≤ 11) (ho : lvO h (29 + 11 * ((nx + 5) % 6))) :
    ∃ g, sX1_pop [.ref 27, .ref a] h = some (.inl none, g) ∧ zFr (fun c => c = 27 ∨ lvA a c) h g ∧ hiR g ((nx + 5) % 6) (ct - 1) ∧ KL g a N ∧ lvO g a := by
  obtain ⟨k0, p0, k1, p1, hl⟩ := hH
  obtain ⟨r1, r2, r3, r4⟩ := hR
  have m1 : (nx + 5) % 6 < 6 := Nat.mod_lt _ (by omega)
  obtain ⟨pv, hpv⟩ : ∃ pv, pv = (nx + 5) % 6 := ⟨_, rfl⟩
  rw [← hpv] at hL ho m1 ⊢
  obtain ⟨h1, hh1⟩ : ∃ h1, h1 = zsI h 27 1 (nI pv) := ⟨_, rfl⟩
  have fr1 : zFr (fun c => c = 27) h h1 := by rw [hh1]; exact zFr.sI rfl
  have hl1 := hl pv m1
  obtain ⟨g, s1, fr, c1, o1⟩ := q_copyFrom (lvS_fr fr1 hS) (lvS_fr fr1 hl1) (show a + 10 < 29 + 11 * pv ∨ 29 + 11 * pv + 10 < a by omega) (KL_fr fr1 (fun i hi => by omega) hL) hN (lvO_fr fr1 (by omega) ho)
  have K := fr.K
  have K1 := fr1.K
  have P1 := fr1.P
  have f2 := nI_clamp (show pv < 2 ^ 31 by omega)
  have f3 := nI_lt0 (show pv < 2 ^ 31 by omega)
  have f5 : ¬ 6 ≤ pv := by omega
  have ka := hS.1
  have e27 : zI g 27 = zI h1 27 := fr.I (fun q => by unfold lvA at q; omega)
  have z6 : ((6 : Int32) = 0) = False := by decide +kernel
  have e0 : nI nx + (6 : Int32) - (1 : Int32) = nI (nx + 5) := by
    show nI nx + nI 6 - nI 1 = _
    rw [nI_add, pk_sub (by omega)]; rfl
  have e2 : nI (nx + 5) - nI (nx + 5) / (6 : Int32) * (6 : Int32) = nI pv := by rw [hpv]; exact pk_rem (d := 6) (by omega) (by omega) (by omega)
  have e3 : nI ct - (1 : Int32) = nI (ct - 1) := pk_sub (b := 1) hc
  have i1 : zI h1 27 1 = nI pv := by rw [hh1, I_sIs, zput_self]
  have i2 : zI h1 27 2 = nI ct := by rw [hh1, I_sIs, zput_ne _ _ (by omega)]; exact r2
  refine ⟨zsI g 27 2 (nI (ct - 1)), ?_, ?_, ⟨?_, ?_, m1, by omega⟩, ?_, ?_⟩
  · refine zsem_eq (Nat.le_of_ble_eq_true rfl) (zTo_of gX1_pop_0 ?_)
    simp only [k0, z6, r1, e0, e2, ← hh1, K1, P1, p0, k1, i1, f2, f3, f5, p1 pv m1, ka, s1, K, e27, i2, e3, zmp_s, zlt_s, zcV_s, zcI_s, zcJ_s, zcA_s, zcD_s, zcF_s, zth_n, zth_t, zrt_s, zQ_l, zQ_r, false_or, or_false, not_false_eq_true, not_true_eq_false, and_self, true_and, and_true, if_true, if_false, ite_true, ite_false, zgd_t]
  · exact ((fr1.mono (fun c hc => Or.inl hc)).tr (fr.mono (fun c hc => Or.inr hc))).tr (zFr.sI (Or.inl rfl))
  · rw [I_sIs, zput_ne _ _ (by omega), e27]; exact i1
  · rw [I_sIs, zput_self]
  · exact KL_fr (A := fun c => c = 27) (zFr.sI rfl) (fun i hi => by omega) c1
  · exact lvO_fr (A := fun c => c = 27) (zFr.sI rfl) (by omega) o1
end ZHI

