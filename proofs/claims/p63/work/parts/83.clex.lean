/-! THE CLASS: tokens. -/
section ZPB
/-- the parser at p, with its text -/
def PX (h : zm_H) (p : Nat) (xs : List Int32) : Prop := 124 < p ∧ zK h p = (9, 9) ∧ zP h p 0 = some 1 ∧ zP h p 1 = some L16 ∧ zK h 1 = (6, 2) ∧ zP h 1 0 = some 2 ∧ zK h 2 = (0, 500) ∧ zI h 1 1 = nI xs.length ∧ xs.length ≤ 500 ∧ (∀ i, i < xs.length → zI h 2 i = xs.getD i 0) ∧ BY xs ∧ lvS h L16
def paA (p : Nat) : Nat → Prop := fun c => c = p ∨ (16 ≤ c ∧ c ≤ 26)
theorem PX_fr {h g : zm_H} {p : Nat} {xs : List Int32} (fr : zFr (paA p) h g) (X : PX h p xs) : PX g p xs := by
  obtain ⟨a0, a1, a2, a3, a4, a5, a6, a7, a8, a9, a10, a11⟩ := X
  refine ⟨a0, by rw [fr.K]; exact a1, by rw [fr.P]; exact a2, by rw [fr.P]; exact a3, by rw [fr.K]; exact a4, by rw [fr.P]; exact a5, by rw [fr.K]; exact a6, by rw [fr.I (by unfold paA; omega)]; exact a7, a8, fun i hi => by rw [fr.I (by unfold paA; omega)]; exact a9 i hi, a10, lvS_fr fr a11⟩
theorem pa_p {p : Nat} (c : Nat) (h : c = p) : paA p c := Or.inl h
theorem tep_ty {xs : List Int32} {t : Nat} (ht : t ≠ 0) : ∀ d p, xs.length - p = d → ty xs (tep xs t p) ≠ t := by
  intro d
  induction d with
  | zero =>
    intro p hp
    have : ty xs p = 0 := ty_0.mpr (by omega)
    rw [tep_n (by omega)]; omega
  | succ d ih =>
    intro p hp
    by_cases h : ty xs p = t
    · rw [tep_t ht h]; exact ih (p + 1) (by omega)
    · rw [tep_n h]; exact h
def wdv (xs : List Int32) (s : Nat) : Nat := if ty xs s = 1 ∧ tkL xs s ≤ 6 then pkn (wcd xs s) else 0
def nmv (xs : List Int32) (s : Nat) : Nat := if ty xs s = 3 then bv xs s else if ty xs s = 2 then vb 1000 xs s (tkL xs s) else 0
/-- the token at s is read -/
def TK (h : zm_H) (p : Nat) (xs : List Int32) (s : Nat) : Prop := zI h p 7 = nI s ∧ zI h p 4 = nI (ty xs s) ∧ zI h p 3 = nI (tkE xs s) ∧ zJ h p 5 = lN (wdv xs s) ∧ zI h p 6 = nI (nmv xs s) ∧ ty xs s ≠ 4 ∧ s ≤ xs.length
theorem TK_fr {A : Nat → Prop} {h g : zm_H} {p : Nat} {xs : List Int32} {s : Nat} (fr : zFr A h g) (hA : ¬ A p) (T : TK h p xs s) : TK g p xs s := by
  unfold TK at T ⊢
  rw [fr.I hA, fr.J hA]; exact T
section
variable {h : zm_H} {p : Nat} {xs : List Int32}
theorem q_typeAt (X : PX h p xs) {i : Nat} (hi : i < 2 ^ 31) : sX3_typeAt [.ref p, .int (nI i)] h = some (.inl (some (.int (nI (ty xs i)))), h) := by
  obtain ⟨a0, a1, a2, a3, a4, a5, a6, a7, a8, a9, a10, a11⟩ := X
  refine zsem_eq (Nat.le_of_ble_eq_true rfl) (zTo_of gX3_typeAt_0 ?_)
  unfold ty
  have lt : (nI i < nI xs.length) = (i < xs.length) := propext (nI_ltI hi (by omega))
  by_cases w : i < xs.length
  · obtain ⟨b1, b2⟩ := a10.at w
    have v := a9 i w
    rw [b1] at v
    generalize bv xs i = b at v b2 ⊢
    have e32 : (nI b = 32) = (b = 32) := propext (nI_eq (b := 32) (by omega) (by omega))
    have e10 : (nI b = 10) = (b = 10) := propext (nI_eq (b := 10) (by omega) (by omega))
    have l97 : (nI b < 97) = (b < 97) := propext (nI_ltI (b := 97) (by omega) (by omega))
    have l48 : (nI b < 48) = (b < 48) := propext (nI_ltI (b := 48) (by omega) (by omega))
    have l57 : ((57 : Int32) < nI b) = (57 < b) := propext (nI_ltI (a := 57) (by omega) (by omega))
    have l122 : ((122 : Int32) < nI b) = (122 < b) := propext (nI_ltI (a := 122) (by omega) (by omega))
    rw [if_pos w]
    simp only [a1, a2, a4, a5, a6, a7, lt, w, nI_clamp hi, nI_lt0 hi, show ¬ 500 ≤ i by omega, v, e32, e10, l97, l48, l57, l122, zmp_s, zlt_s, zcV_s, zcI_s, zcJ_s, zcA_s, zcD_s, zcF_s, zth_n, zth_t, zrt_s, zQ_l, zQ_r, false_or, or_false, true_or, or_true, false_and, and_false, not_false_eq_true, not_true_eq_false, and_self, true_and, and_true, if_true, if_false, ite_true, ite_false, zgd_t]
    unfold btk
    by_cases c1 : b = 32
    · simp only [c1, zmp_s, zlt_s, zcV_s, zcI_s, zcJ_s, zcA_s, zcD_s, zcF_s, zth_n, zth_t, zrt_s, zQ_l, zQ_r, false_or, or_false, true_or, or_true, false_and, and_false, not_false_eq_true, not_true_eq_false, and_self, true_and, and_true, if_true, if_false, ite_true, ite_false]; rfl
    · by_cases c2 : b = 10
      · simp only [c1, c2, zmp_s, zlt_s, zcV_s, zcI_s, zcJ_s, zcA_s, zcD_s, zcF_s, zth_n, zth_t, zrt_s, zQ_l, zQ_r, false_or, or_false, true_or, or_true, false_and, and_false, not_false_eq_true, not_true_eq_false, and_self, true_and, and_true, if_true, if_false, ite_true, ite_false]; rfl
      · simp only [c1, c2, zmp_s, zlt_s, zcV_s, zcI_s, zcJ_s, zcA_s, zcD_s, zcF_s, zth_n, zth_t, zrt_s, zQ_l, zQ_r, false_or, or_false, true_or, or_true, false_and, and_false, not_false_eq_true, not_true_eq_false, and_self, true_and, and_true, if_true, if_false, ite_true, ite_false]
        by_cases c3 : b < 97
        · have c3' : ¬ (97 ≤ b ∧ b ≤ 122) := by omega
          simp only [c3, c3', zmp_s, zlt_s, zcV_s, zcI_s, zcJ_s, zcA_s, zcD_s, zcF_s, zth_n, zth_t, zrt_s, zQ_l, zQ_r, false_or, or_false, true_or, or_true, false_and, and_false, not_false_eq_true, not_true_eq_false, and_self, true_and, and_true, if_true, if_false, ite_true, ite_false]
          by_cases c4 : b < 48
          · have c4' : ¬ (48 ≤ b ∧ b ≤ 57) := by omega
            simp only [c4, c4', zmp_s, zlt_s, zcV_s, zcI_s, zcJ_s, zcA_s, zcD_s, zcF_s, zth_n, zth_t, zrt_s, zQ_l, zQ_r, false_or, or_false, true_or, or_true, false_and, and_false, not_false_eq_true, not_true_eq_false, and_self, true_and, and_true, if_true, if_false, ite_true, ite_false]; rfl
          · by_cases c5 : 57 < b
            · have c4' : ¬ (48 ≤ b ∧ b ≤ 57) := by omega
              simp only [c4, c5, c4', zmp_s, zlt_s, zcV_s, zcI_s, zcJ_s, zcA_s, zcD_s, zcF_s, zth_n, zth_t, zrt_s, zQ_l, zQ_r, false_or, or_false, true_or, or_true, false_and, and_false, not_false_eq_true, not_true_eq_false, and_self, true_and, and_true, if_true, if_false, ite_true, ite_false]; rfl
            · have c4' : 48 ≤ b ∧ b ≤ 57 := by omega
              simp only [c4, c5, c4', zmp_s, zlt_s, zcV_s, zcI_s, zcJ_s, zcA_s, zcD_s, zcF_s, zth_n, zth_t, zrt_s, zQ_l, zQ_r, false_or, or_false, true_or, or_true, false_and, and_false, not_false_eq_true, not_true_eq_false, and_self, true_and, and_true, if_true, if_false, ite_true, ite_false]; rfl
        · by_cases c6 : 122 < b
          · have c3' : ¬ (97 ≤ b ∧ b ≤ 122) := by omega
            have c4' : ¬ (48 ≤ b ∧ b ≤ 57) := by omega
            simp only [c3, c6, c3', c4', show ¬ b < 48 by omega, show 57 < b by omega, zmp_s, zlt_s, zcV_s, zcI_s, zcJ_s, zcA_s, zcD_s, zcF_s, zth_n, zth_t, zrt_s, zQ_l, zQ_r, false_or, or_false, true_or, or_true, false_and, and_false, not_false_eq_true, not_true_eq_false, and_self, true_and, and_true, if_true, if_false, ite_true, ite_false]; rfl
          · have c3' : 97 ≤ b ∧ b ≤ 122 := by omega
            simp only [c3, c6, c3', zmp_s, zlt_s, zcV_s, zcI_s, zcJ_s, zcA_s, zcD_s, zcF_s, zth_n, zth_t, zrt_s, zQ_l, zQ_r, false_or, or_false, true_or, or_true, false_and, and_false, not_false_eq_true, not_true_eq_false, and_self, true_and, and_true, if_true, if_false, ite_true, ite_false]; rfl
  · rw [if_neg w]
    simp only [a1, a2, a4, a7, lt, w, zmp_s, zlt_s, zcV_s, zcI_s, zcJ_s, zcA_s, zcD_s, zcF_s, zth_n, zth_t, zrt_s, zQ_l, zQ_r, false_or, or_false, true_or, or_true, false_and, and_false, not_false_eq_true, not_true_eq_false, and_self, true_and, and_true, if_true, if_false, ite_true, ite_false, zgd_t]; rfl
/-- inside a word or a number: k bytes are read -/
def TI (g : zm_H) (p : Nat) (xs : List Int32) (s k : Nat) : Prop := zI g p 7 = nI s ∧ zI g p 4 = nI (ty xs s) ∧ zI g p 3 = nI (s + k) ∧ (ty xs s = 1 → k ≤ 6 → zJ g p 5 = lN (pkn (nmd xs s k))) ∧ (ty xs s ≠ 1 → zJ g p 5 = lN 0) ∧ (ty xs s = 2 → zI g p 6 = nI (vb 1000 xs s k)) ∧ (ty xs s ≠ 2 → zI g p 6 = nI 0)
theorem q_inside (X : PX h p xs) {s : Nat} (hs : s ≤ xs.length) (h3 : ty xs s ≠ 3) (h4 : ty xs s ≠ 4) : ∀ d k g, s + k + d = tkE xs s → zFr (fun c => c = p) h g → TI g p xs s k → zI g p 2 = zI h p 2 → zI g p 8 = zI h p 8 → zTo vX3_nextToken rX3_nextToken (53, [some (.ref p), none], [], g) (fun o => ∃ g, o = (.inl none, g) ∧ zFr (fun c => c = p) h g ∧ TK g p xs s ∧ zI g p 2 = zI h p 2 ∧ zI g p 8 = zI h p 8) := by
  have hE := tkE_hi hs
  have hE1 := (tkE_le xs s).1
  have ht := ty_le xs s
  intro d
  induction d with
  | zero =>
    intro k g hk fr T f2 f8
    have hk : s + k = tkE xs s := by omega
    have X2 := PX_fr (fr.mono pa_p) X
    obtain ⟨a0, a1, a2, a3, a4, a5, a6, a7, a8, a9, a10, a11⟩ := X2
    obtain ⟨b1, b2, b3, b4, b5, b6, b7⟩ := T
    have tl : tkL xs s = k := by unfold tkL; omega
    have stop : xs.length ≤ s + k ∨ ty xs (s + k) ≠ ty xs s := by
      by_cases z : ty xs s = 0
      · have := ty_0.mp z; left; omega
      · right
        rw [hk]
        unfold tkE
        rw [if_neg z, if_neg h3]
        exact tep_ty z _ _ rfl
    have ek : nI (s + k) - nI s = nI k := by
      have := pk_sub (a := s + k) (b := s) (by omega)
      rw [this]; congr 1; omega
    have l6 : (nI k ≤ (6 : Int32)) = (k ≤ 6) := propext (nI_leI (b := 6) (by omega) (by omega))
    have wd6 : k ≤ 6 → zJ g p 5 = lN (wdv xs s) := fun hk6 => by
      unfold wdv
      by_cases t1 : ty xs s = 1
      · rw [if_pos ⟨t1, by omega⟩, b4 t1 hk6]
        unfold wcd; rw [tl]
      · rw [if_neg (fun x => t1 x.1), b5 t1]
    have nm : zI g p 6 = nI (nmv xs s) := by
      unfold nmv
      rw [if_neg h3]
      by_cases t2 : ty xs s = 2
      · rw [if_pos t2, b6 t2, tl]
      · rw [if_neg t2, b7 t2]
    have fin : zQ vX3_nextToken rX3_nextToken (fun o => ∃ g, o = (.inl none, g) ∧ zFr (fun c => c = p) h g ∧ TK g p xs s ∧ zI g p 2 = zI h p 2 ∧ zI g p 8 = zI h p 8) (if k ≤ 6 then some (.inr (.inl none, g)) else some (.inr (.inl none, zsJ g p 5 (0 : Int64)))) := by
      by_cases k6 : k ≤ 6
      · rw [if_pos k6, zQ_r]
        exact ⟨g, rfl, fr, ⟨b1, b2, by rw [b3, hk], wd6 k6, nm, h4, hs⟩, f2, f8⟩
      · rw [if_neg k6, zQ_r]
        refine ⟨_, rfl, fr.tr (zFr.sJ rfl), ⟨by rw [I_sJ]; exact b1, by rw [I_sJ]; exact b2, by rw [I_sJ, b3, hk], ?_, by rw [I_sJ]; exact nm, h4, hs⟩, by rw [I_sJ]; exact f2, by rw [I_sJ]; exact f8⟩
        rw [J_sJs, zput_self]
        unfold wdv
        rw [if_neg (fun x => by omega)]; rfl
    refine zTo_of gX3_nextToken_53 ?_
    have le : (nI xs.length ≤ nI (s + k)) = (xs.length ≤ s + k) := propext (nI_leI (by omega) (by omega))
    by_cases q : xs.length ≤ s + k
    · simp only [a1, a2, a4, a7, b3, b1, le, q, ek, l6, zmp_s, zlt_s, zcV_s, zcI_s, zcJ_s, zcA_s, zcD_s, zcF_s, zth_n, zth_t, zrt_s, zQ_l, zQ_r, false_or, or_false, true_or, or_true, false_and, and_false, not_false_eq_true, not_true_eq_false, and_self, true_and, and_true, if_true, if_false, ite_true, ite_false, zgd_t]
      exact fin
    · have ne := stop.resolve_left q
      have tn := ty_le xs (s + k)
      have et : (nI (ty xs (s + k)) = nI (ty xs s)) = False := eq_false (fun x => ne ((nI_eq (by omega) (by omega)).mp x))
      simp only [a1, a2, a4, a7, b3, b1, b2, le, q, q_typeAt (PX_fr (fr.mono pa_p) X) (show s + k < 2 ^ 31 by omega), et, ek, l6, zmp_s, zlt_s, zcV_s, zcI_s, zcJ_s, zcA_s, zcD_s, zcF_s, zth_n, zth_t, zrt_s, zQ_l, zQ_r, false_or, or_false, true_or, or_true, false_and, and_false, not_false_eq_true, not_true_eq_false, and_self, true_and, and_true, if_true, if_false, ite_true, ite_false, zgd_t]
      exact fin
  | succ d ih =>
    intro k g hk fr T f2 f8
    have X2 := PX_fr (fr.mono pa_p) X
    have X3 := X2
    obtain ⟨a0, a1, a2, a3, a4, a5, a6, a7, a8, a9, a10, a11⟩ := X2
    obtain ⟨b1, b2, b3, b4, b5, b6, b7⟩ := T
    have z : ty xs s ≠ 0 := by
      intro z
      unfold tkE at hk
      rw [if_pos z] at hk; omega
    have tk : ty xs (s + k) = ty xs s := by
      have e : tkE xs s = tep xs (ty xs s) s := by unfold tkE; rw [if_neg z, if_neg h3]
      rw [e] at hk
      exact (tep_le xs (ty xs s) s).2 (s + k) (by omega) (by omega)
    have inr : s + k < xs.length := ty_in (by omega)
    obtain ⟨c1, c2⟩ := a10.at inr
    have bvv := a9 (s + k) inr
    rw [c1] at bvv
    have lt : (nI xs.length ≤ nI (s + k)) = False := eq_false (nI_ge inr (by omega))
    have n2p : (2 : Nat) ≠ p := by omega
    refine zTo_of gX3_nextToken_53 ?_
    have tyat := q_typeAt X3 (show s + k < 2 ^ 31 by omega)
    rw [tk] at tyat
    simp only [a1, a2, a4, a5, a6, a7, b3, b2, lt, tyat, K_sI, K_sJ, K_sD, K_sP, K_rI, K_rJ, P_sI, P_sJ, P_sD, P_rI, P_rJ, N_sI, N_sJ, N_sD, N_sP, N_rI, N_rJ, J_sI, J_sD, J_sP, J_rI, I_sJ, I_sD, I_sP, I_rJ, D_sI, D_sJ, D_sP, D_rI, D_rJ, nI_1, nI_clamp (show s + k < 2 ^ 31 by omega), nI_lt0 (show s + k < 2 ^ 31 by omega), show ¬ 500 ≤ s + k by omega, I_sIn n2p, I_sIs, zput_i, bvv, show ¬ (4 : Nat) = 3 by omega, show ¬ (6 : Nat) = 3 by omega, show ¬ (5 : Nat) = 3 by omega, zmp_s, zlt_s, zcV_s, zcI_s, zcJ_s, zcA_s, zcD_s, zcF_s, zth_n, zth_t, zrt_s, zQ_l, zQ_r, false_or, or_false, true_or, or_true, false_and, and_false, not_false_eq_true, not_true_eq_false, and_self, true_and, and_true, if_true, if_false, ite_true, ite_false, zgd_t]
    have nt : (nI (ty xs s) = 1) = (ty xs s = 1) := propext (nI_eq (b := 1) (by omega) (by omega))
    by_cases t1 : ty xs s = 1
    · rw [if_pos (nt.mpr t1)]
      simp only [zmp_s, zlt_s, zcV_s, zcI_s, zcJ_s, zcA_s, zcD_s, zcF_s, zth_n, zth_t, zrt_s, zQ_l, zQ_r]
      refine ih (k + 1) _ (by omega) ((fr.tr (zFr.sI rfl)).tr (zFr.sJ rfl)) ⟨?_, ?_, ?_, fun _ hk6 => ?_, fun x => absurd t1 x, fun x => by omega, fun x => ?_⟩ ?_ ?_
      · rw [I_sJ, I_sIs, zput_ne _ _ (by omega)]; exact b1
      · rw [I_sJ, I_sIs, zput_ne _ _ (by omega)]; exact b2
      · rw [I_sJ, I_sIs, zput_self]; rfl
      · rw [J_sJs, zput_self]
        have r := ty_1 (show ty xs (s + k) = 1 by omega)
        have L : LT xs s k := fun i hi => by
          have t := (tep_le xs (ty xs s) s).2 (s + i) (by omega) (by
            have e : tkE xs s = tep xs (ty xs s) s := by unfold tkE; rw [if_neg z, if_neg h3]
            omega)
          have r := ty_1 (show ty xs (s + i) = 1 by omega)
          exact ⟨bv xs (s + i), r.1, r.2, (a10.at (ty_in (by omega))).1⟩
        have nl := (nmd_lt k L).1
        have p6 : 27 ^ k ≤ 27 ^ 6 := Nat.pow_le_pow_right (by omega) (by omega)
        rw [b4 t1 (by omega), nl_shl8, nI_l (by omega), nl_or, or_byte (by omega), nmd, c1, nI_clamp (by omega), pkn_app (by omega) (by omega), show 96 + (bv xs (s + k) - 96) = bv xs (s + k) by omega]
      · rw [I_sJ, I_sIs, zput_ne _ _ (by omega)]; exact b7 x
      · rw [I_sJ, I_sIs, zput_ne _ _ (by omega)]; exact f2
      · rw [I_sJ, I_sIs, zput_ne _ _ (by omega)]; exact f8
    · have t2 : ty xs s = 2 := by omega
      rw [if_neg (fun x => t1 (nt.mp x))]
      simp only [zmp_s, zlt_s, zcV_s, zcI_s, zcJ_s, zcA_s, zcD_s, zcF_s, zth_n, zth_t, zrt_s, zQ_l, zQ_r]
      have r := ty_2 (show ty xs (s + k) = 2 by omega)
      have vl := vb_le 1000 xs s k
      have ev : (10 : Int32) * zI g p 6 + nI (bv xs (s + k)) - (48 : Int32) = nI (10 * vb 1000 xs s k + (bv xs (s + k) - 48)) := by
        rw [b6 t2]
        have h1 : (10 : Int32) * nI (vb 1000 xs s k) = nI (10 * vb 1000 xs s k) := pk_mul 10 _
        have h2 : nI (10 * vb 1000 xs s k) + nI (bv xs (s + k)) = nI (10 * vb 1000 xs s k + bv xs (s + k)) := nI_add _ _
        have h3 : nI (10 * vb 1000 xs s k + bv xs (s + k)) - (48 : Int32) = nI (10 * vb 1000 xs s k + bv xs (s + k) - 48) := pk_sub (b := 48) (by omega)
        rw [h1, h2, h3]; congr 1; omega
      have em : (if nI (10 * vb 1000 xs s k + (bv xs (s + k) - 48)) < (1000 : Int32) then nI (10 * vb 1000 xs s k + (bv xs (s + k) - 48)) else (1000 : Int32)) = nI (vb 1000 xs s (k + 1)) := by
        rw [vb]
        have l : (nI (10 * vb 1000 xs s k + (bv xs (s + k) - 48)) < (1000 : Int32)) = (10 * vb 1000 xs s k + (bv xs (s + k) - 48) < 1000) := propext (nI_ltI (b := 1000) (by omega) (by omega))
        have em2 : Nat.min 1000 (10 * vb 1000 xs s k + (bv xs (s + k) - 48)) = min 1000 (10 * vb 1000 xs s k + (bv xs (s + k) - 48)) := rfl
        rw [em2]
        by_cases w : 10 * vb 1000 xs s k + (bv xs (s + k) - 48) < 1000
        · rw [if_pos (l.mpr w), Nat.min_eq_right (by omega)]
        · rw [if_neg (fun x => w (l.mp x)), Nat.min_eq_left (by omega)]; rfl
      rw [ev, em]
      refine ih (k + 1) _ (by omega) ((fr.tr (zFr.sI rfl)).tr (zFr.sI rfl)) ⟨?_, ?_, ?_, fun x => absurd x t1, fun _ => ?_, fun _ => ?_, fun x => absurd t2 x⟩ ?_ ?_
      · rw [I_sIs, zput_ne _ _ (by omega), I_sIs, zput_ne _ _ (by omega)]; exact b1
      · rw [I_sIs, zput_ne _ _ (by omega), I_sIs, zput_ne _ _ (by omega)]; exact b2
      · rw [I_sIs, zput_ne _ _ (by omega), I_sIs, zput_self]; rfl
      · rw [J_sI, J_sI]; exact b5 t1
      · rw [I_sIs, zput_self]
      · rw [I_sIs, zput_ne _ _ (by omega), I_sIs, zput_ne _ _ (by omega)]; exact f2
      · rw [I_sIs, zput_ne _ _ (by omega), I_sIs, zput_ne _ _ (by omega)]; exact f8
end
end ZPB

