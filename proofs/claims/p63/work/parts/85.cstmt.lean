/-! THE CLASS: rooms read. -/
section ZPD
/-- the parser at the token at s, its level M -/
def CL (h : zm_H) (p : Nat) (xs : List Int32) (M : zLv) (fl : Bool) (s : Nat) : Prop := PX h p xs ∧ TK h p xs s ∧ KL h L16 M ∧ lvO h L16 ∧ zI h p 2 = zb fl
def RE (p : Nat) (h : zm_H) (e : Nat × Nat) (g : zm_H) : Prop := zFr (paA p) h g ∧ PE p e g ∧ lvO g L16
/-- a reading, and what the text says -/
def RO {A : Type} (u : PR A) (f : Option zm_O) (E : Nat × Nat → zm_H → Prop) (K : A → zm_H → Prop) : Prop := ∃ g, (∃ e, u = .inl e ∧ f = some (.inl (some (.int 0)), g) ∧ E e g) ∨ (∃ a, u = .inr a ∧ f = some (.inl (some (.int 1)), g) ∧ K a g)
theorem nI_m1f {r : Nat} (h : r < 2 ^ 31) : (nI r = -1) = False := by
  have := eI_eq (k := r) (l := 0) h (by omega)
  rw [eI_0] at this
  rw [this]; exact eq_false (by omega)
section
variable {h : zm_H} {p : Nat} {xs : List Int32} {M N : zLv} {fl : Bool} {s : Nat}
theorem RE.pre {g : zm_H} {e : Nat × Nat} {k : zm_H} (fr : zFr (paA p) h g) (r : RE p g e k) : RE p h e k := ⟨fr.tr r.1, r.2⟩
theorem p16 (X : PX h p xs) : ¬ (p = L16 + 8) := by have := X.1; have := L16e; omega
theorem CL_fail (C : CL h p xs M fl s) (c : Nat) : RE p h (c, s) (zsI h p 8 (nI c)) := ⟨zFr.sI (Or.inl rfl), PE_of C.2.1 c, lvO_fr (A := fun q => q = p) (zFr.sI rfl) (fun q => p16 C.1 q.symm) C.2.2.2.1⟩
theorem CL_fr {g : zm_H} (C : CL h p xs M fl s) (fr : zFr (fun c => c = p) h g) {u : Nat} (T : TK g p xs u) (e2 : zI g p 2 = zI h p 2) : CL g p xs M fl u := by
  have hp := C.1.1
  have e16 := L16e
  refine ⟨PX_fr (fr.mono pa_p) C.1, T, ?_, ?_, by rw [e2]; exact C.2.2.2.2⟩
  · exact KL_fr fr (fun i hi => by omega) C.2.2.1
  · exact lvO_fr fr (by omega) C.2.2.2.1
theorem CL_go (C : CL h p xs M fl s) : ∃ g, sX3_nextToken [.ref p] h = some (.inl none, g) ∧ zFr (fun c => c = p) h g ∧ CL g p xs M fl (nxt xs s) := by
  obtain ⟨g, e1, fr, T, f2, f8⟩ := q_go C.1 C.2.1
  exact ⟨g, e1, fr, CL_fr C fr T f2⟩
theorem CL_lv {g : zm_H} {K : zLv} (C : CL h p xs M fl s) (fr : zFr (fun q => 16 ≤ q ∧ q ≤ 26) h g) (hK : KL g L16 K) (ho : lvO g L16) : CL g p xs K fl s := by
  have hp := C.1.1
  refine ⟨PX_fr (fr.mono (fun q hq => Or.inr hq)) C.1, TK_fr fr (by omega) C.2.1, hK, ho, by rw [fr.I (by omega)]; exact C.2.2.2.2⟩
theorem pa_lv (q : Nat) (hq : 16 ≤ q ∧ q ≤ 26) : paA p q := Or.inr hq
theorem c_semi (C : CL h p xs M fl s) : RO (pSemi xs s) (sX3_readSemicolon [.ref p] h) (RE p h) (fun u g => zFr (paA p) h g ∧ CL g p xs M fl u) := by
  have a1 := C.1.2.1
  have sy := q_isSymbol (c := 59) (x := 59) C.1 C.2.1 rfl (by omega)
  unfold pSemi
  cases q : isS xs s 59
  · rw [q, zb_f] at sy
    refine ⟨zsI h p 8 (nI 1), Or.inl ⟨(1, s), rfl, ?_, CL_fail C 1⟩⟩
    have fl1 : sX3_fail [.ref p, .int 1] h = _ := q_fail C.1 (nI 1)
    refine zsem_eq (Nat.le_of_ble_eq_true rfl) (zTo_of gX3_readSemicolon_0 ?_)
    simp only [a1, sy, fl1, zrt_s, zmp_s, zlt_s, zcV_s, zcI_s, zcJ_s, zcA_s, zcD_s, zcF_s, zth_n, zth_t, zrt_s, zQ_l, zQ_r, false_or, or_false, true_or, or_true, false_and, and_false, not_false_eq_true, not_true_eq_false, and_self, true_and, and_true, if_true, if_false, ite_true, ite_false, zgd_t]
  · rw [q, zb_t] at sy
    obtain ⟨g, e1, fr, C1⟩ := CL_go C
    refine ⟨g, Or.inr ⟨nxt xs s, rfl, ?_, fr.mono pa_p, C1⟩⟩
    refine zsem_eq (Nat.le_of_ble_eq_true rfl) (zTo_of gX3_readSemicolon_0 ?_)
    simp only [a1, sy, i10, e1, zmp_s, zlt_s, zcV_s, zcI_s, zcJ_s, zcA_s, zcD_s, zcF_s, zth_n, zth_t, zrt_s, zQ_l, zQ_r, false_or, or_false, true_or, or_true, false_and, and_false, not_false_eq_true, not_true_eq_false, and_self, true_and, and_true, if_true, if_false, ite_true, ite_false, zgd_t]
theorem c_keys {r : Nat} (C : CL h p xs M fl s) (hM : M 0 ≤ 11 ∧ M 4 ≤ 11) (hr : r < M 0) (hz : M (16 + 3 * r) = 0) : RO (pKeyO xs s) (sX3_readKeys [.ref p, .int (nI r)] h) (RE p h) (fun u g => zFr (paA p) h g ∧ CL g p xs (zput M (16 + 3 * r) u.1) fl u.2 ∧ u.1 < 256) := by
  have a1 := C.1.2.1
  have e16 := L16e
  have iw := q_isWord (K := 8179) (L := 7038329) C.1 C.2.1 (by decide +kernel) (by decide) (by omega)
  have hid : zput M (16 + 3 * r) 0 = M := by rw [← hz]; exact zput_id
  obtain ⟨R, hR⟩ : ∃ R : PR (Nat × Nat) → zm_O → Prop, R = (fun u o => ∃ g, (∃ e, u = .inl e ∧ o = (.inl (some (.int 0)), g) ∧ RE p h e g) ∨ (∃ a, u = .inr a ∧ o = (.inl (some (.int 1)), g) ∧ (zFr (paA p) h g ∧ CL g p xs (zput M (16 + 3 * r) a.1) fl a.2 ∧ a.1 < 256))) := ⟨_, rfl⟩
  have loop : ∀ f ks t n g, n + f = 9 → 1 ≤ f → npc ks 8 = n → ks < 256 → zFr (paA p) h g → CL g p xs (zput M (16 + 3 * r) ks) fl t → zTo vX3_readKeys rX3_readKeys (6, [some (.ref p), some (.int (nI r)), some (.int 1), some (.int (nI n))], [], g) (R (pKeys xs f ks t)) := by
    intro f
    induction f with
    | zero => intro ks t n g _ h1; omega
    | succ f ih =>
      intro ks t n g hn hf hpc hks fr D
      obtain ⟨g1, e1, f1, D1⟩ := CL_go D
      have fr1 : zFr (paA p) h g1 := fr.tr (f1.mono pa_p)
      have ft := q_fits (g := 7) (x := 7) D1.1 D1.2.1 rfl (by omega)
      have n8 : ((8 : Int32) < nI n) = False := eq_false (fun x => by
        have := (nI_ltI (a := 8) (b := n) (by omega) (by omega)).mp x
        omega)
      have b1 := D.1.2.1
      have c1 := D1.1.2.1
      have c3 := D1.1.2.2.2.1
      have hS := D1.1.2.2.2.2.2.2.2.2.2.2.2
      have lk := D1.2.2.1.2.2.2.2.2.2.1 r (by rw [zput_ne _ _ (by omega)]; exact hr)
      rw [zput_self] at lk
      have hS0 := hS
      obtain ⟨k0, p1, p2, p3, p5, p6, p7, p8, p9, p12, p14, k1, k2, k3, k4, k5, k6, k7, k8, k9, k10⟩ := hS
      obtain ⟨rr1, rr2, rr3, rr4⟩ := nI_for hr (by omega)
      refine zTo_of gX3_readKeys_6 ?_
      rw [pKeys]
      cases q : pFits xs 7 (nxt xs t) with
      | inl e =>
        obtain ⟨c, hc, ef⟩ := ft.2 e q
        simp only [n8, i10, b1, e1, c1, ef, zmp_s, zlt_s, zcV_s, zcI_s, zcJ_s, zcA_s, zcD_s, zcF_s, zth_n, zth_t, zrt_s, zQ_l, zQ_r, false_or, or_false, true_or, or_true, false_and, and_false, not_false_eq_true, not_true_eq_false, and_self, true_and, and_true, if_true, if_false, ite_true, ite_false, zgd_t]
        rw [hR]
        refine ⟨_, Or.inl ⟨e, rfl, rfl, ?_⟩⟩
        rw [hc]
        exact RE.pre fr1 (CL_fail D1 c)
      | inr v =>
        obtain ⟨ef, hv, ev⟩ := ft.1 v q
        have hh := q_has (s := ks) (k := v) (by omega) (by omega) g1
        show zQ vX3_readKeys rX3_readKeys (R (if ks.testBit v = true then .inl (3, nxt xs t) else if isS xs (nxt xs (nxt xs t)) 44 = true then pKeys xs f (ks ||| 2 ^ v) (nxt xs (nxt xs t)) else .inr (ks ||| 2 ^ v, nxt xs (nxt xs t)))) _
        simp only [n8, i10, b1, e1, c1, ef, c3, k0, p2, k2, rr2, rr3, show ¬ 11 ≤ r by omega, lk, ev, hh, zb_0, zmp_s, zlt_s, zcV_s, zcI_s, zcJ_s, zcA_s, zcD_s, zcF_s, zth_n, zth_t, zrt_s, zQ_l, zQ_r, false_or, or_false, true_or, or_true, false_and, and_false, not_false_eq_true, not_true_eq_false, and_self, true_and, and_true, if_true, if_false, ite_true, ite_false, zgd_t]
        cases tb : ks.testBit v
        · have K1 := KL_keys D1.2.2.1 (by rw [zput_ne _ _ (by omega), zput_ne _ _ (by omega)]; exact hM) r (ks ||| 2 ^ v) (by omega)
          have zz : zput (zput M (16 + 3 * r) ks) (16 + 3 * r) (ks ||| 2 ^ v) = zput M (16 + 3 * r) (ks ||| 2 ^ v) := by
            funext i
            by_cases w : i = 16 + 3 * r
            · rw [w, zput_self, zput_self]
            · rw [zput_ne _ _ w, zput_ne _ _ w, zput_ne _ _ w]
          rw [zz] at K1
          have f2 : zFr (fun q => 16 ≤ q ∧ q ≤ 26) g1 (zsI g1 (L16 + 2) r (nI (ks ||| 2 ^ v))) := zFr.sI (by omega)
          have D2 := CL_lv D1 f2 K1 (lvO_fr (A := fun q => q = L16 + 2) (zFr.sI rfl) (by omega) D1.2.2.2.1)
          obtain ⟨g3, e3, f3, D3⟩ := CL_go D2
          have fr3 : zFr (paA p) h g3 := (fr1.tr (f2.mono pa_lv)).tr (f3.mono pa_p)
          have sy := q_isSymbol (c := 44) (x := 44) D3.1 D3.2.1 rfl (by omega)
          have c2 := D3.1.2.1
          have kle : ks ||| 2 ^ v < 256 := or_lt (n := 8) hks (Nat.pow_lt_pow_right (by omega) (by omega))
          simp only [Bool.false_eq_true, K_sI, K_sJ, K_sD, K_sP, K_rI, K_rJ, P_sI, P_sJ, P_sD, P_rI, P_rJ, N_sI, N_sJ, N_sD, N_sP, N_rI, N_rJ, J_sI, J_sD, J_sP, J_rI, I_sJ, I_sD, I_sP, I_rJ, D_sI, D_sJ, D_sP, D_rI, D_rJ, c1, nx_shl1 (show v < 32 by omega), nx_or, e3, c2, sy, nI_1, zmp_s, zlt_s, zcV_s, zcI_s, zcJ_s, zcA_s, zcD_s, zcF_s, zth_n, zth_t, zrt_s, zQ_l, zQ_r, false_or, or_false, true_or, or_true, false_and, and_false, not_false_eq_true, not_true_eq_false, and_self, true_and, and_true, if_true, if_false, ite_true, ite_false, zgd_t]
          have pc2 : npc (ks ||| 2 ^ v) 8 = n + 1 := by rw [npc_or 8 (by omega) tb, hpc]
          cases cm : isS xs (nxt xs (nxt xs t)) 44
          · rw [zb_f]
            refine zTo_of gX3_readKeys_6 ?_
            simp only [Bool.false_eq_true, zmp_s, zlt_s, zcV_s, zcI_s, zcJ_s, zcA_s, zcD_s, zcF_s, zth_n, zth_t, zrt_s, zQ_l, zQ_r, false_or, or_false, true_or, or_true, false_and, and_false, not_false_eq_true, not_true_eq_false, and_self, true_and, and_true, if_true, if_false, ite_true, ite_false]
            rw [ite_self, zQ_r, hR]
            exact ⟨g3, Or.inr ⟨_, rfl, rfl, fr3, D3, kle⟩⟩
          · rw [zb_t, if_pos rfl]
            have le8 := npc_le (ks ||| 2 ^ v) 8
            exact ih _ _ (n + 1) g3 (by omega) (by omega) pc2 kle fr3 D3
        · have fl3 : sX3_fail [.ref p, .int 3] g1 = _ := q_fail D1.1 (nI 3)
          simp only [Bool.true_eq_false, fl3, zrt_s, c1, zmp_s, zlt_s, zcV_s, zcI_s, zcJ_s, zcA_s, zcD_s, zcF_s, zth_n, zth_t, zrt_s, zQ_l, zQ_r, false_or, or_false, true_or, or_true, false_and, and_false, not_false_eq_true, not_true_eq_false, and_self, true_and, and_true, if_true, if_false, ite_true, ite_false, zgd_t]
          rw [hR]
          exact ⟨_, Or.inl ⟨_, rfl, rfl, RE.pre fr1 (CL_fail D1 3)⟩⟩
  have hsim : zW (sX3_readKeys [.ref p, .int (nI r)] h) (R (pKeyO xs s)) := by
    refine zsem_to (Nat.le_of_ble_eq_true rfl) (zTo_of gX3_readKeys_0 ?_)
    simp only [a1, iw, zmp_s, zlt_s, zcV_s, zcI_s, zcJ_s, zcA_s, zcD_s, zcF_s, zth_n, zth_t, zrt_s, zQ_l, zQ_r, false_or, or_false, true_or, or_true, false_and, and_false, not_false_eq_true, not_true_eq_false, and_self, true_and, and_true, if_true, if_false, ite_true, ite_false, zgd_t]
    unfold pKeyO
    cases q : isW xs s 8179
    · rw [zb_f]
      refine zTo_of gX3_readKeys_6 ?_
      simp only [Bool.false_eq_true, zmp_s, zlt_s, zcV_s, zcI_s, zcJ_s, zcA_s, zcD_s, zcF_s, zth_n, zth_t, zrt_s, zQ_l, zQ_r, false_or, or_false, true_or, or_true, false_and, and_false, not_false_eq_true, not_true_eq_false, and_self, true_and, and_true, if_true, if_false, ite_true, ite_false]
      rw [ite_self, zQ_r, hR]
      refine ⟨h, Or.inr ⟨_, rfl, rfl, zFr.rf, ?_, by omega⟩⟩
      rw [hid]; exact C
    · rw [zb_t, if_pos rfl]
      exact loop 9 0 s 0 h (by omega) (by omega) (by decide +kernel) (by omega) zFr.rf (by rw [hid]; exact C)
  rw [hR] at hsim
  obtain ⟨o, h1, g, ⟨e, e1, rfl, e2⟩ | ⟨a, e1, rfl, e2⟩⟩ := hsim
  · exact ⟨g, Or.inl ⟨e, e1, h1, e2⟩⟩
  · exact ⟨g, Or.inr ⟨a, e1, h1, e2⟩⟩
theorem c_coins {r : Nat} (C : CL h p xs M fl s) (hM : M 0 ≤ 11 ∧ M 4 ≤ 11) (hr : r < M 0) (hz : M (17 + 3 * r) = 0) : RO (pCoin xs s) (sX3_readCoins [.ref p, .int (nI r)] h) (RE p h) (fun u g => zFr (paA p) h g ∧ CL g p xs (zput M (17 + 3 * r) u.1) fl u.2 ∧ u.1 ≤ 99) := by
  have a1 := C.1.2.1
  have e16 := L16e
  have iw := q_isWord (K := 1896526) (L := 427070942835) C.1 C.2.1 (by decide +kernel) (by decide) (by omega)
  have hid : zput M (17 + 3 * r) 0 = M := by rw [← hz]; exact zput_id
  unfold pCoin
  cases q : isW xs s 1896526
  · rw [q, zb_f] at iw
    refine ⟨h, Or.inr ⟨(0, s), rfl, ?_, zFr.rf, by rw [hid]; exact C, by show 0 ≤ 99; omega⟩⟩
    refine zsem_eq (Nat.le_of_ble_eq_true rfl) (zTo_of gX3_readCoins_0 ?_)
    simp only [a1, iw, zmp_s, zlt_s, zcV_s, zcI_s, zcJ_s, zcA_s, zcD_s, zcF_s, zth_n, zth_t, zrt_s, zQ_l, zQ_r, false_or, or_false, true_or, or_true, false_and, and_false, not_false_eq_true, not_true_eq_false, and_self, true_and, and_true, if_true, if_false, ite_true, ite_false, zgd_t]
  · rw [q, zb_t] at iw
    rw [if_pos rfl]
    obtain ⟨g1, e1, f1, D1⟩ := CL_go C
    have ft := q_fits (g := 99) (x := 99) D1.1 D1.2.1 rfl (by omega)
    have c1 := D1.1.2.1
    have c3 := D1.1.2.2.2.1
    have hS := D1.1.2.2.2.2.2.2.2.2.2.2.2
    obtain ⟨k0, p1, p2, p3, p5, p6, p7, p8, p9, p12, p14, k1, k2, k3, k4, k5, k6, k7, k8, k9, k10⟩ := hS
    obtain ⟨rr1, rr2, rr3, rr4⟩ := nI_for hr (by omega)
    cases q2 : pFits xs 99 (nxt xs s) with
    | inl e =>
      obtain ⟨c, hc, ef⟩ := ft.2 e q2
      refine ⟨zsI g1 p 8 (nI c), Or.inl ⟨e, rfl, ?_, by rw [hc]; exact RE.pre (f1.mono pa_p) (CL_fail D1 c)⟩⟩
      refine zsem_eq (Nat.le_of_ble_eq_true rfl) (zTo_of gX3_readCoins_0 ?_)
      simp only [a1, iw, i10, e1, c1, ef, zmp_s, zlt_s, zcV_s, zcI_s, zcJ_s, zcA_s, zcD_s, zcF_s, zth_n, zth_t, zrt_s, zQ_l, zQ_r, false_or, or_false, true_or, or_true, false_and, and_false, not_false_eq_true, not_true_eq_false, and_self, true_and, and_true, if_true, if_false, ite_true, ite_false, zgd_t]
    | inr v =>
      obtain ⟨ef, hv, ev⟩ := ft.1 v q2
      have K1 := KL_coins D1.2.2.1 hM r v (by omega)
      have f2 : zFr (fun q => 16 ≤ q ∧ q ≤ 26) g1 (zsI g1 (L16 + 3) r (nI v)) := zFr.sI (by omega)
      have D2 := CL_lv D1 f2 K1 (lvO_fr (A := fun q => q = L16 + 3) (zFr.sI rfl) (by omega) D1.2.2.2.1)
      obtain ⟨g3, e3, f3, D3⟩ := CL_go D2
      refine ⟨g3, Or.inr ⟨(v, nxt xs (nxt xs s)), rfl, ?_, ((f1.mono pa_p).tr (f2.mono pa_lv)).tr (f3.mono pa_p), D3, hv⟩⟩
      refine zsem_eq (Nat.le_of_ble_eq_true rfl) (zTo_of gX3_readCoins_0 ?_)
      simp only [a1, iw, i10, e1, c1, ef, c3, k0, p3, k3, rr2, rr3, show ¬ 11 ≤ r by omega, ev, K_sI, K_sJ, K_sD, K_sP, K_rI, K_rJ, P_sI, P_sJ, P_sD, P_rI, P_rJ, N_sI, N_sJ, N_sD, N_sP, N_rI, N_rJ, J_sI, J_sD, J_sP, J_rI, I_sJ, I_sD, I_sP, I_rJ, D_sI, D_sJ, D_sP, D_rI, D_rJ, e3, zmp_s, zlt_s, zcV_s, zcI_s, zcJ_s, zcA_s, zcD_s, zcF_s, zth_n, zth_t, zrt_s, zQ_l, zQ_r, false_or, or_false, true_or, or_true, false_and, and_false, not_false_eq_true, not_true_eq_false, and_self, true_and, and_true, if_true, if_false, ite_true, ite_false, zgd_t]
theorem nfind_pkn {c : Nat} (hn : ∀ r, r < N 0 → N (18 + 3 * r) < 27 ^ 6) (hc : c < 27 ^ 6) : ∀ n, n ≤ N 0 → nfind (fun r => decide (pkn (N (18 + 3 * r)) = pkn c)) n = nfind (fun r => decide (N (18 + 3 * r) = c)) n := by
  intro n
  induction n with
  | zero => intro _; rfl
  | succ n ih =>
    intro hl
    have ih := ih (by omega)
    have e : decide (pkn (N (18 + 3 * n)) = pkn c) = decide (N (18 + 3 * n) = c) := by
      by_cases e2 : N (18 + 3 * n) = c
      · simp [e2]
      · have : ¬ pkn (N (18 + 3 * n)) = pkn c := fun x => e2 (pkn_inj (hn n (by omega)) hc x)
        simp [e2, this]
    rw [nfind, nfind, ih]
    simp only [e]
theorem c_named (C : CL h p xs (fW N) fl s) (hI : PI N) (t : isN xs s = true) : sX2_roomNamed [.ref L16, .long (zJ h p 5)] h = some (.inl (some (.int (oI (nRn N (wcd xs s))))), h) ∧ wdv xs s = pkn (wcd xs s) ∧ wcd xs s < 27 ^ 6 := by
  unfold isN at t
  simp only [Bool.and_eq_true, decide_eq_true_eq] at t
  obtain ⟨t1, t2, t3⟩ := t
  obtain ⟨c1, c2⟩ := wcd_lt C.1.2.2.2.2.2.2.2.2.2.2.1 t1 t2
  have wd : wdv xs s = pkn (wcd xs s) := by unfold wdv; rw [if_pos ⟨t1, t2⟩]
  have hS := C.1.2.2.2.2.2.2.2.2.2.2.2
  have f0 : fW N 0 = N 0 := fW_ne (by omega)
  have pl := pkn_lt (wcd xs s)
  have rn := q_roomNamed (w := pkn (wcd xs s)) hS C.2.2.1 (by rw [f0]; exact hI.1) (by omega)
  refine ⟨?_, wd, c1⟩
  rw [C.2.1.2.2.2.1, wd, rn]
  have e : (fun r => decide (pkn (fW N (18 + 3 * r)) = pkn (wcd xs s))) = fun r => decide (pkn (N (18 + 3 * r)) = pkn (wcd xs s)) := by
    funext r; rw [fW_ne (by omega)]
  rw [e, f0, nfind_pkn hI.2.2.2.2.2.2.2 c1 _ (Nat.le_refl _)]
  unfold nRn
  rw [if_neg (by omega)]
theorem c_told (C : CL h p xs (fW N) fl s) (hI : PI N) : ∃ g, (∃ e, pTold xs N s = .inl e ∧ sX3_toldRoom [.ref p] h = some (.inl (some (.int (-1))), g) ∧ RE p h e g) ∨ (∃ r, pTold xs N s = .inr r ∧ sX3_toldRoom [.ref p] h = some (.inl (some (.int (nI r))), h) ∧ r < N 0) := by
  have a1 := C.1.2.1
  have a3 := C.1.2.2.2.1
  have hS := C.1.2.2.2.2.2.2.2.2.2.2.2
  have k0 := hS.1
  have nm := q_isName C.1 C.2.1
  unfold pTold
  cases q : isN xs s
  · rw [q, zb_f] at nm
    have fl1 : sX3_fail [.ref p, .int 1] h = _ := q_fail C.1 (nI 1)
    refine ⟨zsI h p 8 (nI 1), Or.inl ⟨(1, s), rfl, ?_, CL_fail C 1⟩⟩
    refine zsem_eq (Nat.le_of_ble_eq_true rfl) (zTo_of gX3_toldRoom_0 ?_)
    simp only [a1, nm, fl1, zmp_s, zlt_s, zcV_s, zcI_s, zcJ_s, zcA_s, zcD_s, zcF_s, zth_n, zth_t, zrt_s, zQ_l, zQ_r, false_or, or_false, true_or, or_true, false_and, and_false, not_false_eq_true, not_true_eq_false, and_self, true_and, and_true, if_true, if_false, ite_true, ite_false, zgd_t]
  · rw [q, zb_t] at nm
    obtain ⟨rn, wd, wl⟩ := c_named C hI q
    rw [if_pos rfl]
    cases e : nRn N (wcd xs s) with
    | none =>
      rw [e] at rn
      have rn : sX2_roomNamed [.ref L16, .long (zJ h p 5)] h = some (.inl (some (.int (-1))), h) := rn
      have fl4 : sX3_fail [.ref p, .int 4] h = _ := q_fail C.1 (nI 4)
      refine ⟨zsI h p 8 (nI 4), Or.inl ⟨(4, s), rfl, ?_, CL_fail C 4⟩⟩
      refine zsem_eq (Nat.le_of_ble_eq_true rfl) (zTo_of gX3_toldRoom_0 ?_)
      simp only [a1, nm, i10, a3, k0, rn, fl4, zmp_s, zlt_s, zcV_s, zcI_s, zcJ_s, zcA_s, zcD_s, zcF_s, zth_n, zth_t, zrt_s, zQ_l, zQ_r, false_or, or_false, true_or, or_true, false_and, and_false, not_false_eq_true, not_true_eq_false, and_self, true_and, and_true, if_true, if_false, ite_true, ite_false, zgd_t]
    | some r =>
      rw [e] at rn
      have rn : sX2_roomNamed [.ref L16, .long (zJ h p 5)] h = some (.inl (some (.int (nI r))), h) := rn
      have rl := nRn_lt e
      have h0 := hI.1
      refine ⟨h, Or.inr ⟨r, rfl, ?_, rl⟩⟩
      refine zsem_eq (Nat.le_of_ble_eq_true rfl) (zTo_of gX3_toldRoom_0 ?_)
      simp only [a1, nm, i10, a3, k0, rn, nI_m1f (show r < 2 ^ 31 by omega), zmp_s, zlt_s, zcV_s, zcI_s, zcJ_s, zcA_s, zcD_s, zcF_s, zth_n, zth_t, zrt_s, zQ_l, zQ_r, false_or, or_false, true_or, or_true, false_and, and_false, not_false_eq_true, not_true_eq_false, and_self, true_and, and_true, if_true, if_false, ite_true, ite_false, zgd_t]
theorem fW_ra (c ks cs : Nat) (h0 : N 0 ≤ 11) : zput (zput (nAddR (fW N) c) (16 + 3 * N 0) ks) (17 + 3 * N 0) cs = fW (nRa N c ks cs) := by
  have f0 : fW N 0 = N 0 := fW_ne (by omega)
  have r2 : nRa N c ks cs 2 = N 2 := by unfold nRa; rw [zput_ne _ _ (by omega), zput_ne _ _ (by omega), zput_ne _ _ (by omega), zput_ne _ _ (by omega)]
  funext i
  unfold nAddR
  rw [f0]
  by_cases i5 : i = 5
  · subst i5
    rw [fW_5, r2, zput_ne _ _ (by omega), zput_ne _ _ (by omega), zput_ne _ _ (by omega), zput_ne _ _ (by omega), zput_ne _ _ (by omega), zput_ne _ _ (by omega), fW_5]
  · rw [fW_ne i5]
    unfold nRa
    by_cases i17 : i = 17 + 3 * N 0
    · subst i17
      rw [zput_self, zput_ne _ _ (by omega), zput_self]
    · rw [zput_ne _ _ i17]
      by_cases i16 : i = 16 + 3 * N 0
      · subst i16
        rw [zput_self, zput_ne _ _ (by omega), zput_ne _ _ (by omega), zput_self]
      · rw [zput_ne _ _ i16]
        by_cases i0 : i = 0
        · subst i0
          rw [zput_self, zput_ne _ _ (by omega), zput_ne _ _ (by omega), zput_ne _ _ (by omega), zput_self]
        · rw [zput_ne _ _ i0, zput_ne _ _ i17, zput_ne _ _ i16]
          by_cases i18 : i = 18 + 3 * N 0
          · subst i18
            rw [zput_self, zput_self]
          · rw [zput_ne _ _ i18, zput_ne _ _ i18, zput_ne _ _ i17, zput_ne _ _ i16, zput_ne _ _ i0, fW_ne i5]
theorem c_room (C : CL h p xs (fW N) fl s) (hI : PI N) : RO (pRoom xs N s) (sX3_readRoom [.ref p] h) (RE p h) (fun u g => zFr (paA p) h g ∧ CL g p xs (fW u.1) fl u.2 ∧ PI u.1 ∧ 1 ≤ u.1 0) := by
  have a1 := C.1.2.1
  have a3 := C.1.2.2.2.1
  have e16 := L16e
  have hS := C.1.2.2.2.2.2.2.2.2.2.2.2
  have k0 := hS.1
  have h0 := hI.1
  have f0 : fW N 0 = N 0 := fW_ne (by omega)
  have f4 : fW N 4 = N 4 := fW_ne (by omega)
  have h4 := hI.2.2.1
  have l0 := C.2.2.1.1
  rw [f0] at l0
  have lt11 : (nI (N 0) < 11) = (N 0 < 11) := propext (nI_ltI (b := 11) (by omega) (by omega))
  unfold pRoom
  by_cases w : 11 ≤ N 0
  · rw [if_pos w]
    have fl5 : sX3_fail [.ref p, .int 5] h = _ := q_fail C.1 (nI 5)
    refine ⟨zsI h p 8 (nI 5), Or.inl ⟨(5, s), rfl, ?_, CL_fail C 5⟩⟩
    refine zsem_eq (Nat.le_of_ble_eq_true rfl) (zTo_of gX3_readRoom_0 ?_)
    simp only [a1, a3, k0, l0, lt11, show ¬ N 0 < 11 by omega, fl5, zrt_s, zmp_s, zlt_s, zcV_s, zcI_s, zcJ_s, zcA_s, zcD_s, zcF_s, zth_n, zth_t, zrt_s, zQ_l, zQ_r, false_or, or_false, true_or, or_true, false_and, and_false, not_false_eq_true, not_true_eq_false, and_self, true_and, and_true, if_true, if_false, ite_true, ite_false, zgd_t]
  · rw [if_neg w]
    obtain ⟨g1, e1, fr1, D1⟩ := CL_go C
    have c1 := D1.1.2.1
    have c3 := D1.1.2.2.2.1
    have hS1 := D1.1.2.2.2.2.2.2.2.2.2.2.2
    have nm := q_isName D1.1 D1.2.1
    cases q : isN xs (nxt xs s)
    · rw [q, zb_f] at nm
      have fl1 : sX3_fail [.ref p, .int 1] g1 = _ := q_fail D1.1 (nI 1)
      refine ⟨zsI g1 p 8 (nI 1), Or.inl ⟨(1, nxt xs s), rfl, ?_, RE.pre (fr1.mono pa_p) (CL_fail D1 1)⟩⟩
      refine zsem_eq (Nat.le_of_ble_eq_true rfl) (zTo_of gX3_readRoom_0 ?_)
      simp only [a1, a3, k0, l0, lt11, show N 0 < 11 by omega, e1, c1, nm, fl1, zrt_s, zmp_s, zlt_s, zcV_s, zcI_s, zcJ_s, zcA_s, zcD_s, zcF_s, zth_n, zth_t, zrt_s, zQ_l, zQ_r, false_or, or_false, true_or, or_true, false_and, and_false, not_false_eq_true, not_true_eq_false, and_self, true_and, and_true, if_true, if_false, ite_true, ite_false, zgd_t]
    · rw [q, zb_t] at nm
      obtain ⟨rn, wd, wl⟩ := c_named D1 hI q
      rw [if_pos rfl]
      cases e : nRn N (wcd xs (nxt xs s)) with
      | some r =>
        rw [e] at rn
        have rn : sX2_roomNamed [.ref L16, .long (zJ g1 p 5)] g1 = some (.inl (some (.int (nI r))), g1) := rn
        have rl := nRn_lt e
        have fl3 : sX3_fail [.ref p, .int 3] g1 = _ := q_fail D1.1 (nI 3)
        refine ⟨zsI g1 p 8 (nI 3), Or.inl ⟨(3, nxt xs s), rfl, ?_, RE.pre (fr1.mono pa_p) (CL_fail D1 3)⟩⟩
        refine zsem_eq (Nat.le_of_ble_eq_true rfl) (zTo_of gX3_readRoom_0 ?_)
        simp only [a1, a3, k0, l0, lt11, show N 0 < 11 by omega, e1, c1, nm, i10, c3, hS1.1, rn, nI_m1f (show r < 2 ^ 31 by omega), fl3, zrt_s, zmp_s, zlt_s, zcV_s, zcI_s, zcJ_s, zcA_s, zcD_s, zcF_s, zth_n, zth_t, zrt_s, zQ_l, zQ_r, false_or, or_false, true_or, or_true, false_and, and_false, not_false_eq_true, not_true_eq_false, and_self, true_and, and_true, if_true, if_false, ite_true, ite_false, zgd_t]
      | none =>
        rw [e] at rn
        have rn : sX2_roomNamed [.ref L16, .long (zJ g1 p 5)] g1 = some (.inl (some (.int (-1))), g1) := rn
        obtain ⟨g2, e2, fr2, L2⟩ := q_addRoom (c := wcd xs (nxt xs s)) hS1 D1.2.2.1 (by rw [f0]; omega) (by rw [f4]; omega)
        rw [f0] at e2
        have j5 : zJ g1 p 5 = lN (pkn (wcd xs (nxt xs s))) := by rw [← wd]; exact D1.2.1.2.2.2.1
        rw [j5] at rn
        have fr2' : zFr (fun q => 16 ≤ q ∧ q ≤ 26) g1 g2 := fr2.mono (fun q hq => by omega)
        have D2 := CL_lv D1 fr2' L2 (lvO_fr fr2 (by omega) D1.2.2.2.1)
        obtain ⟨g3, e3, fr3, D3⟩ := CL_go D2
        have n0 : nAddR (fW N) (wcd xs (nxt xs s)) 0 = N 0 + 1 := by unfold nAddR; rw [zput_self, f0]
        have n4 : nAddR (fW N) (wcd xs (nxt xs s)) 4 = N 4 := by unfold nAddR; rw [f0, zput_ne _ _ (by omega), zput_ne _ _ (by omega), zput_ne _ _ (by omega), zput_ne _ _ (by omega), f4]
        have n16 : nAddR (fW N) (wcd xs (nxt xs s)) (16 + 3 * N 0) = 0 := by unfold nAddR; rw [f0, zput_ne _ _ (by omega), zput_ne _ _ (by omega), zput_self]
        have n17 : nAddR (fW N) (wcd xs (nxt xs s)) (17 + 3 * N 0) = 0 := by unfold nAddR; rw [f0, zput_ne _ _ (by omega), zput_self]
        have F3 : zFr (paA p) h g3 := ((fr1.mono pa_p).tr (fr2'.mono pa_lv)).tr (fr3.mono pa_p)
        show RO (pb (pKeyO xs (nxt xs (nxt xs s))) _) _ _ _
        rcases c_keys (r := N 0) D3 (by rw [n0, n4]; omega) (by rw [n0]; omega) n16 with ⟨g4, ⟨er, hu, hf, hE⟩ | ⟨a, hu, hf, F4, D4, hk⟩⟩
        · rw [hu]
          refine ⟨g4, Or.inl ⟨er, rfl, ?_, RE.pre F3 hE⟩⟩
          refine zsem_eq (Nat.le_of_ble_eq_true rfl) (zTo_of gX3_readRoom_0 ?_)
          simp only [a1, a3, k0, l0, lt11, show N 0 < 11 by omega, e1, c1, nm, i10, c3, hS1.1, rn, j5, e2, D2.1.2.1, e3, D3.1.2.1, hf, zmp_s, zlt_s, zcV_s, zcI_s, zcJ_s, zcA_s, zcD_s, zcF_s, zth_n, zth_t, zrt_s, zQ_l, zQ_r, false_or, or_false, true_or, or_true, false_and, and_false, not_false_eq_true, not_true_eq_false, and_self, true_and, and_true, if_true, if_false, ite_true, ite_false, zgd_t]
        · rw [hu]
          show RO (pb (pCoin xs a.2) _) _ _ _
          rcases c_coins (r := N 0) D4 (by rw [zput_ne _ _ (by omega), zput_ne _ _ (by omega), n0, n4]; omega) (by rw [zput_ne _ _ (by omega), n0]; omega) (by rw [zput_ne _ _ (by omega), n17]) with ⟨g5, ⟨er, hu5, hf5, hE⟩ | ⟨b, hu5, hf5, F5, D5, hc⟩⟩
          · rw [hu5]
            refine ⟨g5, Or.inl ⟨er, rfl, ?_, RE.pre (F3.tr F4) hE⟩⟩
            refine zsem_eq (Nat.le_of_ble_eq_true rfl) (zTo_of gX3_readRoom_0 ?_)
            simp only [a1, a3, k0, l0, lt11, show N 0 < 11 by omega, e1, c1, nm, i10, c3, hS1.1, rn, j5, e2, D2.1.2.1, e3, D3.1.2.1, hf, D4.1.2.1, hf5, zmp_s, zlt_s, zcV_s, zcI_s, zcJ_s, zcA_s, zcD_s, zcF_s, zth_n, zth_t, zrt_s, zQ_l, zQ_r, false_or, or_false, true_or, or_true, false_and, and_false, not_false_eq_true, not_true_eq_false, and_self, true_and, and_true, if_true, if_false, ite_true, ite_false, zgd_t]
          · rw [hu5]
            show RO (pb (pSemi xs b.2) _) _ _ _
            rcases c_semi D5 with ⟨g6, ⟨er, hu6, hf6, hE⟩ | ⟨y, hu6, hf6, F6, D6⟩⟩
            · rw [hu6]
              refine ⟨g6, Or.inl ⟨er, rfl, ?_, RE.pre ((F3.tr F4).tr F5) hE⟩⟩
              refine zsem_eq (Nat.le_of_ble_eq_true rfl) (zTo_of gX3_readRoom_0 ?_)
              simp only [a1, a3, k0, l0, lt11, show N 0 < 11 by omega, e1, c1, nm, i10, c3, hS1.1, rn, j5, e2, D2.1.2.1, e3, D3.1.2.1, hf, D4.1.2.1, hf5, D5.1.2.1, hf6, zmp_s, zlt_s, zcV_s, zcI_s, zcJ_s, zcA_s, zcD_s, zcF_s, zth_n, zth_t, zrt_s, zQ_l, zQ_r, false_or, or_false, true_or, or_true, false_and, and_false, not_false_eq_true, not_true_eq_false, and_self, true_and, and_true, if_true, if_false, ite_true, ite_false, zgd_t]
            · rw [hu6]
              have pr := PI_ra (c := wcd xs (nxt xs s)) (ks := a.1) (cs := b.1) hI (by omega) wl hk hc
              rw [fW_ra _ _ _ h0] at D6
              refine ⟨g6, Or.inr ⟨_, rfl, ?_, ((F3.tr F4).tr F5).tr F6, D6, pr.1, pr.2⟩⟩
              refine zsem_eq (Nat.le_of_ble_eq_true rfl) (zTo_of gX3_readRoom_0 ?_)
              simp only [a1, a3, k0, l0, lt11, show N 0 < 11 by omega, e1, c1, nm, i10, c3, hS1.1, rn, j5, e2, D2.1.2.1, e3, D3.1.2.1, hf, D4.1.2.1, hf5, D5.1.2.1, hf6, zmp_s, zlt_s, zcV_s, zcI_s, zcJ_s, zcA_s, zcD_s, zcF_s, zth_n, zth_t, zrt_s, zQ_l, zQ_r, false_or, or_false, true_or, or_true, false_and, and_false, not_false_eq_true, not_true_eq_false, and_self, true_and, and_true, if_true, if_false, ite_true, ite_false, zgd_t]
end
end ZPD

