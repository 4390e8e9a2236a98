/-! THE CLASS: a text read. -/
section ZPF
section
variable {xs : List Int32} {N : zLv} {fl : Bool} {s : Nat}
theorem isW_ty {K : Nat} (h : isW xs s K = true) : ty xs s ≠ 0 := by
  unfold isW at h
  simp only [Bool.and_eq_true, decide_eq_true_eq] at h
  omega
theorem pSemi_s {y : Nat} (h : pSemi xs s = .inr y) : s + 1 ≤ y := by
  unfold pSemi at h
  by_cases c : isS xs s 59 = true
  · rw [if_pos c] at h
    have t : ty xs s ≠ 0 := by
      unfold isS at c
      simp only [Bool.and_eq_true, decide_eq_true_eq] at c
      omega
    have e : nxt xs s = y := by injection h
    rw [← e]; exact (nxt_le xs s).2 t
  · rw [if_neg c] at h; cases h
theorem pb_r {A B : Type} {u : PR A} {k : A → PR B} {y : B} (h : pb u k = .inr y) : ∃ a, u = .inr a ∧ k a = .inr y := by
  cases u with
  | inl e => cases h
  | inr a => exact ⟨a, rfl, h⟩
theorem pKeys_s : ∀ f ks s y, pKeys xs f ks s = .inr y → s ≤ y.2 := by
  intro f
  induction f with
  | zero => intro ks s y h; cases h
  | succ f ih =>
    intro ks s y h
    rw [pKeys] at h
    obtain ⟨v, _, h⟩ := pb_r h
    have a1 := (nxt_le xs s).1
    have a2 := (nxt_le xs (nxt xs s)).1
    by_cases c1 : ks.testBit v = true
    · rw [if_pos c1] at h; cases h
    · rw [if_neg c1] at h
      by_cases c2 : isS xs (nxt xs (nxt xs s)) 44 = true
      · rw [if_pos c2] at h
        have := ih _ _ _ h; omega
      · rw [if_neg c2] at h
        have e : (ks ||| 2 ^ v, nxt xs (nxt xs s)) = y := by injection h
        rw [← e]; show s ≤ nxt xs (nxt xs s); omega
theorem pKeyO_s {y : Nat × Nat} (h : pKeyO xs s = .inr y) : s ≤ y.2 := by
  unfold pKeyO at h
  by_cases c : isW xs s 8179 = true
  · rw [if_pos c] at h; exact pKeys_s _ _ _ _ h
  · rw [if_neg c] at h
    have e : (0, s) = y := by injection h
    rw [← e]; exact Nat.le_refl _
theorem pCoin_s {y : Nat × Nat} (h : pCoin xs s = .inr y) : s ≤ y.2 := by
  unfold pCoin at h
  have a1 := (nxt_le xs s).1
  have a2 := (nxt_le xs (nxt xs s)).1
  by_cases c : isW xs s 1896526 = true
  · rw [if_pos c] at h
    obtain ⟨v, _, h⟩ := pb_r h
    have e : (v, nxt xs (nxt xs s)) = y := by injection h
    rw [← e]; show s ≤ nxt xs (nxt xs s); omega
  · rw [if_neg c] at h
    have e : (0, s) = y := by injection h
    rw [← e]; exact Nat.le_refl _
theorem pLk_s {y : (Nat × Nat) × Nat} (h : pLk xs s = .inr y) : s ≤ y.2 := by
  unfold pLk at h
  have a1 := (nxt_le xs s).1
  have a2 := (nxt_le xs (nxt xs s)).1
  by_cases c : isW xs s 8179 = true
  · rw [if_pos c] at h
    obtain ⟨v, _, h⟩ := pb_r h
    have e : ((1, v), nxt xs (nxt xs s)) = y := by injection h
    rw [← e]; show s ≤ nxt xs (nxt xs s); omega
  · rw [if_neg c] at h
    by_cases c2 : isW xs s 404931 = true
    · rw [if_pos c2] at h
      obtain ⟨v, _, h⟩ := pb_r h
      have e : ((2, v), nxt xs (nxt xs s)) = y := by injection h
      rw [← e]; show s ≤ nxt xs (nxt xs s); omega
    · rw [if_neg c2] at h
      have e : ((0, 0), s) = y := by injection h
      rw [← e]; exact Nat.le_refl _
theorem pOw_s : s ≤ (pOw xs s).2 := by
  unfold pOw
  by_cases c : isW xs s 222789013 = true
  · rw [if_pos c]; exact (nxt_le xs s).1
  · rw [if_neg c]; exact Nat.le_refl _
theorem pStmt_s {y : (zLv × Bool) × Nat} (h : pStmt xs N fl s = .inr y) : s + 1 ≤ y.2 := by
  have a1 := (nxt_le xs s).1
  have a2 := (nxt_le xs (nxt xs s)).1
  have a3 := (nxt_le xs (nxt xs (nxt xs s))).1
  unfold pStmt at h
  by_cases c1 : isW xs s 365647 = true
  · rw [if_pos c1] at h
    obtain ⟨u, hu, h⟩ := pb_r h
    have e : ((u.1, fl), u.2) = y := by injection h
    rw [← e]; show s + 1 ≤ u.2
    unfold pRoom at hu
    by_cases d1 : 11 ≤ N 0
    · rw [if_pos d1] at hu; cases hu
    rw [if_neg d1] at hu
    by_cases d2 : isN xs (nxt xs s) = true
    · rw [if_pos d2] at hu
      by_cases d3 : (nRn N (wcd xs (nxt xs s))).isSome = true
      · rw [if_pos d3] at hu; cases hu
      · rw [if_neg d3] at hu
        obtain ⟨k, hk, hu⟩ := pb_r hu
        obtain ⟨c, hc, hu⟩ := pb_r hu
        obtain ⟨w, hw, hu⟩ := pb_r hu
        have b1 := pKeyO_s hk
        have b2 := pCoin_s hc
        have b3 := pSemi_s hw
        have e : (nRa N (wcd xs (nxt xs s)) k.1 c.1, w) = u := by injection hu
        rw [← e]; show s + 1 ≤ w; omega
    · rw [if_neg d2] at hu; cases hu
  · rw [if_neg c1] at h
    by_cases c2 : isW xs s 90090 = true
    · rw [if_pos c2] at h
      obtain ⟨u, hu, h⟩ := pb_r h
      have e : ((u.1, fl), u.2) = y := by injection h
      rw [← e]; show s + 1 ≤ u.2
      unfold pDoor at hu
      by_cases d1 : 20 ≤ N 1
      · rw [if_pos d1] at hu; cases hu
      rw [if_neg d1] at hu
      obtain ⟨f, hf, hu⟩ := pb_r hu
      obtain ⟨g, hg, hu⟩ := pb_r hu
      by_cases d2 : g = f
      · rw [if_pos d2] at hu; cases hu
      · rw [if_neg d2, pDoor1_eq] at hu
        obtain ⟨l, hl, hu⟩ := pb_r hu
        obtain ⟨w, hw, hu⟩ := pb_r hu
        have b1 := pLk_s hl
        have b2 := pOw_s (xs := xs) (s := l.2)
        have b3 := pSemi_s hw
        have e : (nAo N f g l.1.1 l.1.2 (pOw xs l.2).1, w) = u := by injection hu
        rw [← e]; show s + 1 ≤ w; omega
    · rw [if_neg c2] at h
      by_cases c3 : isW xs s 10492274 = true
      · rw [if_pos c3] at h
        obtain ⟨u, hu, h⟩ := pb_r h
        have e : ((u.1, true), u.2) = y := by injection h
        rw [← e]; show s + 1 ≤ u.2
        unfold pStart at hu
        by_cases d1 : fl = true
        · rw [if_pos d1] at hu; cases hu
        rw [if_neg d1] at hu
        obtain ⟨r, hr, hu⟩ := pb_r hu
        obtain ⟨w, hw, hu⟩ := pb_r hu
        have b3 := pSemi_s hw
        have e : (zput N 2 r, w) = u := by injection hu
        rw [← e]; show s + 1 ≤ w; omega
      · rw [if_neg c3] at h
        by_cases c4 : isW xs s 4027 = true
        · rw [if_pos c4] at h
          obtain ⟨u, hu, h⟩ := pb_r h
          have e : ((u.1, fl), u.2) = y := by injection h
          rw [← e]; show s + 1 ≤ u.2
          unfold pEnd at hu
          by_cases d1 : N 3 ≠ 0
          · rw [if_pos d1] at hu; cases hu
          rw [if_neg d1] at hu
          obtain ⟨r, hr, hu⟩ := pb_r hu
          obtain ⟨w, hw, hu⟩ := pb_r hu
          have b3 := pSemi_s hw
          have e : (zput N 3 (r + 1), w) = u := by injection hu
          rw [← e]; show s + 1 ≤ w; omega
        · rw [if_neg c4] at h; cases h
end
section
variable {h : zm_H} {p : Nat} {xs : List Int32} {M N : zLv} {fl : Bool} {s : Nat}
theorem c_stmt (C : CL h p xs (fW N) fl s) (hI : PI N) : RO (pStmt xs N fl s) (sX3_readStatement [.ref p] h) (RE p h) (fun u g => zFr (paA p) h g ∧ CL g p xs (fW u.1.1) u.1.2 u.2 ∧ PI u.1.1 ∧ 1 ≤ u.1.1 0) := by
  have a1 := C.1.2.1
  have i1 := q_isWord (K := 365647) (L := 1919905645) C.1 C.2.1 (by decide +kernel) (by decide) (by omega)
  have i2 := q_isWord (K := 90090) (L := 1685024626) C.1 C.2.1 (by decide +kernel) (by decide) (by omega)
  have i3 := q_isWord (K := 10492274) (L := 495873782388) C.1 C.2.1 (by decide +kernel) (by decide) (by omega)
  have i4 := q_isWord (K := 4027) (L := 6647396) C.1 C.2.1 (by decide +kernel) (by decide) (by omega)
  unfold pStmt
  cases w1 : isW xs s 365647
  · rw [w1, zb_f] at i1
    rw [if_neg (by simp)]
    cases w2 : isW xs s 90090
    · rw [w2, zb_f] at i2
      rw [if_neg (by simp)]
      cases w3 : isW xs s 10492274
      · rw [w3, zb_f] at i3
        rw [if_neg (by simp)]
        cases w4 : isW xs s 4027
        · rw [w4, zb_f] at i4
          rw [if_neg (by simp)]
          have fl1 : sX3_fail [.ref p, .int 1] h = _ := q_fail C.1 (nI 1)
          refine ⟨zsI h p 8 (nI 1), Or.inl ⟨(1, s), rfl, ?_, CL_fail C 1⟩⟩
          refine zsem_eq (Nat.le_of_ble_eq_true rfl) (zTo_of gX3_readStatement_0 ?_)
          simp only [a1, i1, i2, i3, i4, fl1, zrt_s, zmp_s, zlt_s, zcV_s, zcI_s, zcJ_s, zcA_s, zcD_s, zcF_s, zth_n, zth_t, zrt_s, zQ_l, zQ_r, false_or, or_false, true_or, or_true, false_and, and_false, not_false_eq_true, not_true_eq_false, and_self, true_and, and_true, if_true, if_false, ite_true, ite_false, zgd_t]
        · rw [w4, zb_t] at i4
          rw [if_pos rfl]
          rcases c_end C hI with ⟨g, ⟨er, hu, hf, hE⟩ | ⟨a, hu, hf, hK⟩⟩
          · rw [hu]
            refine ⟨g, Or.inl ⟨er, rfl, ?_, hE⟩⟩
            refine zsem_eq (Nat.le_of_ble_eq_true rfl) (zTo_of gX3_readStatement_0 ?_)
            simp only [a1, i1, i2, i3, i4, i10, hf, zrt_s, zmp_s, zlt_s, zcV_s, zcI_s, zcJ_s, zcA_s, zcD_s, zcF_s, zth_n, zth_t, zrt_s, zQ_l, zQ_r, false_or, or_false, true_or, or_true, false_and, and_false, not_false_eq_true, not_true_eq_false, and_self, true_and, and_true, if_true, if_false, ite_true, ite_false, zgd_t]
          · rw [hu]
            refine ⟨g, Or.inr ⟨_, rfl, ?_, hK⟩⟩
            refine zsem_eq (Nat.le_of_ble_eq_true rfl) (zTo_of gX3_readStatement_0 ?_)
            simp only [a1, i1, i2, i3, i4, i10, hf, zrt_s, zmp_s, zlt_s, zcV_s, zcI_s, zcJ_s, zcA_s, zcD_s, zcF_s, zth_n, zth_t, zrt_s, zQ_l, zQ_r, false_or, or_false, true_or, or_true, false_and, and_false, not_false_eq_true, not_true_eq_false, and_self, true_and, and_true, if_true, if_false, ite_true, ite_false, zgd_t]
      · rw [w3, zb_t] at i3
        rw [if_pos rfl]
        rcases c_start C hI with ⟨g, ⟨er, hu, hf, hE⟩ | ⟨a, hu, hf, hK⟩⟩
        · rw [hu]
          refine ⟨g, Or.inl ⟨er, rfl, ?_, hE⟩⟩
          refine zsem_eq (Nat.le_of_ble_eq_true rfl) (zTo_of gX3_readStatement_0 ?_)
          simp only [a1, i1, i2, i3, i10, hf, zrt_s, zmp_s, zlt_s, zcV_s, zcI_s, zcJ_s, zcA_s, zcD_s, zcF_s, zth_n, zth_t, zrt_s, zQ_l, zQ_r, false_or, or_false, true_or, or_true, false_and, and_false, not_false_eq_true, not_true_eq_false, and_self, true_and, and_true, if_true, if_false, ite_true, ite_false, zgd_t]
        · rw [hu]
          refine ⟨g, Or.inr ⟨_, rfl, ?_, hK⟩⟩
          refine zsem_eq (Nat.le_of_ble_eq_true rfl) (zTo_of gX3_readStatement_0 ?_)
          simp only [a1, i1, i2, i3, i10, hf, zrt_s, zmp_s, zlt_s, zcV_s, zcI_s, zcJ_s, zcA_s, zcD_s, zcF_s, zth_n, zth_t, zrt_s, zQ_l, zQ_r, false_or, or_false, true_or, or_true, false_and, and_false, not_false_eq_true, not_true_eq_false, and_self, true_and, and_true, if_true, if_false, ite_true, ite_false, zgd_t]
    · rw [w2, zb_t] at i2
      rw [if_pos rfl]
      rcases c_door C hI with ⟨g, ⟨er, hu, hf, hE⟩ | ⟨a, hu, hf, hK⟩⟩
      · rw [hu]
        refine ⟨g, Or.inl ⟨er, rfl, ?_, hE⟩⟩
        refine zsem_eq (Nat.le_of_ble_eq_true rfl) (zTo_of gX3_readStatement_0 ?_)
        simp only [a1, i1, i2, i10, hf, zrt_s, zmp_s, zlt_s, zcV_s, zcI_s, zcJ_s, zcA_s, zcD_s, zcF_s, zth_n, zth_t, zrt_s, zQ_l, zQ_r, false_or, or_false, true_or, or_true, false_and, and_false, not_false_eq_true, not_true_eq_false, and_self, true_and, and_true, if_true, if_false, ite_true, ite_false, zgd_t]
      · rw [hu]
        refine ⟨g, Or.inr ⟨_, rfl, ?_, hK⟩⟩
        refine zsem_eq (Nat.le_of_ble_eq_true rfl) (zTo_of gX3_readStatement_0 ?_)
        simp only [a1, i1, i2, i10, hf, zrt_s, zmp_s, zlt_s, zcV_s, zcI_s, zcJ_s, zcA_s, zcD_s, zcF_s, zth_n, zth_t, zrt_s, zQ_l, zQ_r, false_or, or_false, true_or, or_true, false_and, and_false, not_false_eq_true, not_true_eq_false, and_self, true_and, and_true, if_true, if_false, ite_true, ite_false, zgd_t]
  · rw [w1, zb_t] at i1
    rw [if_pos rfl]
    rcases c_room C hI with ⟨g, ⟨er, hu, hf, hE⟩ | ⟨a, hu, hf, hK⟩⟩
    · rw [hu]
      refine ⟨g, Or.inl ⟨er, rfl, ?_, hE⟩⟩
      refine zsem_eq (Nat.le_of_ble_eq_true rfl) (zTo_of gX3_readStatement_0 ?_)
      simp only [a1, i1, i10, hf, zrt_s, zmp_s, zlt_s, zcV_s, zcI_s, zcJ_s, zcA_s, zcD_s, zcF_s, zth_n, zth_t, zrt_s, zQ_l, zQ_r, false_or, or_false, true_or, or_true, false_and, and_false, not_false_eq_true, not_true_eq_false, and_self, true_and, and_true, if_true, if_false, ite_true, ite_false, zgd_t]
    · rw [hu]
      refine ⟨g, Or.inr ⟨_, rfl, ?_, hK⟩⟩
      refine zsem_eq (Nat.le_of_ble_eq_true rfl) (zTo_of gX3_readStatement_0 ?_)
      simp only [a1, i1, i10, hf, zrt_s, zmp_s, zlt_s, zcV_s, zcI_s, zcJ_s, zcA_s, zcD_s, zcF_s, zth_n, zth_t, zrt_s, zQ_l, zQ_r, false_or, or_false, true_or, or_true, false_and, and_false, not_false_eq_true, not_true_eq_false, and_self, true_and, and_true, if_true, if_false, ite_true, ite_false, zgd_t]
/-- nothing told yet -/
def N00 : zLv := fun i => if i = 4 then 1 else 0
theorem PI_00 : PI N00 := by
  refine ⟨by decide, by decide, rfl, fun r hr => ?_, fun d hd => ?_, Or.inl rfl, by decide, fun r hr => ?_⟩
  · exact absurd hr (by show ¬ r < 0; omega)
  · exact absurd hd (by show ¬ d < 0; omega)
  · exact absurd hr (by show ¬ r < 0; omega)
def pLoad (xs : List Int32) : PR zLv := pAll xs 500 N00 false (skp xs 0)
theorem c_parse (X : PX h p xs) (ho : lvO h L16) (h3 : zI h p 3 = 0) (h2 : zI h p 2 = 0) : RO (pLoad xs) (sX3_parse [.ref p] h) (RE p h) (fun M g => zFr (paA p) h g ∧ KL g L16 (fW M) ∧ lvO g L16 ∧ PI M ∧ 1 ≤ M 0) := by
  have hn := X.2.2.2.2.2.2.2.2.1
  have a1 := X.2.1
  have a3 := X.2.2.2.1
  have e16 := L16e
  have hp := X.1
  have hS := X.2.2.2.2.2.2.2.2.2.2.2
  have k0 := hS.1
  obtain ⟨gA, hgA⟩ : ∃ gA, gA = zsI (zsI (zsI h L16 0 0) L16 4 0) L16 11 (-1) := ⟨_, rfl⟩
  obtain ⟨gB, hgB⟩ : ∃ gB, gB = zsI (zsI (zsI gA L16 10 (nI 0)) (L16 + 9) 0 (nI 0)) L16 13 (nI 1) := ⟨_, rfl⟩
  have frA : zFr (fun q => q = L16 ∨ q = L16 + 9) h gA := by
    rw [hgA]; exact ((zFr.sI (Or.inl rfl)).tr (zFr.sI (Or.inl rfl))).tr (zFr.sI (Or.inl rfl))
  have frB : zFr (fun q => q = L16 ∨ q = L16 + 9) h gB := by
    rw [hgB]; exact ((frA.tr (zFr.sI (Or.inl rfl))).tr (zFr.sI (Or.inr rfl))).tr (zFr.sI (Or.inl rfl))
  have KB : KL gB L16 (fW N00) := by
    refine ⟨?_, ?_, ?_, ?_, ?_, ?_, ?_, ?_, ?_, ?_, ?_, ?_, ?_, ?_⟩
    · rw [hgB, I_sIs, zput_ne _ _ (by omega), I_sIn (by omega), I_sIs, zput_ne _ _ (by omega), hgA, I_sIs, zput_ne _ _ (by omega), I_sIs, zput_ne _ _ (by omega), I_sIs, zput_self]; rfl
    · rw [hgB, I_sIs, zput_ne _ _ (by omega), I_sIn (by omega), I_sIs, zput_ne _ _ (by omega), hgA, I_sIs, zput_ne _ _ (by omega), I_sIs, zput_self]; rfl
    · rw [hgB, I_sIs, zput_ne _ _ (by omega), I_sIn (by omega), I_sIs, zput_self]; rfl
    · rw [hgB, I_sIs, zput_ne _ _ (by omega), I_sIn (by omega), I_sIs, zput_ne _ _ (by omega), hgA, I_sIs, zput_self]; exact eI_0.symm
    · rw [hgB, I_sIs, zput_self]; rfl
    · intro r hr; exact absurd hr (by show ¬ r < 0; omega)
    · intro r hr; exact absurd hr (by show ¬ r < 0; omega)
    · intro r hr; exact absurd hr (by show ¬ r < 0; omega)
    · intro r hr; exact absurd hr (by show ¬ r < 0; omega)
    · intro r hr; exact absurd hr (by show ¬ r < 0; omega)
    · intro r hr; exact absurd hr (by show ¬ r < 0; omega)
    · intro r hr; exact absurd hr (by show ¬ r < 0; omega)
    · intro r hr; exact absurd hr (by show ¬ r < 0; omega)
    · intro k hk
      have hk : k < 1 := hk
      have : k = 0 := by omega
      subst this
      rw [hgB, I_sIn (by omega), I_sIs, zput_self]; rfl
  have bg := q_beginAt (r := 0) (lvS_fr frA hS)
  rw [← hgB] at bg
  have bg : sX2_beginAt [.ref L16, .int 0] gA = some (.inl none, gB) := bg
  have cl : sX2_clear [.ref L16] h = some (.inl none, gB) := by
    refine zsem_eq (Nat.le_of_ble_eq_true rfl) (zTo_of gX2_clear_0 ?_)
    simp only [k0, K_sI, K_sJ, K_sD, K_sP, K_rI, K_rJ, P_sI, P_sJ, P_sD, P_rI, P_rJ, N_sI, N_sJ, N_sD, N_sP, N_rI, N_rJ, J_sI, J_sD, J_sP, J_rI, I_sJ, I_sD, I_sP, I_rJ, D_sI, D_sJ, D_sP, D_rI, D_rJ, ← hgA, bg, zmp_s, zlt_s, zcV_s, zcI_s, zcJ_s, zcA_s, zcD_s, zcF_s, zth_n, zth_t, zrt_s, zQ_l, zQ_r, false_or, or_false, true_or, or_true, false_and, and_false, not_false_eq_true, not_true_eq_false, and_self, true_and, and_true, if_true, if_false, ite_true, ite_false, zgd_t]
  have frBp : zFr (paA p) h gB := frB.mono (fun q hq => by unfold paA; omega)
  have XB := PX_fr frBp X
  have oB := lvO_fr frB (by omega) ho
  obtain ⟨gC, eC, frC, TC, f2, f8⟩ := q_next (e := 0) XB (by omega) (by rw [frB.I (by omega)]; exact h3)
  have C0 : CL gC p xs (fW N00) false (skp xs 0) := ⟨PX_fr (frC.mono pa_p) XB, TC, KL_fr frC (fun i hi => by omega) KB, lvO_fr frC (by omega) oB, by rw [f2, frB.I (by omega), h2]; rfl⟩
  have FC : zFr (paA p) h gC := frBp.tr (frC.mono pa_p)
  obtain ⟨R, hR⟩ : ∃ R : PR zLv → zm_O → Prop, R = (fun u o => ∃ g, (∃ e, u = .inl e ∧ o = (.inl (some (.int 0)), g) ∧ RE p h e g) ∨ (∃ M, u = .inr M ∧ o = (.inl (some (.int 1)), g) ∧ (zFr (paA p) h g ∧ KL g L16 (fW M) ∧ lvO g L16 ∧ PI M ∧ 1 ≤ M 0))) := ⟨_, rfl⟩
  have bad : ∀ g e n, n ≤ 500 → RE p h e g → zTo vX3_parse rX3_parse (10, [some (.ref p), some (.int 0), some (.int (nI n))], [], g) (R (.inl e)) := by
    intro g e n hn5 hE
    refine zTo_of gX3_parse_10 ?_
    simp only [zmp_s, zlt_s, zcV_s, zcI_s, zcJ_s, zcA_s, zcD_s, zcF_s, zth_n, zth_t, zrt_s, zQ_l, zQ_r, false_or, or_false, true_or, or_true, false_and, and_false, not_false_eq_true, not_true_eq_false, and_self, true_and, and_true, if_true, if_false, ite_true, ite_false, zrt_s, zgd_t]
    rw [ite_self, zQ_r, hR]
    exact ⟨g, Or.inl ⟨e, rfl, rfl, hE⟩⟩
  have loop : ∀ f N fl s n g, n + f = 500 → n ≤ s → 1 ≤ n → zFr (paA p) h g → CL g p xs (fW N) fl s → PI N → 1 ≤ N 0 → zTo vX3_parse rX3_parse (10, [some (.ref p), some (.int 1), some (.int (nI n))], [], g) (R (if ty xs s = 0 then .inr N else pAll xs f N fl s)) := by
    intro f
    induction f with
    | zero =>
      intro N fl s n g hnf hns h1 fr D hI h10
      have le : ((500 : Int32) ≤ nI n) = True := eq_true ((nI_leI (a := 500) (by omega) (by omega)).mpr (by omega))
      have t0 : ty xs s = 0 := ty_0.mpr (by omega)
      rw [if_pos t0]
      refine zTo_of gX3_parse_10 ?_
      simp only [le, i10, zrt_s, zmp_s, zlt_s, zcV_s, zcI_s, zcJ_s, zcA_s, zcD_s, zcF_s, zth_n, zth_t, zrt_s, zQ_l, zQ_r, false_or, or_false, true_or, or_true, false_and, and_false, not_false_eq_true, not_true_eq_false, and_self, true_and, and_true, if_true, if_false, ite_true, ite_false, zgd_t]
      rw [hR]
      exact ⟨g, Or.inr ⟨N, rfl, rfl, fr, D.2.2.1, D.2.2.2.1, hI, h10⟩⟩
    | succ f ih =>
      intro N fl s n g hnf hns h1 fr D hI h10
      have le : ((500 : Int32) ≤ nI n) = False := eq_false (fun x => by have := (nI_leI (a := 500) (by omega) (by omega)).mp x; omega)
      have b1 := D.1.2.1
      have b4 := D.2.1.2.1
      have tl := ty_le xs s
      have t4 : (nI (ty xs s) = 0) = (ty xs s = 0) := propext (nI_eq (b := 0) (by omega) (by omega))
      refine zTo_of gX3_parse_10 ?_
      by_cases t0 : ty xs s = 0
      · rw [if_pos t0]
        simp only [le, i10, b1, b4, t4, eq_true t0, zrt_s, zmp_s, zlt_s, zcV_s, zcI_s, zcJ_s, zcA_s, zcD_s, zcF_s, zth_n, zth_t, zrt_s, zQ_l, zQ_r, false_or, or_false, true_or, or_true, false_and, and_false, not_false_eq_true, not_true_eq_false, and_self, true_and, and_true, if_true, if_false, ite_true, ite_false, zgd_t]
        rw [hR]
        exact ⟨g, Or.inr ⟨N, rfl, rfl, fr, D.2.2.1, D.2.2.2.1, hI, h10⟩⟩
      · rw [if_neg t0]
        rcases c_stmt D hI with ⟨k, ⟨er, hu, hf, hE⟩ | ⟨a, hu, hf, F, D2, hI2, h12⟩⟩
        · have e : pAll xs (f + 1) N fl s = .inl er := by rw [pAll, hu]; rfl
          rw [e]
          simp only [le, i10, b1, b4, t4, eq_false t0, hf, nI_1, zgd_t, zmp_s, zlt_s, zcV_s, zcI_s, zcJ_s, zcA_s, zcD_s, zcF_s, zth_n, zth_t, zrt_s, zQ_l, zQ_r, false_or, or_false, true_or, or_true, false_and, and_false, not_false_eq_true, not_true_eq_false, and_self, true_and, and_true, if_true, if_false, ite_true, ite_false]
          exact bad k er (n + 1) (by omega) (RE.pre fr hE)
        · have e : pAll xs (f + 1) N fl s = if ty xs a.2 = 0 then .inr a.1.1 else pAll xs f a.1.1 a.1.2 a.2 := by rw [pAll, hu]; rfl
          rw [e]
          simp only [le, i10, b1, b4, t4, eq_false t0, hf, nI_1, zgd_t, zmp_s, zlt_s, zcV_s, zcI_s, zcJ_s, zcA_s, zcD_s, zcF_s, zth_n, zth_t, zrt_s, zQ_l, zQ_r, false_or, or_false, true_or, or_true, false_and, and_false, not_false_eq_true, not_true_eq_false, and_self, true_and, and_true, if_true, if_false, ite_true, ite_false]
          have adv := pStmt_s hu
          exact ih _ _ _ (n + 1) k (by omega) (by omega) (by omega) (fr.tr F) D2 hI2 h12
  have hsim : zW (sX3_parse [.ref p] h) (R (pLoad xs)) := by
    refine zsem_to (Nat.le_of_ble_eq_true rfl) (zTo_of gX3_parse_0 ?_)
    have c1 := C0.1.2.1
    have b1 := XB.2.1
    rcases c_stmt C0 PI_00 with ⟨k, ⟨er, hu, hf, hE⟩ | ⟨a, hu, hf, F, D2, hI2, h12⟩⟩
    · have e : pLoad xs = .inl er := by unfold pLoad; rw [show (500 : Nat) = 499 + 1 from rfl, pAll, hu]; rfl
      rw [e]
      simp only [a1, a3, k0, cl, b1, eC, c1, hf, zgd_t, zmp_s, zlt_s, zcV_s, zcI_s, zcJ_s, zcA_s, zcD_s, zcF_s, zth_n, zth_t, zrt_s, zQ_l, zQ_r, false_or, or_false, true_or, or_true, false_and, and_false, not_false_eq_true, not_true_eq_false, and_self, true_and, and_true, if_true, if_false, ite_true, ite_false]
      exact bad k er 1 (by omega) (RE.pre FC hE)
    · have e : pLoad xs = if ty xs a.2 = 0 then .inr a.1.1 else pAll xs 499 a.1.1 a.1.2 a.2 := by unfold pLoad; rw [show (500 : Nat) = 499 + 1 from rfl, pAll, hu]; rfl
      rw [e]
      simp only [a1, a3, k0, cl, b1, eC, c1, hf, zgd_t, zmp_s, zlt_s, zcV_s, zcI_s, zcJ_s, zcA_s, zcD_s, zcF_s, zth_n, zth_t, zrt_s, zQ_l, zQ_r, false_or, or_false, true_or, or_true, false_and, and_false, not_false_eq_true, not_true_eq_false, and_self, true_and, and_true, if_true, if_false, ite_true, ite_false]
      have adv := pStmt_s hu
      exact loop 499 _ _ _ 1 k (by omega) (by omega) (by omega) (FC.tr F) D2 hI2 h12
  rw [hR] at hsim
  obtain ⟨o, h1, g, ⟨e, e1, rfl, e2⟩ | ⟨a, e1, rfl, e2⟩⟩ := hsim
  · exact ⟨g, Or.inl ⟨e, e1, h1, e2⟩⟩
  · exact ⟨g, Or.inr ⟨a, e1, h1, e2⟩⟩
end
end ZPF

