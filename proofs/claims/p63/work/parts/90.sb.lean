/-! THE BUILDER OF A TEXT. -/
section ZSB
theorem b8_fit : ∀ x, x < 128 → (nI x).toInt8.toInt32 = nI x := by decide +kernel
theorem sh0 (x : Int32) : x >>> ((0 : Int32) &&& 31) = x := by
  rw [show (0 : Int32) &&& 31 = 0 by decide]; exact Int32.shiftRight_zero
theorem shl0 (x : Int32) : x <<< ((0 : Int32) &&& 31) = x := by
  rw [show (0 : Int32) &&& 31 = 0 by decide]; exact Int32.shiftLeft_zero
theorem nI_sb {a b : Nat} (h : b ≤ a) : nI a - nI b = nI (a - b) := by
  have e : nI a = nI (a - b) + nI b := by rw [nI_add]; congr 1; omega
  rw [e, Int32.add_sub_cancel]
theorem nI_sb0 {a b : Nat} (ha : a < 2 ^ 30) (hb : b < 2 ^ 30) : (nI a - nI b ≤ 0) = (a ≤ b) := by
  rw [Int32.le_iff_toInt_le, Int32.toInt_sub, nI_toInt (by omega), nI_toInt (by omega), Int.bmod_def]
  show (_ ≤ (0 : Int)) = _
  refine propext ⟨fun e => ?_, fun e => ?_⟩
  · split at e <;> omega
  · split <;> omega
theorem nI_m1' (a : Nat) : nI (a + 1) + (-1 : Int32) = nI a := by
  rw [← nI_add, show nI 1 = (1 : Int32) from rfl, Int32.add_assoc, show (1 : Int32) + -1 = 0 by decide, Int32.add_zero]
section
variable {h : zm_H} {kd len b i : Nat}
theorem sw_N : zN (znew h kd len) = zN h + 1 := rfl
theorem sw_K (e : b ≠ zN h) : zK (znew h kd len) b = zK h b := zrow_ne _ _ (by unfold zN at e; exact e)
theorem sw_Ks : zK (znew h kd len) (zN h) = (kd, len) := zrow_self _ _ _
theorem sw_P (e : b ≠ zN h) : zP (znew h kd len) b = zP h b := zrow_ne _ _ (by unfold zN at e; exact e)
theorem sw_I (e : b ≠ zN h) : zI (znew h kd len) b = zI h b := zrow_ne _ _ (by unfold zN at e; exact e)
theorem sw_Is : zI (znew h kd len) (zN h) = fun _ => 0 := zrow_self _ _ _
theorem zmq_s {X : Type} {q : Int32} {k : Int32 → Option X} : zmq (some q) k = k q := rfl
theorem zro_lo (e : b < 1000200) : zro b = none := by
  unfold zro; rw [if_neg (by omega), if_neg (by omega), if_neg (by omega)]
theorem zbl_lo (e : b < 1000200) (k : zK h b = (2, len)) : zbl h b = some len := by
  unfold zbl; rw [zro_lo e]; simp only [k, if_true]
theorem zby_lo (e : b < 1000200) : zby h b = zI h b := by
  funext i; unfold zby; rw [zro_lo e]
end
/-- a text: its cell, the bytes' cell, the bytes -/
def STR (h : zm_H) (x q : Nat) (xs : List Int32) : Prop := ((1000000 ≤ x ∧ x < 1000010) ∨ (zK h x).1 = 13) ∧ zsv h x = some q ∧ zsd h x = some 0 ∧ zbl h q = some xs.length ∧ (∀ i, i < xs.length → zby h q i = xs.getD i 0) ∧ (∀ i, i < xs.length → (xs.getD i 0).toInt8.toInt32 = xs.getD i 0) ∧ xs.length < 1000
def kb (k : Nat) : List Int32 := zkey.getD k []
theorem kb_fit : ∀ k, k < 10 → (kb k).length < 20 ∧ 1 ≤ (kb k).length ∧ ∀ i, i < (kb k).length → ((kb k).getD i 0).toInt8.toInt32 = (kb k).getD i 0 := by decide +kernel
theorem STR_k {h : zm_H} {k : Nat} (hk : k < 10) : STR h (1000000 + k) (1000200 + k) (kb k) := by
  obtain ⟨a, b, c⟩ := kb_fit k hk
  have e : zro (1000200 + k) = some (kb k) := by
    unfold zro
    rw [if_pos (by omega), show 1000200 + k - 1000200 = k by omega]; rfl
  refine ⟨Or.inl (by omega), ?_, ?_, ?_, fun i hi => ?_, c, by omega⟩
  · unfold zsv; rw [if_pos (by omega), show 1000000 + k + 200 = 1000200 + k by omega]
  · unfold zsd; rw [if_pos (by omega)]
  · unfold zbl; rw [e]
  · unfold zby; rw [e]
section
variable {h : zm_H} {x q : Nat} {xs : List Int32}
theorem w10 : ((1 : Int32) = 0) = False := eq_false (by decide)
theorem f08 : (((0 : Int32)).toInt8.toInt32 = (0 : Int32)) = True := eq_true (by decide)
theorem st_coder (S : STR h x q xs) : sJ0_coder_7d493 [.ref x] h = some (.inl (some (.int 0)), h) := by
  obtain ⟨a, b, c, d, e, f, g⟩ := S
  refine zsem_eq (Nat.le_of_ble_eq_true rfl) (zTo_of gJ0_coder_7d493_0 ?_)
  simp only [w10, c, zmq_s, f08, zmp_s, zlt_s, zcV_s, zcI_s, zcJ_s, zcA_s, zcD_s, zcF_s, zth_n, zth_t, zrt_s, zQ_l, zQ_r, false_or, or_false, true_or, or_true, false_and, and_false, not_false_eq_true, not_true_eq_false, and_self, true_and, and_true, if_true, if_false, ite_true, ite_false, zgd_t]
theorem st_length (S : STR h x q xs) : sJ0_length_8abf5 [.ref x] h = some (.inl (some (.int (nI xs.length))), h) := by
  have S0 := S
  obtain ⟨a, b, c, d, e, f, g⟩ := S
  refine zsem_eq (Nat.le_of_ble_eq_true rfl) (zTo_of gJ0_length_8abf5_0 ?_)
  simp only [a, b, d, st_coder S0, sh0, zmp_s, zlt_s, zcV_s, zcI_s, zcJ_s, zcA_s, zcD_s, zcF_s, zth_n, zth_t, zrt_s, zQ_l, zQ_r, false_or, or_false, true_or, or_true, false_and, and_false, not_false_eq_true, not_true_eq_false, and_self, true_and, and_true, if_true, if_false, ite_true, ite_false, zgd_t]
theorem st_latin (S : STR h x q xs) : sJ0_isLatin1_aae02 [.ref x] h = some (.inl (some (.int 1)), h) := by
  obtain ⟨a, b, c, d, e, f, g⟩ := S
  refine zsem_eq (Nat.le_of_ble_eq_true rfl) (zTo_of gJ0_isLatin1_aae02_0 ?_)
  simp only [w10, c, zmq_s, zmp_s, zlt_s, zcV_s, zcI_s, zcJ_s, zcA_s, zcD_s, zcF_s, zth_n, zth_t, zrt_s, zQ_l, zQ_r, false_or, or_false, true_or, or_true, false_and, and_false, not_false_eq_true, not_true_eq_false, and_self, true_and, and_true, if_true, if_false, ite_true, ite_false, zgd_t]
theorem c16 : ∀ n, n < 256 → ((((nI n).toUInt32 % 65536).toInt32).toUInt32 % 65536).toInt32 = nI n ∧ ((nI n).toUInt32 % 65536).toInt32 = nI n := by decide +kernel
theorem st_charAt {i v : Nat} (S : STR h x q xs) (hq : zK h q = (2, xs.length)) (hq2 : q < 1000200) (hi : i < xs.length) (hv : xs.getD i 0 = nI v) (hv2 : v < 256) : sJ0_charAt_5068e [.ref x, .int (nI i)] h = some (.inl (some (.int (nI v))), h) := by
  have S0 := S
  obtain ⟨a, b, c, d, e, f, g⟩ := S
  have ck : sJ0_checkIndex_df160 [.int (nI i), .int (nI xs.length)] h = some (.inl none, h) := by
    show (if _ then _ else _) = _
    exact if_pos ⟨nI_pos (by omega), nI_lt hi (by omega)⟩
  have e2 : zI h q i = nI v := by have := e i hi; rw [zby_lo hq2] at this; rw [this, hv]
  obtain ⟨m1, m2⟩ := c16 v hv2
  have m0 : nI v &&& (255 : Int32) = nI v := nI_255 hv2
  have s1 : sJ1_charAt_3b067 [.ref q, .int (nI i)] h = some (.inl (some (.int (nI v))), h) := by
    refine zsem_eq (Nat.le_of_ble_eq_true rfl) (zTo_of gJ1_charAt_3b067_0 ?_)
    have cx := nI_clamp (show i < 2 ^ 31 by omega)
    have ni2 : (¬ (nI i < 0 ∨ xs.length ≤ i)) = True := eq_true (by have := nI_ix hi (show i < 2 ^ 31 by omega); rw [cx] at this; exact this)
    simp only [hq, ck, cx, ni2, e2, m0, m1, m2, zmp_s, zlt_s, zcV_s, zcI_s, zcJ_s, zcA_s, zcD_s, zcF_s, zth_n, zth_t, zrt_s, zQ_l, zQ_r, false_or, or_false, true_or, or_true, false_and, and_false, not_false_eq_true, not_true_eq_false, and_self, true_and, and_true, if_true, if_false, ite_true, ite_false, zgd_t]
  refine zsem_eq (Nat.le_of_ble_eq_true rfl) (zTo_of gJ0_charAt_5068e_0 ?_)
  simp only [a, b, st_latin S0, w10, s1, m1, m2, zmp_s, zlt_s, zcV_s, zcI_s, zcJ_s, zcA_s, zcD_s, zcF_s, zth_n, zth_t, zrt_s, zQ_l, zQ_r, false_or, or_false, true_or, or_true, false_and, and_false, not_false_eq_true, not_true_eq_false, and_self, true_and, and_true, if_true, if_false, ite_true, ite_false, zgd_t]
end
def SBc (h : zm_H) (b q cap : Nat) (xs : List Int32) : Prop := zK h b = (12, 4) ∧ zP h b 0 = some q ∧ zI h b 1 = 0 ∧ zI h b 3 = nI xs.length ∧ zK h q = (2, cap) ∧ xs.length ≤ cap ∧ cap ≤ 1000 ∧ (∀ i, i < xs.length → zI h q i = xs.getD i 0) ∧ (∀ i, i < cap → (zI h q i).toInt8.toInt32 = zI h q i) ∧ 125 ≤ b ∧ b < q ∧ q < zN h ∧ zN h < 800000
def SB (h : zm_H) (b : Nat) (xs : List Int32) : Prop := (∃ q cap, SBc h b q cap xs) ∧ zN h ≤ 200 + xs.length
theorem SBc_mk {h g : zm_H} {b q cap : Nat} {xs ys : List Int32} (S : SBc h b q cap xs) (k : zK g = zK h) (p : zP g = zP h) (n : zN g = zN h) (i1 : zI g b 1 = 0) (i3 : zI g b 3 = nI ys.length) (hc : ys.length ≤ cap) (hy : ∀ i, i < ys.length → zI g q i = ys.getD i 0) (hf : ∀ i, i < cap → (zI g q i).toInt8.toInt32 = zI g q i) : SBc g b q cap ys := by
  obtain ⟨a1, a2, a3, a4, a5, a6, a7, a8, a9, a10, a11, a12, a13⟩ := S
  exact ⟨by rw [k]; exact a1, by rw [p]; exact a2, i1, i3, by rw [k]; exact a5, hc, a7, hy, hf, a10, a11, by rw [n]; exact a12, by rw [n]; exact a13⟩
theorem sb_ens {h : zm_H} {b q cap m : Nat} {xs : List Int32} (S : SBc h b q cap xs) (hm : xs.length ≤ m) (hm2 : m ≤ 480) (hN : zN h < 700000) :
    ∃ g q2 cap2, sJ5_ensureCapacityInternal_d00df [.ref b, .int (nI m)] h = some (.inl none, g) ∧ zUp h g ∧ SBc g b q2 cap2 xs ∧ m ≤ cap2 ∧ zN g ≤ zN h + 1 := by
  have S0 := S
  obtain ⟨a1, a2, a3, a4, a5, a6, a7, a8, a9, a10, a11, a12, a13⟩ := S
  by_cases w : m ≤ cap
  · refine ⟨h, q, cap, ?_, ⟨fun _ _ => rfl, fun _ _ => rfl, fun _ _ => ⟨rfl, rfl, rfl⟩⟩, S0, w, by omega⟩
    refine zsem_eq (Nat.le_of_ble_eq_true rfl) (zTo_of gJ5_ensureCapacityInternal_d00df_0 ?_)
    have e : (nI m - nI cap ≤ 0) = True := by rw [nI_sb0 (by omega) (by omega)]; exact eq_true w
    simp only [a1, a2, a3, a5, sh0, e, zmp_s, zlt_s, zcV_s, zcI_s, zcJ_s, zcA_s, zcD_s, zcF_s, zth_n, zth_t, zrt_s, zQ_l, zQ_r, false_or, or_false, true_or, or_true, false_and, and_false, not_false_eq_true, not_true_eq_false, and_self, true_and, and_true, if_true, if_false, ite_true, ite_false, zgd_t]
  · obtain ⟨nc, hnc⟩ : ∃ nc, nc = cap + (if m - cap < cap + 2 then cap + 2 else m - cap) := ⟨_, rfl⟩
    have nc1 : m ≤ nc ∧ cap < nc ∧ nc ≤ 1000 := by rw [hnc]; split <;> omega
    have e : (nI m - nI cap ≤ 0) = False := by rw [nI_sb0 (by omega) (by omega)]; exact eq_false w
    have nl : sJ8_newLength_cabcc [.int (nI cap), .int (nI m - nI cap), .int (nI cap + (2 : Int32))] h = some (.inl (some (.int (nI nc))), h) := by
      refine zsem_eq (Nat.le_of_ble_eq_true rfl) (zTo_of gJ8_newLength_cabcc_0 ?_)
      have e1 : nI m - nI cap = nI (m - cap) := nI_sb (by omega)
      have e2 : nI cap + (2 : Int32) = nI (cap + 2) := nI_add cap 2
      have e3 : nI cap + (if nI (m - cap) < nI (cap + 2) then nI (cap + 2) else nI (m - cap)) = nI nc := by
        rw [hnc]
        by_cases w2 : m - cap < cap + 2
        · rw [if_pos w2, if_pos (nI_lt w2 (by omega)), nI_add]
        · rw [if_neg w2, if_neg (nI_nlt (by omega) (by omega)), nI_add]
      have e4 : (nI nc ≤ (0 : Int32)) = False := eq_false (nI_nle (by omega) (by omega))
      have e5 : ((2147483639 : Int32) < nI nc) = False := eq_false (nI_nlt (a := 2147483639) (b := nc) (by omega) (by omega))
      simp only [e1, e2, e3, e4, e5, zmp_s, zlt_s, zcV_s, zcI_s, zcJ_s, zcA_s, zcD_s, zcF_s, zth_n, zth_t, zrt_s, zQ_l, zQ_r, false_or, or_false, true_or, or_true, false_and, and_false, not_false_eq_true, not_true_eq_false, and_self, true_and, and_true, if_true, if_false, ite_true, ite_false, zgd_t]
    have ncp : sJ5_newCapacity_0f7a4 [.ref b, .int (nI m)] h = some (.inl (some (.int (nI nc))), h) := by
      refine zsem_eq (Nat.le_of_ble_eq_true rfl) (zTo_of gJ5_newCapacity_0f7a4_0 ?_)
      have e6 : (nI nc = (2147483647 : Int32)) = False := eq_false (fun q => by
        have := (nI_eq (a := nc) (b := 2147483647) (by omega) (by omega)).mp q
        omega)
      simp only [a1, a2, a3, a5, sh0, shl0, nl, e6, zmp_s, zlt_s, zcV_s, zcI_s, zcJ_s, zcA_s, zcD_s, zcF_s, zth_n, zth_t, zrt_s, zQ_l, zQ_r, false_or, or_false, true_or, or_true, false_and, and_false, not_false_eq_true, not_true_eq_false, and_self, true_and, and_true, if_true, if_false, ite_true, ite_false, zgd_t]
    obtain ⟨h1, hh1⟩ : ∃ h1, h1 = znew h 2 nc := ⟨_, rfl⟩
    obtain ⟨g1, hg1⟩ : ∃ g1, g1 = zrI h1 (zN h) (va_cpy (zI h1 q) (zI h1 (zN h)) 0 0 cap) := ⟨_, rfl⟩
    have kq : zK h1 q = (2, cap) := by rw [hh1, sw_K (by omega)]; exact a5
    have kn : zK h1 (zN h) = (2, nc) := by rw [hh1]; exact sw_Ks
    have iq : zI h1 q = zI h q := by rw [hh1, sw_I (by omega)]
    have cp : sJ7_copyOf_9075b [.ref q, .int (nI nc)] h = some (.inl (some (.ref (zN h))), g1) := by
      refine zsem_eq (Nat.le_of_ble_eq_true rfl) (zTo_of gJ7_copyOf_9075b_0 ?_)
      have e1 : (nI nc = nI cap) = False := eq_false (fun q => by
        have := (nI_eq (a := nc) (b := cap) (by omega) (by omega)).mp q
        omega)
      have e2 : (nI nc < nI cap) = False := eq_false (nI_nlt (by omega) (by omega))
      have c1 := nI_clamp (show nc < 2 ^ 31 by omega)
      have c2 := nI_clamp (show cap < 2 ^ 31 by omega)
      have p1 := nI_lt0 (show nc < 2 ^ 31 by omega)
      have p2 := nI_lt0 (show cap < 2 ^ 31 by omega)
      have p0 : ((0 : Int32) < 0) = False := eq_false (by decide)
      have c0 : ((0 : Int32)).toNatClampNeg = 0 := by decide
      have fit : (∀ i, i < cap → (zI h1 q i).toInt8.toInt32 = zI h1 q i) = True := eq_true (by rw [iq]; exact a9)
      have zl : zbl h1 q = some cap := zbl_lo (by omega) kq
      have zy : zby h1 q = zI h1 q := zby_lo (by omega)
      simp only [a5, e1, e2, c1, c2, p1, p2, p0, c0, show zN h < 900000 by omega, show nc ≤ 1024 by omega, ← hh1, kq, kn, zl, zy, Nat.zero_add, Nat.le_refl, show cap ≤ nc by omega, fit, ← hg1, zmp_s, zlt_s, zcV_s, zcI_s, zcJ_s, zcA_s, zcD_s, zcF_s, zth_n, zth_t, zrt_s, zQ_l, zQ_r, false_or, or_false, true_or, or_true, false_and, and_false, not_false_eq_true, not_true_eq_false, and_self, true_and, and_true, if_true, if_false, ite_true, ite_false, zgd_t]
    have k1 : zK g1 = zK h1 := by rw [hg1]; rfl
    have P1 : zP g1 = zP h1 := by rw [hg1]; rfl
    have N1 : zN g1 = zN h + 1 := by rw [hg1, hh1]; rfl
    have kb1 : zK g1 b = (12, 4) := by rw [k1, hh1, sw_K (by omega)]; exact a1
    have ib1 : zI g1 b = zI h b := by rw [hg1, I_rIn (by omega), hh1, sw_I (by omega)]
    have u1 : zUp h g1 := by
      have u0 := (new_up (h := h) (kd := 2) (len := nc) (by omega)).1
      rw [← hh1] at u0
      rw [hg1]
      exact zUp.fr u0 (zFr.rI (A := fun c => c = zN h) rfl) (fun c hc => by omega)
    refine ⟨zsP g1 b 0 (some (zN h)), zN h, nc, ?_, u1.tr (sP_up (by omega)), ?_, by omega, by show zN g1 ≤ _; omega⟩
    · refine zsem_eq (Nat.le_of_ble_eq_true rfl) (zTo_of gJ5_ensureCapacityInternal_d00df_0 ?_)
      simp only [a1, a2, a3, a5, sh0, e, ncp, shl0, cp, kb1, show zN h < zN g1 by omega, zmp_s, zlt_s, zcV_s, zcI_s, zcJ_s, zcA_s, zcD_s, zcF_s, zth_n, zth_t, zrt_s, zQ_l, zQ_r, false_or, or_false, true_or, or_true, false_and, and_false, not_false_eq_true, not_true_eq_false, and_self, true_and, and_true, if_true, if_false, ite_true, ite_false, zgd_t]
    · refine ⟨kb1, ?_, ?_, ?_, ?_, by omega, by omega, fun i hi => ?_, fun i hi => ?_, a10, by omega, by show _ < zN g1; omega, by show zN g1 < _; omega⟩
      · show zrow _ b (zput _ 0 _) b 0 = _
        rw [zrow_self, zput_self]
      · show zI g1 b 1 = 0
        rw [ib1]; exact a3
      · show zI g1 b 3 = _
        rw [ib1]; exact a4
      · show zK g1 (zN h) = _
        rw [k1]; exact kn
      · show zI g1 (zN h) i = _
        rw [hg1, I_rIs]
        unfold va_cpy
        rw [if_pos ⟨by omega, by omega⟩, iq, ← a8 i hi]
        congr 1; omega
      · show (zI g1 (zN h) i).toInt8.toInt32 = zI g1 (zN h) i
        rw [hg1, I_rIs]
        unfold va_cpy
        by_cases w2 : 0 ≤ i ∧ i < 0 + cap
        · rw [if_pos w2, iq]; exact a9 _ (by omega)
        · rw [if_neg w2, hh1, sw_Is]; exact b8_fit 0 (by omega)
section
variable {h : zm_H} {b q cap : Nat} {xs : List Int32}
theorem sb_latin (S : SBc h b q cap xs) : sJ5_isLatin1_aae02 [.ref b] h = some (.inl (some (.int 1)), h) := by
  obtain ⟨a1, a2, a3, -⟩ := S
  refine zsem_eq (Nat.le_of_ble_eq_true rfl) (zTo_of gJ5_isLatin1_aae02_0 ?_)
  simp only [w10, a1, a3, zmp_s, zlt_s, zcV_s, zcI_s, zcJ_s, zcA_s, zcD_s, zcF_s, zth_n, zth_t, zrt_s, zQ_l, zQ_r, false_or, or_false, true_or, or_true, false_and, and_false, not_false_eq_true, not_true_eq_false, and_self, true_and, and_true, if_true, if_false, ite_true, ite_false, zgd_t]
theorem sb_put {x p : Nat} {ys : List Int32} (S : SBc h b q cap xs) (Y : STR h x p ys) (hc : xs.length + ys.length ≤ cap) : sJ5_putStringAt_47b60 [.ref b, .int (nI xs.length), .ref x] h = some (.inl none, zrI h q (va_cpy (zby h p) (zI h q) 0 xs.length ys.length)) := by
  have Y0 := Y
  obtain ⟨a1, a2, a3, a4, a5, a6, a7, a8, a9, a10, a11, a12, a13⟩ := S
  obtain ⟨y1, y2, y3, y4, y5, y6, y7⟩ := Y
  have s1 : sJ5_inflateIfNeededFor_a7421 [.ref b, .ref x] h = some (.inl none, h) := by
    refine zsem_eq (Nat.le_of_ble_eq_true rfl) (zTo_of gJ5_inflateIfNeededFor_a7421_0 ?_)
    simp only [w10, a1, a3, y1, st_coder Y0, zmp_s, zlt_s, zcV_s, zcI_s, zcJ_s, zcA_s, zcD_s, zcF_s, zth_n, zth_t, zrt_s, zQ_l, zQ_r, false_or, or_false, true_or, or_true, false_and, and_false, not_false_eq_true, not_true_eq_false, and_self, true_and, and_true, if_true, if_false, ite_true, ite_false, zgd_t]
  have s2 : sJ0_getBytes_840e7 [.ref x, .ref q, .int (nI xs.length), .int 0] h = some (.inl none, zrI h q (va_cpy (zby h p) (zI h q) 0 xs.length ys.length)) := by
    refine zsem_eq (Nat.le_of_ble_eq_true rfl) (zTo_of gJ0_getBytes_840e7_0 ?_)
    have c1 := nI_clamp (show xs.length < 2 ^ 31 by omega)
    have c2 := nI_clamp (show ys.length < 2 ^ 31 by omega)
    have p1 := nI_lt0 (show xs.length < 2 ^ 31 by omega)
    have p2 := nI_lt0 (show ys.length < 2 ^ 31 by omega)
    have p0 : ((0 : Int32) < 0) = False := eq_false (by decide)
    have c0 : ((0 : Int32)).toNatClampNeg = 0 := by decide
    have fit : (∀ i, i < ys.length → (zby h p i).toInt8.toInt32 = zby h p i) = True := eq_true (fun i hi => by rw [y5 i hi]; exact y6 i hi)
    simp only [y1, st_coder Y0, y2, y4, a5, shl0, c0, c1, c2, p0, p1, p2, Nat.zero_add, Nat.le_refl, hc, fit, zmp_s, zlt_s, zcV_s, zcI_s, zcJ_s, zcA_s, zcD_s, zcF_s, zth_n, zth_t, zrt_s, zQ_l, zQ_r, false_or, or_false, true_or, or_true, false_and, and_false, not_false_eq_true, not_true_eq_false, and_self, true_and, and_true, if_true, if_false, ite_true, ite_false, zgd_t]
  refine zsem_eq (Nat.le_of_ble_eq_true rfl) (zTo_of gJ5_putStringAt_47b60_0 ?_)
  simp only [a1, a2, a3, y1, s1, s2, zmp_s, zlt_s, zcV_s, zcI_s, zcJ_s, zcA_s, zcD_s, zcF_s, zth_n, zth_t, zrt_s, zQ_l, zQ_r, false_or, or_false, true_or, or_true, false_and, and_false, not_false_eq_true, not_true_eq_false, and_self, true_and, and_true, if_true, if_false, ite_true, ite_false, zgd_t]
end
theorem STR_up {h g : zm_H} {x q : Nat} {xs : List Int32} (k : 1000000 ≤ x) (S : STR h x q xs) (hx : x < 1000010) : STR g x q xs := by
  obtain ⟨y1, y2, y3, y4, y5, y6, y7⟩ := S
  have e2 : zsv h x = zsv g x := by unfold zsv; rw [if_pos ⟨k, hx⟩, if_pos ⟨k, hx⟩]
  have e3 : zsd h x = zsd g x := by unfold zsd; rw [if_pos ⟨k, hx⟩, if_pos ⟨k, hx⟩]
  have hq : q = x + 200 := by
    unfold zsv at y2; rw [if_pos ⟨k, hx⟩] at y2; injection y2 with y2; exact y2.symm
  have hr : ∃ bs, zro q = some bs := by
    refine ⟨zkey.getD (q - 1000200) [], ?_⟩
    unfold zro; rw [if_pos (by omega)]
  obtain ⟨bs, hr⟩ := hr
  refine ⟨Or.inl ⟨k, hx⟩, by rw [← e2]; exact y2, by rw [← e3]; exact y3, ?_, fun i hi => ?_, y6, y7⟩
  · rw [← y4]; unfold zbl; rw [hr]
  · rw [← y5 i hi]; unfold zby; rw [hr]
theorem getD_app1 {xs ys : List Int32} {i : Nat} (h : i < xs.length) : (xs ++ ys).getD i 0 = xs.getD i 0 := by
  rw [List.getD_eq_getElem?_getD, List.getD_eq_getElem?_getD, List.getElem?_append_left h]
theorem getD_app2 {xs ys : List Int32} {i : Nat} (h : xs.length ≤ i) : (xs ++ ys).getD i 0 = ys.getD (i - xs.length) 0 := by
  rw [List.getD_eq_getElem?_getD, List.getD_eq_getElem?_getD, List.getElem?_append_right h]
/-- append a given text -/
theorem b_str {h : zm_H} {b k : Nat} {xs : List Int32} (S : SB h b xs) (hk : k < 10) (hl : xs.length + (kb k).length ≤ 480) : ∃ g, sJ4_append_15ec4 [.ref b, .ref (1000000 + k)] h = some (.inl (some (.ref b)), g) ∧ zUp h g ∧ SB g b (xs ++ kb k) := by
  obtain ⟨⟨q, cap, S⟩, hN⟩ := S
  have Y := STR_k (h := h) hk
  have kl := (kb_fit k hk).2.1
  obtain ⟨g1, q1, cap1, e1, u1, S1, hc1, n1⟩ := sb_ens (m := xs.length + (kb k).length) S (by omega) (by omega) (by omega)
  have Y1 := STR_k (h := g1) hk
  have e2 := sb_put S1 Y1 hc1
  obtain ⟨a1, a2, a3, a4, a5, a6, a7, a8, a9, a10, a11, a12, a13⟩ := S
  have S10 := S1
  obtain ⟨b1, b2, b3, b4, b5, b6, b7, b8, b9, b10, b11, b12, b13⟩ := S1
  obtain ⟨y1, y2, y3, y4, y5, y6, y7⟩ := Y1
  obtain ⟨g2, hg2⟩ : ∃ g2, g2 = zrI g1 q1 (va_cpy (zby g1 (1000200 + k)) (zI g1 q1) 0 xs.length (kb k).length) := ⟨_, rfl⟩
  rw [← hg2] at e2
  have k2 : zK g2 = zK g1 := by rw [hg2]; rfl
  have ib : zI g2 b = zI g1 b := by rw [hg2, I_rIn (by omega)]
  have x1 : ((1000000 ≤ 1000000 + k ∧ 1000000 + k < 1000010) ∨ (zK h (1000000 + k)).1 = 13) = True := eq_true (Or.inl (by omega))
  have f1 : sJ5_append_cf1ce [.ref b, .ref (1000000 + k)] h = some (.inl (some (.ref b)), zsI g2 b 3 (nI (xs.length + (kb k).length))) := by
    refine zsem_eq (Nat.le_of_ble_eq_true rfl) (zTo_of gJ5_append_cf1ce_0 ?_)
    simp only [x1, st_length Y, a1, a4, b1, b4, nI_add, e1, e2, k2, ib, zmp_s, zlt_s, zcV_s, zcI_s, zcJ_s, zcA_s, zcD_s, zcF_s, zth_n, zth_t, zrt_s, zQ_l, zQ_r, false_or, or_false, true_or, or_true, false_and, and_false, not_false_eq_true, not_true_eq_false, and_self, true_and, and_true, if_true, if_false, ite_true, ite_false, zgd_t]
  refine ⟨zsI g2 b 3 (nI (xs.length + (kb k).length)), ?_, ?_, ⟨q1, cap1, ?_⟩, ?_⟩
  · refine zsem_eq (Nat.le_of_ble_eq_true rfl) (zTo_of gJ4_append_15ec4_0 ?_)
    simp only [a1, f1, zmp_s, zlt_s, zcV_s, zcI_s, zcJ_s, zcA_s, zcD_s, zcF_s, zth_n, zth_t, zrt_s, zQ_l, zQ_r, false_or, or_false, true_or, or_true, false_and, and_false, not_false_eq_true, not_true_eq_false, and_self, true_and, and_true, if_true, if_false, ite_true, ite_false, zgd_t]
  · refine zUp.fr u1 (A := fun c => c = b ∨ c = q1) ?_ (fun c hc => by omega)
    rw [hg2]
    exact (zFr.rI (Or.inr rfl)).tr (zFr.sI (Or.inl rfl))
  · refine SBc_mk S10 k2 (by rw [hg2]; rfl) (by rw [hg2]; rfl) ?_ ?_ (by rw [List.length_append]; exact hc1) (fun i hi => ?_) (fun i hi => ?_)
    · rw [I_sIs, zput_ne _ _ (by omega), ib]; exact b3
    · rw [I_sIs, zput_self, List.length_append]
    · rw [List.length_append] at hi
      rw [I_sIn (by omega), hg2, I_rIs]
      unfold va_cpy
      by_cases w : xs.length ≤ i
      · rw [if_pos ⟨w, by omega⟩, Nat.zero_add, y5 _ (by omega), getD_app2 w]
      · rw [if_neg (by omega), b8 i (by omega), getD_app1 (by omega)]
    · rw [I_sIn (by omega), hg2, I_rIs]
      unfold va_cpy
      by_cases w : xs.length ≤ i ∧ i < xs.length + (kb k).length
      · rw [if_pos w, Nat.zero_add, y5 _ (by omega)]; exact y6 _ (by omega)
      · rw [if_neg w]; exact b9 i hi
  · show zN g2 ≤ _
    rw [hg2]
    show zN g1 ≤ _
    rw [List.length_append]; omega
/-- append a character -/
theorem b_chr {h : zm_H} {b v : Nat} {xs : List Int32} (S : SB h b xs) (hv : v < 128) (hl : xs.length + 1 ≤ 480) : ∃ g, sJ4_append_cf468 [.ref b, .int (nI v)] h = some (.inl (some (.ref b)), g) ∧ zUp h g ∧ SB g b (xs ++ [nI v]) := by
  obtain ⟨⟨q, cap, S⟩, hN⟩ := S
  obtain ⟨g1, q1, cap1, e1, u1, S1, hc1, n1⟩ := sb_ens (m := xs.length + 1) S (by omega) (by omega) (by omega)
  obtain ⟨a1, a2, a3, a4, a5, a6, a7, a8, a9, a10, a11, a12, a13⟩ := S
  have S10 := S1
  obtain ⟨b1, b2, b3, b4, b5, b6, b7, b8, b9, b10, b11, b12, b13⟩ := S1
  have ce : sJ1_canEncode_fc78d [.int (nI v)] g1 = some (.inl (some (.int 1)), g1) := by
    refine zsem_eq (Nat.le_of_ble_eq_true rfl) (zTo_of gJ1_canEncode_fc78d_0 ?_)
    have e : ((255 : Int32) < nI v) = False := eq_false (nI_nlt (a := 255) (b := v) (by omega) (by omega))
    simp only [e, zmp_s, zlt_s, zcV_s, zcI_s, zcJ_s, zcA_s, zcD_s, zcF_s, zth_n, zth_t, zrt_s, zQ_l, zQ_r, false_or, or_false, true_or, or_true, false_and, and_false, not_false_eq_true, not_true_eq_false, and_self, true_and, and_true, if_true, if_false, ite_true, ite_false, zgd_t]
  have f8 := b8_fit v hv
  have n1' : nI xs.length + (1 : Int32) = nI (xs.length + 1) := nI_add _ 1
  have cx := nI_clamp (show xs.length < 2 ^ 31 by omega)
  have ni : (¬ (nI xs.length < 0 ∨ cap1 ≤ xs.length)) = True := eq_true (by have := nI_ix (k := xs.length) (n := cap1) (by omega) (by omega); rw [cx] at this; exact this)
  obtain ⟨g2, hg2⟩ : ∃ g2, g2 = zsI (zsI g1 b 3 (nI (xs.length + 1))) q1 xs.length (nI v) := ⟨_, rfl⟩
  have f1 : sJ5_append_3fe6f [.ref b, .int (nI v)] h = some (.inl (some (.ref b)), g2) := by
    refine zsem_eq (Nat.le_of_ble_eq_true rfl) (zTo_of gJ5_append_3fe6f_0 ?_)
    simp only [a1, a4, n1', e1, b1, b2, b4, b5, sb_latin S10, w10, ce, K_sI, cx, ni, f8, ← hg2, zmp_s, zlt_s, zcV_s, zcI_s, zcJ_s, zcA_s, zcD_s, zcF_s, zth_n, zth_t, zrt_s, zQ_l, zQ_r, false_or, or_false, true_or, or_true, false_and, and_false, not_false_eq_true, not_true_eq_false, and_self, true_and, and_true, if_true, if_false, ite_true, ite_false, zgd_t]
  refine ⟨g2, ?_, ?_, ⟨q1, cap1, ?_⟩, ?_⟩
  · refine zsem_eq (Nat.le_of_ble_eq_true rfl) (zTo_of gJ4_append_cf468_0 ?_)
    simp only [a1, f1, zmp_s, zlt_s, zcV_s, zcI_s, zcJ_s, zcA_s, zcD_s, zcF_s, zth_n, zth_t, zrt_s, zQ_l, zQ_r, false_or, or_false, true_or, or_true, false_and, and_false, not_false_eq_true, not_true_eq_false, and_self, true_and, and_true, if_true, if_false, ite_true, ite_false, zgd_t]
  · refine zUp.fr u1 (A := fun c => c = b ∨ c = q1) ?_ (fun c hc => by omega)
    rw [hg2]
    exact (zFr.sI (Or.inl rfl)).tr (zFr.sI (Or.inr rfl))
  · refine SBc_mk S10 (by rw [hg2]; rfl) (by rw [hg2]; rfl) (by rw [hg2]; rfl) ?_ ?_ (by rw [List.length_append]; exact hc1) (fun i hi => ?_) (fun i hi => ?_)
    · rw [hg2, I_sIn (by omega), I_sIs, zput_ne _ _ (by omega)]; exact b3
    · rw [hg2, I_sIn (by omega), I_sIs, zput_self, List.length_append]; rfl
    · rw [List.length_append] at hi
      have hi : i < xs.length + 1 := hi
      rw [hg2, I_sIs]
      by_cases w : i = xs.length
      · subst w
        rw [zput_self, getD_app2 (Nat.le_refl _), Nat.sub_self]; rfl
      · rw [zput_ne _ _ w, I_sIn (by omega), b8 i (by omega), getD_app1 (by omega)]
    · rw [hg2, I_sIs]
      by_cases w : i = xs.length
      · subst w
        rw [zput_self]; exact f8
      · rw [zput_ne _ _ w, I_sIn (by omega)]; exact b9 i hi
  · rw [hg2]
    show zN g1 ≤ _
    rw [List.length_append]
    show _ ≤ 200 + (xs.length + 1)
    omega
/-- append a number -/
def dg (n : Nat) : List Int32 := if n < 10 then [nI (48 + n)] else [nI (48 + n / 10), nI (48 + n % 10)]
theorem n100 : ∀ n, n < 100 → (nI n < 0) = False ∧ ((0 : Int32) ≤ nI n) = True ∧ (-(nI n) ≤ (-10 : Int32)) = (10 ≤ n) ∧ (-(nI n) ≤ (10 : Int32) * (-10 : Int32)) = False ∧ ((-100 : Int32) < -(nI n)) = True ∧ ((-9 : Int32) ≤ -(nI n)) = (n < 10) ∧ -(-(nI n)) = nI n := by
  intro n h
  have k : ∀ n, n < 100 → ¬ (nI n < 0) ∧ ((0 : Int32) ≤ nI n) ∧ decide (-(nI n) ≤ (-10 : Int32)) = decide (10 ≤ n) ∧ ¬ (-(nI n) ≤ (10 : Int32) * (-10 : Int32)) ∧ ((-100 : Int32) < -(nI n)) ∧ decide ((-9 : Int32) ≤ -(nI n)) = decide (n < 10) ∧ -(-(nI n)) = nI n := by decide +kernel
  obtain ⟨a, b, c, d, e, f, g⟩ := k n h
  exact ⟨eq_false a, eq_true b, by simpa using c, eq_false d, eq_true e, by simpa using f, g⟩
theorem d100 : ∀ n, n < 100 → (zdig 0).getD n 0 = nI (48 + n % 10) ∧ (zdig 1).getD n 0 = nI (48 + n / 10) := by decide +kernel
theorem zby_dig {h : zm_H} {n : Nat} (hn : n < 100) : zby h (1000299 + 1) n = nI (48 + n % 10) ∧ zby h (1000299 + 2) n = nI (48 + n / 10) ∧ zbl h (1000299 + 1) = some 100 ∧ zbl h (1000299 + 2) = some 100 := ⟨(d100 n hn).1, (d100 n hn).2, rfl, rfl⟩
theorem dg_len (n : Nat) : (dg n).length = if n < 10 then 1 else 2 := by unfold dg; split <;> rfl
theorem b_num {h : zm_H} {b n : Nat} {xs : List Int32} (S : SB h b xs) (hn : n < 100) (hl : xs.length + 2 ≤ 480) : ∃ g, sJ4_append_bf812 [.ref b, .int (nI n)] h = some (.inl (some (.ref b)), g) ∧ zUp h g ∧ SB g b (xs ++ dg n) := by
  obtain ⟨⟨q, cap, S⟩, hN⟩ := S
  obtain ⟨w, hw⟩ : ∃ w, w = (dg n).length := ⟨_, rfl⟩
  have w12 : 1 ≤ w ∧ w ≤ 2 := by rw [hw, dg_len]; split <;> omega
  obtain ⟨g1, q1, cap1, e1, u1, S1, hc1, n1⟩ := sb_ens (m := xs.length + w) S (by omega) (by omega) (by omega)
  obtain ⟨a1, a2, a3, a4, a5, a6, a7, a8, a9, a10, a11, a12, a13⟩ := S
  have S10 := S1
  obtain ⟨b1, b2, b3, b4, b5, b6, b7, b8, b9, b10, b11, b12, b13⟩ := S1
  obtain ⟨m1, m2, m3, m4, m5, m6, m7⟩ := n100 n hn
  have t1 : ((10 : Int32) ≤ 1) = False := eq_false (by decide)
  have t2 : ((10 : Int32) ≤ 1 + 1) = False := eq_false (by decide)
  have sz : sJ6_stringSize_0f7a4 [.int (nI n)] h = some (.inl (some (.int (nI w))), h) := by
    refine zsem_eq (Nat.le_of_ble_eq_true rfl) (zTo_of gJ6_stringSize_0f7a4_0 ?_)
    simp only [m1, zmp_s, zlt_s, zcV_s, zcI_s, zcJ_s, zcA_s, zcD_s, zcF_s, zth_n, zth_t, zrt_s, zQ_l, zQ_r, false_or, or_false, true_or, or_true, false_and, and_false, not_false_eq_true, not_true_eq_false, and_self, true_and, and_true, if_true, if_false, ite_true, ite_false, zgd_t]
    refine zTo_of gJ6_stringSize_0f7a4_13 ?_
    by_cases c : 10 ≤ n
    · have cw : w = 2 := by rw [hw, dg_len, if_neg (by omega)]
      have m3' : (-(nI n) ≤ (-10 : Int32)) = True := by rw [m3]; exact eq_true c
      simp only [t1, m3', zmp_s, zlt_s, zcV_s, zcI_s, zcJ_s, zcA_s, zcD_s, zcF_s, zth_n, zth_t, zrt_s, zQ_l, zQ_r, false_or, or_false, true_or, or_true, false_and, and_false, not_false_eq_true, not_true_eq_false, and_self, true_and, and_true, if_true, if_false, ite_true, ite_false, zgd_t]
      refine zTo_of gJ6_stringSize_0f7a4_13 ?_
      simp only [t2, m4, zmp_s, zlt_s, zcV_s, zcI_s, zcJ_s, zcA_s, zcD_s, zcF_s, zth_n, zth_t, zrt_s, zQ_l, zQ_r, false_or, or_false, true_or, or_true, false_and, and_false, not_false_eq_true, not_true_eq_false, and_self, true_and, and_true, if_true, if_false, ite_true, ite_false, zgd_t]
      rw [cw]; rfl
    · have cw : w = 1 := by rw [hw, dg_len, if_pos (by omega)]
      have m3' : (-(nI n) ≤ (-10 : Int32)) = False := by rw [m3]; exact eq_false c
      simp only [t1, m3', zmp_s, zlt_s, zcV_s, zcI_s, zcJ_s, zcA_s, zcD_s, zcF_s, zth_n, zth_t, zrt_s, zQ_l, zQ_r, false_or, or_false, true_or, or_true, false_and, and_false, not_false_eq_true, not_true_eq_false, and_self, true_and, and_true, if_true, if_false, ite_true, ite_false, zgd_t]
      rw [cw]; rfl
  obtain ⟨d1, d2, d3, d4⟩ := zby_dig (h := g1) hn
  have cn := nI_clamp (show n < 2 ^ 31 by omega)
  have f0 := b8_fit (48 + n % 10) (by omega)
  have f1 := b8_fit (48 + n / 10) (by omega)
  have ixn : (¬ (nI n < 0 ∨ 100 ≤ n)) = True := eq_true (by have := nI_ix hn (show n < 2 ^ 31 by omega); rw [cn] at this; exact this)
  have cx := nI_clamp (show xs.length < 2 ^ 31 by omega)
  have cx1 := nI_clamp (show xs.length + 1 < 2 ^ 31 by omega)
  have z0 : ((0 : Int32) = 0) = True := eq_true rfl
  obtain ⟨g2, gc, fr2, hy, hf⟩ : ∃ g2, sJ6_getChars_ba4f3 [.int (nI n), .int (nI (xs.length + w)), .ref q1] g1 = some (.inl (some (.int (nI xs.length))), g2) ∧ zFr (fun c => c = q1) g1 g2 ∧ (∀ i, i < xs.length + w → zI g2 q1 i = (xs ++ dg n).getD i 0) ∧ (∀ i, i < cap1 → (zI g2 q1 i).toInt8.toInt32 = zI g2 q1 i) := by
    by_cases c : n < 10
    · have cw : w = 1 := by rw [hw, dg_len, if_pos c]
      have cd : dg n = [nI (48 + n)] := if_pos c
      have e5 : 48 + n % 10 = 48 + n := by omega
      have m6' : ((-9 : Int32) ≤ -(nI n)) = True := by rw [m6]; exact eq_true c
      subst cw
      have ix1 : (¬ (nI xs.length < 0 ∨ cap1 ≤ xs.length)) = True := eq_true (by have := nI_ix (k := xs.length) (n := cap1) (by omega) (by omega); rw [cx] at this; exact this)
      refine ⟨zsI g1 q1 xs.length (nI (48 + n % 10)), ?_, zFr.sI rfl, fun i hi => ?_, fun i hi => ?_⟩
      · refine zsem_eq (Nat.le_of_ble_eq_true rfl) (zTo_of gJ6_getChars_ba4f3_0 ?_)
        simp only [m2, z0, zmp_s, zlt_s, zcV_s, zcI_s, zcJ_s, zcA_s, zcD_s, zcF_s, zth_n, zth_t, zrt_s, zQ_l, zQ_r, false_or, or_false, true_or, or_true, false_and, and_false, not_false_eq_true, not_true_eq_false, and_self, true_and, and_true, if_true, if_false, ite_true, ite_false, zgd_t]
        refine zTo_of gJ6_getChars_ba4f3_13 ?_
        simp only [m5, m6', m7, nI_m1', d1, d3, cn, ixn, b5, cx, ix1, f0, z0, zmp_s, zlt_s, zcV_s, zcI_s, zcJ_s, zcA_s, zcD_s, zcF_s, zth_n, zth_t, zrt_s, zQ_l, zQ_r, false_or, or_false, true_or, or_true, false_and, and_false, not_false_eq_true, not_true_eq_false, and_self, true_and, and_true, if_true, if_false, ite_true, ite_false, zgd_t]
      · rw [I_sIs, cd]
        by_cases w2 : i = xs.length
        · subst w2
          rw [zput_self, getD_app2 (Nat.le_refl _), Nat.sub_self, e5]; rfl
        · rw [zput_ne _ _ w2, b8 i (by omega), getD_app1 (by omega)]
      · rw [I_sIs]
        by_cases w2 : i = xs.length
        · subst w2
          rw [zput_self]; exact f0
        · rw [zput_ne _ _ w2]; exact b9 i hi
    · have cw : w = 2 := by rw [hw, dg_len, if_neg c]
      have cd : dg n = [nI (48 + n / 10), nI (48 + n % 10)] := if_neg c
      have m6' : ((-9 : Int32) ≤ -(nI n)) = False := by rw [m6]; exact eq_false c
      subst cw
      have ix1 : (¬ (nI xs.length < 0 ∨ cap1 ≤ xs.length)) = True := eq_true (by have := nI_ix (k := xs.length) (n := cap1) (by omega) (by omega); rw [cx] at this; exact this)
      have ix2 : (¬ (nI (xs.length + 1) < 0 ∨ cap1 ≤ xs.length + 1)) = True := eq_true (by have := nI_ix (k := xs.length + 1) (n := cap1) (by omega) (by omega); rw [cx1] at this; exact this)
      have e6 : nI (xs.length + 2) + (-1 : Int32) = nI (xs.length + 1) := nI_m1' (xs.length + 1)
      refine ⟨zsI (zsI g1 q1 (xs.length + 1) (nI (48 + n % 10))) q1 xs.length (nI (48 + n / 10)), ?_, (zFr.sI (A := fun c => c = q1) rfl).tr (zFr.sI rfl), fun i hi => ?_, fun i hi => ?_⟩
      · refine zsem_eq (Nat.le_of_ble_eq_true rfl) (zTo_of gJ6_getChars_ba4f3_0 ?_)
        simp only [m2, z0, zmp_s, zlt_s, zcV_s, zcI_s, zcJ_s, zcA_s, zcD_s, zcF_s, zth_n, zth_t, zrt_s, zQ_l, zQ_r, false_or, or_false, true_or, or_true, false_and, and_false, not_false_eq_true, not_true_eq_false, and_self, true_and, and_true, if_true, if_false, ite_true, ite_false, zgd_t]
        refine zTo_of gJ6_getChars_ba4f3_13 ?_
        obtain ⟨d1', d2', d3', d4'⟩ := zby_dig (h := zsI g1 q1 (xs.length + 1) (nI (48 + n % 10))) hn
        simp only [m5, m6', m7, e6, nI_m1', d1, d3, d2', d4', cn, ixn, K_sI, b5, cx, cx1, ix1, ix2, f0, f1, z0, zmp_s, zlt_s, zcV_s, zcI_s, zcJ_s, zcA_s, zcD_s, zcF_s, zth_n, zth_t, zrt_s, zQ_l, zQ_r, false_or, or_false, true_or, or_true, false_and, and_false, not_false_eq_true, not_true_eq_false, and_self, true_and, and_true, if_true, if_false, ite_true, ite_false, zgd_t]
      · rw [I_sIs, cd]
        by_cases w2 : i = xs.length
        · subst w2
          rw [zput_self, getD_app2 (Nat.le_refl _), Nat.sub_self]; rfl
        · rw [zput_ne _ _ w2, I_sIs]
          by_cases w3 : i = xs.length + 1
          · subst w3
            rw [zput_self, getD_app2 (by omega), show xs.length + 1 - xs.length = 1 by omega]; rfl
          · rw [zput_ne _ _ w3, b8 i (by omega), getD_app1 (by omega)]
      · rw [I_sIs]
        by_cases w2 : i = xs.length
        · subst w2
          rw [zput_self]; exact f1
        · rw [zput_ne _ _ w2, I_sIs]
          by_cases w3 : i = xs.length + 1
          · subst w3
            rw [zput_self]; exact f0
          · rw [zput_ne _ _ w3]; exact b9 i hi
  have k2 := fr2.K
  have p2 := fr2.P
  have ib : zI g2 b = zI g1 b := fr2.I (by omega)
  have ap : sJ5_append_c97b9 [.ref b, .int (nI n)] h = some (.inl (some (.ref b)), zsI g2 b 3 (nI (xs.length + w))) := by
    refine zsem_eq (Nat.le_of_ble_eq_true rfl) (zTo_of gJ5_append_c97b9_0 ?_)
    simp only [a1, a4, sz, nI_add, e1, b1, b2, sb_latin S10, w10, gc, k2, zmp_s, zlt_s, zcV_s, zcI_s, zcJ_s, zcA_s, zcD_s, zcF_s, zth_n, zth_t, zrt_s, zQ_l, zQ_r, false_or, or_false, true_or, or_true, false_and, and_false, not_false_eq_true, not_true_eq_false, and_self, true_and, and_true, if_true, if_false, ite_true, ite_false, zgd_t]
  refine ⟨zsI g2 b 3 (nI (xs.length + w)), ?_, ?_, ⟨q1, cap1, ?_⟩, ?_⟩
  · refine zsem_eq (Nat.le_of_ble_eq_true rfl) (zTo_of gJ4_append_bf812_0 ?_)
    simp only [a1, ap, zmp_s, zlt_s, zcV_s, zcI_s, zcJ_s, zcA_s, zcD_s, zcF_s, zth_n, zth_t, zrt_s, zQ_l, zQ_r, false_or, or_false, true_or, or_true, false_and, and_false, not_false_eq_true, not_true_eq_false, and_self, true_and, and_true, if_true, if_false, ite_true, ite_false, zgd_t]
  · refine zUp.fr u1 (A := fun c => c = b ∨ c = q1) ?_ (fun c hc => by omega)
    exact (fr2.mono (fun c hc => Or.inr hc)).tr (zFr.sI (Or.inl rfl))
  · refine SBc_mk S10 k2 p2 fr2.1 ?_ ?_ (by rw [List.length_append, ← hw]; exact hc1) (fun i hi => ?_) (fun i hi => ?_)
    · rw [I_sIs, zput_ne _ _ (by omega), ib]; exact b3
    · rw [I_sIs, zput_self, List.length_append, ← hw]
    · rw [List.length_append, ← hw] at hi
      rw [I_sIn (by omega)]; exact hy i hi
    · rw [I_sIn (by omega)]; exact hf i hi
  · show zN g2 ≤ _
    rw [fr2.1, List.length_append, ← hw]; omega
/-- a new builder -/
theorem b_new {h : zm_H} (hN : 125 ≤ zN h) (hN2 : zN h ≤ 198) : ∃ g, sJ4_init_da8c8 [.ref (zN h)] (znew h 12 4) = some (.inl none, g) ∧ zUp h g ∧ SB g (zN h) [] := by
  obtain ⟨h1, hh1⟩ : ∃ h1, h1 = znew h 12 4 := ⟨_, rfl⟩
  have n1 : zN h1 = zN h + 1 := by rw [hh1]; rfl
  have k1 : zK h1 (zN h) = (12, 4) := by rw [hh1]; exact sw_Ks
  have i1 : zI h1 (zN h) = fun _ => 0 := by rw [hh1]; exact sw_Is
  obtain ⟨h2, hh2⟩ : ∃ h2, h2 = znew h1 2 16 := ⟨_, rfl⟩
  have n2 : zN h2 = zN h + 2 := by rw [hh2]; show zN h1 + 1 = _; omega
  have k2 : zK h2 (zN h) = (12, 4) := by rw [hh2, sw_K (by omega)]; exact k1
  have k3 : zK h2 (zN h + 1) = (2, 16) := by rw [hh2, ← n1]; exact sw_Ks
  have i2 : zI h2 (zN h) = fun _ => 0 := by rw [hh2, sw_I (by omega)]; exact i1
  have i3 : zI h2 (zN h + 1) = fun _ => 0 := by rw [hh2, ← n1]; exact sw_Is
  rw [← hh1]
  have s1 : sJ5_init_d00df [.ref (zN h), .int 16] h1 = some (.inl none, zsI (zsP h2 (zN h) 0 (some (zN h1))) (zN h) 1 0) := by
    refine zsem_eq (Nat.le_of_ble_eq_true rfl) (zTo_of gJ5_init_d00df_0 ?_)
    have e1 : ((16 : Int32) < 0) = False := eq_false (by decide)
    have e2 : (16 : Int32).toNatClampNeg = 16 := by decide
    simp only [w10, show zN h1 < 900000 by omega, e1, e2, show 16 ≤ 16 by omega, ← hh2, k2, show zN h1 < zN h2 by omega, K_sP, f08, zmp_s, zlt_s, zcV_s, zcI_s, zcJ_s, zcA_s, zcD_s, zcF_s, zth_n, zth_t, zrt_s, zQ_l, zQ_r, false_or, or_false, true_or, or_true, false_and, and_false, not_false_eq_true, not_true_eq_false, and_self, true_and, and_true, if_true, if_false, ite_true, ite_false, zgd_t]
  refine ⟨zsI (zsP h2 (zN h) 0 (some (zN h1))) (zN h) 1 0, ?_, ?_, ⟨zN h + 1, 16, ⟨k2, ?_, ?_, ?_, k3, by show 0 ≤ 16; omega, by omega, fun i hi => absurd hi (Nat.not_lt_zero _), fun i hi => ?_, by omega, by omega, by show _ < zN h2; omega, by show zN h2 < _; omega⟩⟩, ?_⟩
  · refine zsem_eq (Nat.le_of_ble_eq_true rfl) (zTo_of gJ4_init_da8c8_0 ?_)
    simp only [s1, zmp_s, zlt_s, zcV_s, zcI_s, zcJ_s, zcA_s, zcD_s, zcF_s, zth_n, zth_t, zrt_s, zQ_l, zQ_r, false_or, or_false, true_or, or_true, false_and, and_false, not_false_eq_true, not_true_eq_false, and_self, true_and, and_true, if_true, if_false, ite_true, ite_false, zgd_t]
  · have u1 := (new_up (h := h) (kd := 12) (len := 4) (by omega)).1
    rw [← hh1] at u1
    have u2 := (new_up (h := h1) (kd := 2) (len := 16) (by omega)).1
    rw [← hh2] at u2
    exact zUp.fr ((u1.tr u2).tr (sP_up (by omega))) (zFr.sI (A := fun c => c = zN h) rfl) (fun c hc => by omega)
  · show zrow _ _ (zput _ 0 _) _ 0 = _
    rw [zrow_self, zput_self, n1]
  · rw [I_sIs, zput_self]
  · rw [I_sIs, zput_ne _ _ (by omega), I_sP, i2]; rfl
  · rw [I_sIn (by omega), I_sP, i3]; exact b8_fit 0 (by omega)
  · show zN h2 ≤ 200 + 0
    omega
/-- the text of a builder -/
theorem b_text {h : zm_H} {b : Nat} {xs : List Int32} (S : SB h b xs) (hl : xs.length ≤ 480) (hN9 : zN h < 700000) (hx : ∀ i, i < xs.length → (xs.getD i 0).toInt8.toInt32 = xs.getD i 0) : ∃ g s q, sJ4_toString_0e30d [.ref b] h = some (.inl (some (.ref s)), g) ∧ zUp h g ∧ STR g s q xs ∧ zK g q = (2, xs.length) ∧ 125 ≤ s ∧ 125 ≤ q ∧ s < zN g ∧ q < zN g ∧ zN g = zN h + 2 := by
  obtain ⟨⟨q, cap, S⟩, hN⟩ := S
  have S0 := S
  obtain ⟨a1, a2, a3, a4, a5, a6, a7, a8, a9, a10, a11, a12, a13⟩ := S
  obtain ⟨h1, hh1⟩ : ∃ h1, h1 = znew h 13 4 := ⟨_, rfl⟩
  have n1 : zN h1 = zN h + 1 := by rw [hh1]; rfl
  have S1 : SBc h1 b q cap xs := by
    refine ⟨?_, ?_, ?_, ?_, ?_, a6, a7, fun i hi => ?_, fun i hi => ?_, a10, a11, by omega, by omega⟩
    · rw [hh1, sw_K (by omega)]; exact a1
    · rw [hh1, sw_P (by omega)]; exact a2
    · rw [hh1, sw_I (by omega)]; exact a3
    · rw [hh1, sw_I (by omega)]; exact a4
    · rw [hh1, sw_K (by omega)]; exact a5
    · rw [hh1, sw_I (by omega)]; exact a8 i hi
    · rw [hh1, sw_I (by omega)]; exact a9 i hi
  have k1 : zK h1 (zN h) = (13, 4) := by rw [hh1]; exact sw_Ks
  obtain ⟨b1, b2, b3, b4, b5, b6, b7, b8, b9, b10, b11, b12, b13⟩ := S1
  have gv : sJ5_getValue_6d5f1 [.ref b] h1 = some (.inl (some (.ref q)), h1) := by
    refine zsem_eq (Nat.le_of_ble_eq_true rfl) (zTo_of gJ5_getValue_6d5f1_0 ?_)
    simp only [b1, b2, zmp_s, zlt_s, zcV_s, zcI_s, zcJ_s, zcA_s, zcD_s, zcF_s, zth_n, zth_t, zrt_s, zQ_l, zQ_r, false_or, or_false, true_or, or_true, false_and, and_false, not_false_eq_true, not_true_eq_false, and_self, true_and, and_true, if_true, if_false, ite_true, ite_false, zgd_t]
  have l5 : sJ5_length_8abf5 [.ref b] h1 = some (.inl (some (.int (nI xs.length))), h1) := by
    refine zsem_eq (Nat.le_of_ble_eq_true rfl) (zTo_of gJ5_length_8abf5_0 ?_)
    simp only [b1, b4, zmp_s, zlt_s, zcV_s, zcI_s, zcJ_s, zcA_s, zcD_s, zcF_s, zth_n, zth_t, zrt_s, zQ_l, zQ_r, false_or, or_false, true_or, or_true, false_and, and_false, not_false_eq_true, not_true_eq_false, and_self, true_and, and_true, if_true, if_false, ite_true, ite_false, zgd_t]
  have l4 : sJ4_length_8abf5 [.ref b] h1 = some (.inl (some (.int (nI xs.length))), h1) := by
    refine zsem_eq (Nat.le_of_ble_eq_true rfl) (zTo_of gJ4_length_8abf5_0 ?_)
    simp only [b1, l5, zmp_s, zlt_s, zcV_s, zcI_s, zcJ_s, zcA_s, zcD_s, zcF_s, zth_n, zth_t, zrt_s, zQ_l, zQ_r, false_or, or_false, true_or, or_true, false_and, and_false, not_false_eq_true, not_true_eq_false, and_self, true_and, and_true, if_true, if_false, ite_true, ite_false, zgd_t]
  have lat := sb_latin (h := h1) (b := b) (q := q) (cap := cap) (xs := xs) ⟨b1, b2, b3, b4, b5, b6, b7, b8, b9, b10, b11, b12, b13⟩
  obtain ⟨h2, hh2⟩ : ∃ h2, h2 = zsI h1 (zN h) 1 0 := ⟨_, rfl⟩
  have K2 : zK h2 = zK h1 := by rw [hh2]; rfl
  have N2 : zN h2 = zN h1 := by rw [hh2]; rfl
  have I2 : zI h2 q = zI h1 q := by rw [hh2, I_sIn (by omega)]
  have is1 : zI h2 (zN h) 1 = 0 := by rw [hh2, I_sIs, zput_self]
  obtain ⟨h3, cp, u3, k3, k3', y3, n3, i3⟩ : ∃ h3, sJ7_copyOfRange_39247 [.ref q, .int 0, .int (nI xs.length)] h2 = some (.inl (some (.ref (zN h1))), h3) ∧ zUp h2 h3 ∧ zK h3 (zN h1) = (2, xs.length) ∧ zK h3 (zN h) = (13, 4) ∧ (∀ i, i < xs.length → zI h3 (zN h1) i = xs.getD i 0) ∧ zN h3 = zN h1 + 1 ∧ zI h3 (zN h) = zI h2 (zN h) := by
    have z0 : ((0 : Int32) = 0) = True := eq_true rfl
    by_cases w : xs.length = cap
    · obtain ⟨g, hg⟩ : ∃ g, g = zrI (znew h2 2 cap) (zN h2) (zI h2 q) := ⟨_, rfl⟩
      have kg : zK g (zN h1) = (2, cap) := by rw [hg, ← N2]; exact sw_Ks
      refine ⟨g, ?_, ?_, by rw [w]; exact kg, ?_, fun i hi => ?_, ?_, ?_⟩
      · refine zsem_eq (Nat.le_of_ble_eq_true rfl) (zTo_of gJ7_copyOfRange_39247_0 ?_)
        have fit : (∀ i, i < cap → (zI h2 q i).toInt8.toInt32 = zI h2 q i) = True := eq_true (by rw [I2]; exact b9)
        have bl : Nat.ble (([] : List Value).map fun v => v.category).sum 8 = true := rfl
        rw [w]
        simp only [z0, K2, b5, N2, show zN h1 < 900000 by omega, show cap ≤ 1024 by omega, fit, bl, zmp_s, zlt_s, zcV_s, zcI_s, zcJ_s, zcA_s, zcD_s, zcF_s, zth_n, zth_t, zrt_s, zQ_l, zQ_r, false_or, or_false, true_or, or_true, false_and, and_false, not_false_eq_true, not_true_eq_false, and_self, true_and, and_true, if_true, if_false, ite_true, ite_false, zgd_t]
        rw [← N2, ← hg]
        have kg2 : (zK g (zN h2)).1 = 2 := by rw [N2, kg]
        simp only [kg2, zmp_s, zlt_s, zcV_s, zcI_s, zcJ_s, zcA_s, zcD_s, zcF_s, zth_n, zth_t, zrt_s, zQ_l, zQ_r, false_or, or_false, true_or, or_true, false_and, and_false, not_false_eq_true, not_true_eq_false, and_self, true_and, and_true, if_true, if_false, ite_true, ite_false, zgd_t]
      · rw [hg]
        exact zUp.fr (new_up (h := h2) (kd := 2) (len := cap) (by omega)).1 (zFr.rI (A := fun c => c = zN h2) rfl) (fun c hc => by omega)
      · rw [hg, K_rI, sw_K (by omega), K2]; exact k1
      · rw [hg, ← N2, I_rIs, I2]; exact b8 i hi
      · rw [hg]; show zN h2 + 1 = _; omega
      · rw [hg, I_rIn (by omega), sw_I (by omega)]
    · obtain ⟨e2, he2⟩ : ∃ e2, e2 = znew h2 2 xs.length := ⟨_, rfl⟩
      have kq : zK e2 q = (2, cap) := by rw [he2, sw_K (by omega), K2]; exact b5
      have kn : zK e2 (zN h1) = (2, xs.length) := by rw [he2, ← N2]; exact sw_Ks
      have iq : zI e2 q = zI h2 q := by rw [he2, sw_I (by omega)]
      obtain ⟨g, hg⟩ : ∃ g, g = zrI e2 (zN h1) (va_cpy (zI e2 q) (zI e2 (zN h1)) 0 0 xs.length) := ⟨_, rfl⟩
      have cl : sJ7_checkLength_df160 [.int 0, .int (nI xs.length)] h2 = some (.inl none, h2) := by
        refine zsem_eq (Nat.le_of_ble_eq_true rfl) (zTo_of gJ7_checkLength_df160_0 ?_)
        simp only [show ((0 : Int32) ≤ nI xs.length) = True from eq_true (nI_pos' (by omega)), zmp_s, zlt_s, zcV_s, zcI_s, zcJ_s, zcA_s, zcD_s, zcF_s, zth_n, zth_t, zrt_s, zQ_l, zQ_r, false_or, or_false, true_or, or_true, false_and, and_false, not_false_eq_true, not_true_eq_false, and_self, true_and, and_true, if_true, if_false, ite_true, ite_false, zgd_t]
      have cb : sJ7_copyOfRangeByte_39247 [.ref q, .int 0, .int (nI xs.length)] h2 = some (.inl (some (.ref (zN h1))), g) := by
        refine zsem_eq (Nat.le_of_ble_eq_true rfl) (zTo_of gJ7_copyOfRangeByte_39247_0 ?_)
        have s0 : ∀ n : Nat, nI n - (0 : Int32) = nI n := fun n => Int32.sub_zero _
        have lt : (nI xs.length < nI cap) = True := eq_true (nI_lt (by omega) (by omega))
        have c1 := nI_clamp (show xs.length < 2 ^ 31 by omega)
        have p1 := nI_lt0 (show xs.length < 2 ^ 31 by omega)
        have p0 : ((0 : Int32) < 0) = False := eq_false (by decide)
        have c0 : ((0 : Int32)).toNatClampNeg = 0 := by decide
        have fit : (∀ i, i < xs.length → (zI e2 q i).toInt8.toInt32 = zI e2 q i) = True := eq_true (fun i hi => by rw [iq, I2]; exact b9 i (by omega))
        have zl : zbl e2 q = some cap := zbl_lo (by omega) kq
        have zy : zby e2 q = zI e2 q := zby_lo (by omega)
        simp only [cl, s0, c1, p1, N2, show zN h1 < 900000 by omega, show xs.length ≤ 1024 by omega, ← he2, kq, kn, lt, zl, zy, c0, p0, Nat.zero_add, Nat.le_refl, show xs.length ≤ cap by omega, fit, ← hg, zmp_s, zlt_s, zcV_s, zcI_s, zcJ_s, zcA_s, zcD_s, zcF_s, zth_n, zth_t, zrt_s, zQ_l, zQ_r, false_or, or_false, true_or, or_true, false_and, and_false, not_false_eq_true, not_true_eq_false, and_self, true_and, and_true, if_true, if_false, ite_true, ite_false, zgd_t]
      refine ⟨g, ?_, ?_, ?_, ?_, fun i hi => ?_, ?_, ?_⟩
      · refine zsem_eq (Nat.le_of_ble_eq_true rfl) (zTo_of gJ7_copyOfRange_39247_0 ?_)
        have ne : (nI xs.length = nI cap) = False := eq_false (fun q => w ((nI_eq (by omega) (by omega)).mp q))
        simp only [z0, K2, b5, ne, cb, zmp_s, zlt_s, zcV_s, zcI_s, zcJ_s, zcA_s, zcD_s, zcF_s, zth_n, zth_t, zrt_s, zQ_l, zQ_r, false_or, or_false, true_or, or_true, false_and, and_false, not_false_eq_true, not_true_eq_false, and_self, true_and, and_true, if_true, if_false, ite_true, ite_false, zgd_t]
      · rw [hg, he2]
        exact zUp.fr (new_up (h := h2) (kd := 2) (len := xs.length) (by omega)).1 (zFr.rI (A := fun c => c = zN h1) rfl) (fun c hc => by omega)
      · rw [hg, K_rI]; exact kn
      · rw [hg, K_rI, he2, sw_K (by omega), K2]; exact k1
      · rw [hg, I_rIs]
        unfold va_cpy
        rw [if_pos ⟨by omega, by omega⟩, iq, I2, ← b8 i hi]
        congr 1; omega
      · rw [hg, he2]; show zN h2 + 1 = _; omega
      · rw [hg, I_rIn (by omega), he2, sw_I (by omega)]
  have s5 : sJ0_init_db425 [.ref (zN h), .ref b, .null] h1 = some (.inl none, zsP h3 (zN h) 0 (some (zN h1))) := by
    refine zsem_eq (Nat.le_of_ble_eq_true rfl) (zTo_of gJ0_init_db425_0 ?_)
    simp only [b1, gv, l4, lat, w10, k1, f08, ← hh2, cp, k3', show zN h1 < zN h3 by omega, zmp_s, zlt_s, zcV_s, zcI_s, zcJ_s, zcA_s, zcD_s, zcF_s, zth_n, zth_t, zrt_s, zQ_l, zQ_r, false_or, or_false, true_or, or_true, false_and, and_false, not_false_eq_true, not_true_eq_false, and_self, true_and, and_true, if_true, if_false, ite_true, ite_false, zgd_t]
  have s6 : sJ0_init_81219 [.ref (zN h), .ref b] h1 = some (.inl none, zsP h3 (zN h) 0 (some (zN h1))) := by
    refine zsem_eq (Nat.le_of_ble_eq_true rfl) (zTo_of gJ0_init_81219_0 ?_)
    simp only [s5, zmp_s, zlt_s, zcV_s, zcI_s, zcJ_s, zcA_s, zcD_s, zcF_s, zth_n, zth_t, zrt_s, zQ_l, zQ_r, false_or, or_false, true_or, or_true, false_and, and_false, not_false_eq_true, not_true_eq_false, and_self, true_and, and_true, if_true, if_false, ite_true, ite_false, zgd_t]
  have y9 : xs.length < 1000 := by omega
  have z1 : 125 ≤ zN h := by omega
  have z2 : 125 ≤ zN h1 := by omega
  have z3 : zN h < zN h3 := by omega
  have z4 : zN h1 < zN h3 := by omega
  have z5 : zN h3 = zN h + 2 := by omega
  refine ⟨zsP h3 (zN h) 0 (some (zN h1)), zN h, zN h1, ?_, ?_, ⟨?_, ?_, ?_, ?_, fun i hi => ?_, hx, y9⟩, k3, z1, z2, z3, z4, z5⟩
  · refine zsem_eq (Nat.le_of_ble_eq_true rfl) (zTo_of gJ4_toString_0e30d_0 ?_)
    simp only [show zN h < 900000 by omega, ← hh1, s6, zmp_s, zlt_s, zcV_s, zcI_s, zcJ_s, zcA_s, zcD_s, zcF_s, zth_n, zth_t, zrt_s, zQ_l, zQ_r, false_or, or_false, true_or, or_true, false_and, and_false, not_false_eq_true, not_true_eq_false, and_self, true_and, and_true, if_true, if_false, ite_true, ite_false, zgd_t]
  · have u1 := (new_up (h := h) (kd := 13) (len := 4) (by omega)).1
    rw [← hh1] at u1
    have u2 : zUp h h2 := by rw [hh2]; exact zUp.fr u1 (zFr.sI (A := fun c => c = zN h) rfl) (fun c hc => by omega)
    exact (u2.tr u3).tr (sP_up (by omega))
  · exact Or.inr (by show (zK h3 (zN h)).1 = 13; rw [k3'])
  · unfold zsv
    rw [if_neg (by omega), if_pos (by show zK h3 (zN h) = (13, 4); exact k3')]
    show zrow _ _ (zput _ 0 _) _ 0 = _
    rw [zrow_self, zput_self]
  · unfold zsd
    rw [if_neg (by omega), if_pos (by show zK h3 (zN h) = (13, 4); exact k3')]
    show some (zI h3 (zN h) 1) = _
    rw [i3, is1]
  · exact zbl_lo (by omega) (by show zK h3 (zN h1) = _; exact k3)
  · rw [zby_lo (by omega)]
    show zI h3 (zN h1) i = _
    exact y3 i hi
end ZSB
