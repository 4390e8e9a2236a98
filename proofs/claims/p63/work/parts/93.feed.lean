/-! DRAWN NUMBERS, AND A TEXT FED TO THE OBJECT. -/
section ZFD
def dwN (sc : Nat × (Nat → Int32)) (k n : Nat) : Nat := ((if k < sc.1 then sc.2 k else 0) &&& (2147483647 : Int32)).toNatClampNeg % n
theorem an31 (x : Int32) : ∃ m : Nat, m < 2 ^ 31 ∧ x &&& (2147483647 : Int32) = nI m := by
  refine nI_of (x := x &&& (2147483647 : Int32)) (fun h => ?_)
  rw [Int32.lt_iff_toInt_lt] at h
  have e : (x &&& (2147483647 : Int32)).toInt = ((x.toBitVec &&& (2147483647#32)).toNat : Int) := by
    show (x.toBitVec &&& (2147483647#32)).toInt = _
    rw [BitVec.toInt_eq_toNat_of_lt]
    rw [BitVec.toNat_and]
    have : x.toBitVec.toNat &&& (2147483647#32).toNat ≤ 2147483647 := Nat.and_le_right
    omega
  rw [e] at h
  have : (0 : Int32).toInt = 0 := by decide
  omega
theorem w_draw {sc : Nat × (Nat → Int32)} {k n : Nat} (h : zm_H) (hs : sc.1 < 2 ^ 31) (hk : k < 2 ^ 31) (hn : 0 < n) (hn2 : n < 2 ^ 31) : sL_draw sc [.ref 2000000, .int (nI k), .int (nI n)] h = some (.inl (some (.int (nI (dwN sc k n)))), h) := by
  refine zsem2_of (Nat.le_of_ble_eq_true rfl) (zRn.done ?_)
  refine gL_draw_0.trans ?_
  have n0 : (¬ nI n = 0) = True := eq_true (nI_ne0 hn hn2)
  have t0 : ((2000000 : Nat) = 2000000) = True := eq_true rfl
  have key : ∀ x : Int32, (x &&& (2147483647 : Int32)) - (x &&& (2147483647 : Int32)) / nI n * nI n = nI ((x &&& (2147483647 : Int32)).toNatClampNeg % n) := by
    intro x
    obtain ⟨m, hm, e⟩ := an31 x
    rw [e, pk_rem hm hn hn2, nI_clamp hm]
  unfold dwN
  by_cases w : k < sc.1
  · have e1 : (nI sc.1 ≤ nI k) = False := eq_false (nI_ge w hs)
    have cx := nI_clamp hk
    have e2 : (¬ (nI k < 0 ∨ sc.1 ≤ k)) = True := eq_true (by have := nI_ix w hk; rw [cx] at this; exact this)
    simp only [t0, e1, cx, e2, n0, key, w, false_or, or_false, true_or, or_true, false_and, and_false, not_false_eq_true, not_true_eq_false, and_self, true_and, and_true, if_true, if_false, ite_true, ite_false, zgd_t]
  · have e1 : (nI sc.1 ≤ nI k) = True := eq_true (nI_le (by omega) hk)
    simp only [t0, e1, n0, key, w, false_or, or_false, true_or, or_true, false_and, and_false, not_false_eq_true, not_true_eq_false, and_self, true_and, and_true, if_true, if_false, ite_true, ite_false, zgd_t]
theorem dwN_lt {sc : Nat × (Nat → Int32)} {k n : Nat} (hn : 0 < n) : dwN sc k n < n := Nat.mod_lt _ hn
theorem c16b : ∀ r, r < 6 → ((((97 : Int32) + nI r).toUInt32 % 65536).toInt32).toUInt32 % 65536 = ((97 : Int32) + nI r).toUInt32 % 65536 ∧ ((((((97 : Int32) + nI r)).toUInt32 % 65536).toInt32).toUInt32 % 65536).toInt32 = ((((97 : Int32) + nI r)).toUInt32 % 65536).toInt32 ∧ (((97 : Int32) + nI r).toUInt32 % 65536).toInt32 = nI (97 + r) := by decide +kernel
theorem w_name {r : Nat} (hr : r < 6) (h : zm_H) : sL_name [.int (nI r)] h = some (.inl (some (.int (nI (97 + r)))), h) := by
  obtain ⟨-, b, c⟩ := c16b r hr
  refine zsem_eq (Nat.le_of_ble_eq_true rfl) (zTo_of gL_name_0 ?_)
  simp only [b, c, zmp_s, zlt_s, zcV_s, zcI_s, zcJ_s, zcA_s, zcD_s, zcF_s, zth_n, zth_t, zrt_s, zQ_l, zQ_r, false_or, or_false, true_or, or_true, false_and, and_false, not_false_eq_true, not_true_eq_false, and_self, true_and, and_true, if_true, if_false, ite_true, ite_false, zgd_t]
  rw [← c, b]
  simp only [zmp_s, zlt_s, zcV_s, zcI_s, zcJ_s, zcA_s, zcD_s, zcF_s, zth_n, zth_t, zrt_s, zQ_l, zQ_r, false_or, or_false, true_or, or_true, false_and, and_false, not_false_eq_true, not_true_eq_false, and_self, true_and, and_true, if_true, if_false, ite_true, ite_false, zgd_t]
/-- four bytes as one number -/
def v4 (xs : List Int32) (a : Nat) : Nat → Nat
  | 0 => 0
  | k + 1 => v4 xs a k * 256 + bv xs (a + k)
theorem nx_sl8 (a : Nat) : nI a <<< ((8 : Int32) &&& 31) = nI (a * 256) := by
  have e : ((8 : Int32) &&& 31) = (8 : Int32) := by decide +kernel
  rw [e]
  apply Int32.toBitVec_inj.mp
  rw [Int32.toBitVec_shiftLeft]
  have e2 : ((8 : Int32).toBitVec.smod 32) = 8#32 := by decide +kernel
  rw [e2]
  apply BitVec.eq_of_toNat_eq
  show ((Int32.ofNat a).toBitVec <<< 8#32).toNat = (Int32.ofNat (a * 256)).toBitVec.toNat
  rw [BitVec.shiftLeft_eq', BitVec.toNat_shiftLeft, Nat.shiftLeft_eq]
  show (BitVec.ofNat 32 a).toNat * 2 ^ 8 % 2 ^ 32 = (BitVec.ofNat 32 (a * 256)).toNat
  rw [BitVec.toNat_ofNat, BitVec.toNat_ofNat]
  omega
def A7 (xs : List Int32) : Prop := ∀ i, i < xs.length → ∃ v, v < 128 ∧ xs.getD i 0 = nI v
theorem A7_at {xs : List Int32} (A : A7 xs) (i : Nat) : xs.getD i 0 = nI (bv xs i) ∧ bv xs i < 128 := by
  unfold bv
  by_cases h : i < xs.length
  · obtain ⟨v, hv, e⟩ := A i h
    rw [e, nI_clamp (by omega)]
    exact ⟨rfl, hv⟩
  · have e : xs.getD i 0 = 0 := by rw [List.getD_eq_getElem?_getD, List.getElem?_eq_none (by omega)]; rfl
    rw [e]
    exact ⟨by decide, by decide⟩
theorem v4_lt {xs : List Int32} (A : A7 xs) (a : Nat) : ∀ k, v4 xs a k < 256 ^ k := by
  intro k
  induction k with
  | zero => exact Nat.one_pos
  | succ k ih =>
    have := (A7_at A (a + k)).2
    rw [v4, Nat.pow_succ]; omega
section
variable {h : zm_H} {s q : Nat} {xs : List Int32}
theorem w_four {a : Nat} (S : STR h s q xs) (hq : zK h q = (2, xs.length)) (hq2 : q < 1000200) (A : A7 xs) (ha : a < 1000) : sL_four [.ref s, .int (nI a)] h = some (.inl (some (.int (nI (v4 xs a 4)))), h) := by
  have S0 := S
  have L := S.2.2.2.2.2.2
  have g1 := S.1
  have ln := st_length S
  refine zsem_eq (Nat.le_of_ble_eq_true rfl) (zTo_of gL_four_0 ?_)
  simp only [zmp_s, zlt_s, zcV_s, zcI_s, zcJ_s, zcA_s, zcD_s, zcF_s, zth_n, zth_t, zrt_s, zQ_l, zQ_r]
  have z4 : ((4 : Int32) ≤ (4 : Int32)) = True := eq_true (by decide)
  refine zTo_for (f := fun k => (4, [some (.ref s), some (.int (nI a)), some (.int (nI (v4 xs a k))), some (.int (nI k))], [], h)) 4 0 (Nat.zero_le _) (fun k _ hk => ?_) (zTo_of gL_four_4 ?_)
  · refine gL_four_4.trans ?_
    have k4 : ((4 : Int32) ≤ nI k) = False := eq_false (nI_ge (a := k) (b := 4) hk (by omega))
    have k1 : nI k + (1 : Int32) = nI (k + 1) := nI_add k 1
    by_cases w : a + k < xs.length
    · have e1 : (nI xs.length ≤ nI (a + k)) = False := eq_false (nI_ge w (by omega))
      obtain ⟨x1, x2⟩ := A7_at A (a + k)
      have ca := st_charAt (v := bv xs (a + k)) S0 hq hq2 w x1 (by omega)
      have o : nI (v4 xs a k * 256) ||| nI (bv xs (a + k)) = nI (v4 xs a (k + 1)) := by
        rw [nx_or, or_byte (by omega)]; rfl
      simp only [k4, g1, ln, nI_add, e1, ca, nx_sl8, o, k1, zmp_s, zlt_s, zcV_s, zcI_s, zcJ_s, zcA_s, zcD_s, zcF_s, zth_n, zth_t, zrt_s, zQ_l, zQ_r, false_or, or_false, true_or, or_true, false_and, and_false, not_false_eq_true, not_true_eq_false, and_self, true_and, and_true, if_true, if_false, ite_true, ite_false, zgd_t]
    · have e1 : (nI xs.length ≤ nI (a + k)) = True := eq_true (nI_le (by omega) (by omega))
      have z : bv xs (a + k) = 0 := by
        unfold bv
        rw [List.getD_eq_getElem?_getD, List.getElem?_eq_none (by omega)]; decide
      have o : nI (v4 xs a k * 256) = nI (v4 xs a (k + 1)) := by rw [v4, z, Nat.add_zero]
      simp only [k4, g1, ln, nI_add, e1, nx_sl8, Int32.or_zero, o, k1, zmp_s, zlt_s, zcV_s, zcI_s, zcJ_s, zcA_s, zcD_s, zcF_s, zth_n, zth_t, zrt_s, zQ_l, zQ_r, false_or, or_false, true_or, or_true, false_and, and_false, not_false_eq_true, not_true_eq_false, and_self, true_and, and_true, if_true, if_false, ite_true, ite_false, zgd_t]
  · have z4' : ((4 : Int32) ≤ nI 4) = True := z4
    simp only [z4', zmp_s, zlt_s, zcV_s, zcI_s, zcJ_s, zcA_s, zcD_s, zcF_s, zth_n, zth_t, zrt_s, zQ_l, zQ_r, false_or, or_false, true_or, or_true, false_and, and_false, not_false_eq_true, not_true_eq_false, and_self, true_and, and_true, if_true, if_false, ite_true, ite_false, zgd_t]
theorem b4_four {a : Nat} (A : A7 xs) : b4 (nI (v4 xs a 4)) = [xs.getD a 0, xs.getD (a + 1) 0, xs.getD (a + 2) 0, xs.getD (a + 3) 0] := by
  obtain ⟨e0, l0⟩ := A7_at A (a + 0)
  obtain ⟨e1, l1⟩ := A7_at A (a + 1)
  obtain ⟨e2, l2⟩ := A7_at A (a + 2)
  obtain ⟨e3, l3⟩ := A7_at A (a + 3)
  rw [show a + 0 = a from rfl] at e0 l0
  rw [e0, e1, e2, e3]
  have V : v4 xs a 4 = ((bv xs a * 256 + bv xs (a + 1)) * 256 + bv xs (a + 2)) * 256 + bv xs (a + 3) := by
    show (((0 * 256 + bv xs (a + 0)) * 256 + bv xs (a + 1)) * 256 + bv xs (a + 2)) * 256 + bv xs (a + 3) = _
    rw [Nat.zero_mul, Nat.zero_add, show a + 0 = a from rfl]
  have f : ∀ k x, k < 32 → v4 xs a 4 / 2 ^ k % 256 = x → (nI (v4 xs a 4) >>> (nI k &&& 31)) &&& 255 = nI x := by
    intro k x hk hx
    rw [nx_shr (by rw [V]; omega) hk, show (255 : Int32) = nI 255 from rfl, nx_and, Nat.shiftRight_eq_div_pow, show (255 : Nat) = 2 ^ 8 - 1 from rfl, Nat.and_two_pow_sub_one_eq_mod]
    rw [show (2 : Nat) ^ 8 = 256 from rfl, hx]
  unfold b4
  rw [f 24 (bv xs a) (by omega) (by rw [V]; omega), f 16 (bv xs (a + 1)) (by omega) (by rw [V]; omega), f 8 (bv xs (a + 2)) (by omega) (by rw [V]; omega), f 0 (bv xs (a + 3)) (by omega) (by rw [V]; omega)]
def PD (xs : List Int32) (k : Nat) : List Int32 := (List.range k).map (fun i => xs.getD i 0)
theorem PD_s (k : Nat) : PD xs (k + 1) = PD xs k ++ [xs.getD k 0] := by
  unfold PD
  rw [List.range_succ, List.map_append]; rfl
theorem PD_4 (k : Nat) : PD xs (k + 4) = PD xs k ++ [xs.getD k 0, xs.getD (k + 1) 0, xs.getD (k + 2) 0, xs.getD (k + 3) 0] := by
  rw [show k + 4 = k + 1 + 1 + 1 + 1 from rfl, PD_s, PD_s, PD_s, PD_s, List.append_assoc, List.append_assoc, List.append_assoc]; rfl
theorem PD_len (k : Nat) : (PD xs k).length = k := by unfold PD; simp
theorem PD_take {k : Nat} (hk : xs.length ≤ k) : (PD xs k).take xs.length = xs := by
  refine List.ext_getElem? (fun i => ?_)
  by_cases w : i < xs.length
  · rw [List.getElem?_take_of_lt w]
    unfold PD
    rw [List.getElem?_map, List.getElem?_range (by omega), List.getElem?_eq_getElem w]
    show some (xs.getD i 0) = _
    rw [List.getD_eq_getElem?_getD, List.getElem?_eq_getElem w]; rfl
  · rw [List.getElem?_eq_none (by rw [List.length_take]; omega), List.getElem?_eq_none (by omega)]
theorem PD_20 {k : Nat} (A : A7 xs) : PD xs k ++ (b4 (nI (v4 xs k 4)) ++ b4 (nI (v4 xs (k + 4) 4)) ++ b4 (nI (v4 xs (k + 8) 4)) ++ b4 (nI (v4 xs (k + 12) 4)) ++ b4 (nI (v4 xs (k + 16) 4))) = PD xs (k + 20) := by
  rw [b4_four A, b4_four A, b4_four A, b4_four A, b4_four A]
  rw [show k + 20 = k + 4 + 4 + 4 + 4 + 4 from rfl, PD_4, PD_4, PD_4, PD_4, PD_4]
  simp only [List.append_assoc]
theorem STR_fr {A : Nat → Prop} {g : zm_H} (fr : zFr A h g) (hs : ¬ A s) (hq : ¬ A q) (hs1 : s < 1000000) (hq1 : q < 1000200) (S : STR h s q xs) : STR g s q xs := by
  obtain ⟨y1, y2, y3, y4, y5, y6, y7⟩ := S
  have K := fr.K
  have P := fr.P
  refine ⟨by rw [K]; exact y1, ?_, ?_, ?_, fun i hi => ?_, y6, y7⟩
  · rw [← y2]; unfold zsv; rw [K, P]
  · rw [← y3]; unfold zsd; rw [K, fr.I hs]
  · rw [← y4]; unfold zbl; rw [K]
  · rw [← y5 i hi, zby_lo hq1, zby_lo hq1, fr.I hq]
theorem w_feed {N : zLv} (c : CI h N) (S : STR h s q xs) (hq : zK h q = (2, xs.length)) (hs1 : 125 ≤ s ∧ s < 900000) (hq1 : 125 ≤ q ∧ q < 900000) (A : A7 xs) (h0 : 0 < xs.length) (hl : xs.length ≤ 480) (B : BL h 1 2 500 []) :
    ∃ g, sL_feed [.ref 0, .ref s] h = some (.inl none, g) ∧ zFr (fun c => c = 1 ∨ c = 2) h g ∧ CI g N ∧ BL g 1 2 500 xs := by
  -- after k twenties
  have step : ∀ m k, k ≤ 24 → m + 20 * k = xs.length + 20 ∨ (m = 0 ∧ xs.length ≤ 20 * k) → ∀ g, zFr (fun c => c = 1 ∨ c = 2) h g → CI g N → BL g 1 2 500 (PD xs (20 * k)) → (k = 0 ∨ True) → True := fun _ _ _ _ _ _ _ _ _ => trivial
  have go : ∀ m k, xs.length ≤ 20 * k + m → 20 * k < xs.length + 20 → (k = 0 → True) → ∀ g, zFr (fun c => c = 1 ∨ c = 2) h g → CI g N → BL g 1 2 500 (PD xs (20 * k)) →
      zTo vL_feed rL_feed (4, [some (.ref 0), some (.ref s), some (.int (nI (20 * k))), some (.int (nI (20 * k)))], [], g) (fun y => ∃ g2, y = (.inl none, g2) ∧ zFr (fun c => c = 1 ∨ c = 2) h g2 ∧ CI g2 N ∧ BL g2 1 2 500 xs) := by
    intro m
    induction m using Nat.strongRecOn with
    | _ m ih =>
      intro k hm hk _ g fr cg Bg
      have Sg := STR_fr fr (by omega) (by omega) (by omega) (by omega) S
      have hqg : zK g q = (2, xs.length) := by rw [fr.K]; exact hq
      have g1 := Sg.1
      have ln := st_length Sg
      have q0 := cg.1.1
      refine zTo_of gL_feed_4 ?_
      by_cases w : 20 * k < xs.length
      · have e1 : (nI (20 * k) < nI xs.length) = True := eq_true (nI_lt w (by omega))
        obtain ⟨g2, s2, fr2, B2⟩ := m_append (v1 := nI (v4 xs (20 * k) 4)) (v2 := nI (v4 xs (20 * k + 4) 4)) (v3 := nI (v4 xs (20 * k + 8) 4)) (v4 := nI (v4 xs (20 * k + 12) 4)) (v5 := nI (v4 xs (20 * k + 16) 4)) cg Bg (by rw [PD_len]; omega)
        rw [PD_20 A] at B2
        rw [PD_len] at s2
        have f0 := w_four (a := 20 * k) Sg hqg (by omega) A (by omega)
        have f4 := w_four (a := 20 * k + 4) Sg hqg (by omega) A (by omega)
        have f8 := w_four (a := 20 * k + 8) Sg hqg (by omega) A (by omega)
        have f12 := w_four (a := 20 * k + 12) Sg hqg (by omega) A (by omega)
        have f16 := w_four (a := 20 * k + 16) Sg hqg (by omega) A (by omega)
        have a4 : nI (20 * k) + (4 : Int32) = nI (20 * k + 4) := nI_add _ 4
        have a8 : nI (20 * k) + (8 : Int32) = nI (20 * k + 8) := nI_add _ 8
        have a12 : nI (20 * k) + (12 : Int32) = nI (20 * k + 12) := nI_add _ 12
        have a16 : nI (20 * k) + (16 : Int32) = nI (20 * k + 16) := nI_add _ 16
        have a20 : nI (20 * k) + (20 : Int32) = nI (20 * k + 20) := nI_add _ 20
        simp only [g1, ln, e1, f0, a4, f4, a8, f8, a12, f12, a16, f16, q0, s2, a20, zmp_s, zlt_s, zcV_s, zcI_s, zcJ_s, zcA_s, zcD_s, zcF_s, zth_n, zth_t, zrt_s, zQ_l, zQ_r, false_or, or_false, true_or, or_true, false_and, and_false, not_false_eq_true, not_true_eq_false, and_self, true_and, and_true, if_true, if_false, ite_true, ite_false, zgd_t]
        have fr3 : zFr (fun c => c = 1 ∨ c = 2) h g2 := fr.tr fr2
        have c3 : CI g2 N := CI_fr fr2 (fun c h1 h2 => by omega) (fun c h1 h2 => by omega) (by rw [fr2.I (by omega)]) (lvO_fr fr2 (by rw [L16e]; omega) cg.2.2.2.2.2) cg
        have := ih (m - 20) (by omega) (k + 1) (by omega) (by omega) (fun _ => trivial) g2 fr3 c3 B2
        rw [show 20 * (k + 1) = 20 * k + 20 by omega] at this
        exact this
      · have e1 : (nI (20 * k) < nI xs.length) = False := eq_false (nI_nlt (by omega) (by omega))
        have e2 : (nI (20 * k) = (0 : Int32)) = False := eq_false (nI_ne0 (by omega) (by omega))
        have Bt := m_truncate (k := xs.length) cg Bg (by rw [PD_len]; omega)
        rw [PD_take (by omega)] at Bt
        obtain ⟨g2, s2, fr2, B2⟩ := Bt
        have mn : (if nI xs.length < nI (20 * k) then nI xs.length else nI (20 * k)) = nI xs.length := by
          by_cases v : xs.length < 20 * k
          · rw [if_pos (nI_lt v (by omega))]
          · have : xs.length = 20 * k := by omega
            rw [← this, ite_self]
        simp only [g1, ln, e1, e2, q0, mn, s2, zmp_s, zlt_s, zcV_s, zcI_s, zcJ_s, zcA_s, zcD_s, zcF_s, zth_n, zth_t, zrt_s, zQ_l, zQ_r, false_or, or_false, true_or, or_true, false_and, and_false, not_false_eq_true, not_true_eq_false, and_self, true_and, and_true, if_true, if_false, ite_true, ite_false, zgd_t]
        have c3 : CI g2 N := CI_fr fr2 (fun c h1 h2 => by omega) (fun c h1 h2 => by omega) (by rw [fr2.I (by omega)]) (lvO_fr fr2 (by rw [L16e]; omega) cg.2.2.2.2.2) cg
        exact ⟨g2, rfl, fr.tr (fr2.mono (fun c hc => Or.inl hc)), c3, B2⟩
  have t : zTo vL_feed rL_feed (0, zlok 4 [.ref 0, .ref s], [], h) (fun y => ∃ g2, y = (.inl none, g2) ∧ zFr (fun c => c = 1 ∨ c = 2) h g2 ∧ CI g2 N ∧ BL g2 1 2 500 xs) := by
    refine zTo_of gL_feed_0 ?_
    exact go xs.length 0 (by omega) (by omega) (fun _ => trivial) h zFr.rf c B
  obtain ⟨y, e, g2, rfl, r⟩ := zsem_to (Nat.le_of_ble_eq_true rfl) t
  exact ⟨g2, e, r⟩
end
end ZFD
