/-! THE MODEL: words, names, numbers. -/
section ZQB
theorem nmd_inj {xs ys : List Int32} {a b : Nat} : ∀ n m, LT xs a n → LT ys b m → nmd xs a n = nmd ys b m → n = m ∧ ∀ i, i < n → xs.getD (a + i) 0 = ys.getD (b + i) 0 := by
  intro n
  induction n with
  | zero =>
    intro m _ L2 e
    cases m with
    | zero => exact ⟨rfl, fun i hi => absurd hi (Nat.not_lt_zero i)⟩
    | succ m =>
      have := (nmd_lt (m + 1) L2).2 (by omega)
      rw [← e] at this
      exact absurd this (by show ¬ 0 < 0; omega)
  | succ n ih =>
    intro m L1 L2 e
    cases m with
    | zero =>
      have := (nmd_lt (n + 1) L1).2 (by omega)
      rw [e] at this
      exact absurd this (by show ¬ 0 < 0; omega)
    | succ m =>
      obtain ⟨k, k1, k2, ek⟩ := L1 n (by omega)
      obtain ⟨l, l1, l2, el⟩ := L2 m (by omega)
      rw [nmd, nmd, ek, el, nI_clamp (by omega), nI_clamp (by omega)] at e
      have e1 : nmd xs a n = nmd ys b m := by omega
      have e2 : k = l := by omega
      obtain ⟨i1, i2⟩ := ih m (fun i hi => L1 i (by omega)) (fun i hi => L2 i (by omega)) e1
      refine ⟨by omega, fun i hi => ?_⟩
      by_cases w : i = n
      · subst w
        rw [ek, i1, el, e2]
      · exact i2 i (by omega)
theorem nmd_ext {xs ys : List Int32} {a b : Nat} : ∀ n, (∀ i, i < n → xs.getD (a + i) 0 = ys.getD (b + i) 0) → nmd xs a n = nmd ys b n := by
  intro n
  induction n with
  | zero => intro _; rfl
  | succ n ih =>
    intro h
    rw [nmd, nmd, ih (fun i hi => h i (by omega)), h n (by omega)]
/-- a keyword's code -/
def kcd (k : Nat) : Nat := nmd (zkw k) 0 (zkw k).length
theorem kcd_all : kcd 0 = 365647 ∧ kcd 1 = 8179 ∧ kcd 2 = 1896526 ∧ kcd 3 = 90090 ∧ kcd 4 = 404931 ∧ kcd 5 = 222789013 ∧ kcd 6 = 10492274 ∧ kcd 7 = 4027 := by decide +kernel
theorem zkw_len : ∀ k, k < 8 → 1 ≤ (zkw k).length ∧ (zkw k).length ≤ 6 := by decide +kernel
theorem zkw_let : ∀ k, k < 8 → ∀ i, i < 6 → i < (zkw k).length → (zkw k).getD i 0 = nI ((zkw k).getD i 0).toNatClampNeg ∧ 97 ≤ ((zkw k).getD i 0).toNatClampNeg ∧ ((zkw k).getD i 0).toNatClampNeg ≤ 122 := by decide +kernel
theorem LT_kw {k : Nat} (hk : k < 8) : LT (zkw k) 0 (zkw k).length := fun i hi => by
  obtain ⟨a, b, c⟩ := zkw_let k hk i (by have := (zkw_len k hk).2; omega) hi
  exact ⟨_, b, c, by rw [Nat.zero_add]; exact a⟩
theorem isW_kw {xs : List Int32} (hb : BY xs) {s k : Nat} (hk : k < 8) (t1 : ty xs s = 1) : isW xs s (kcd k) = true ↔ tkL xs s = (zkw k).length ∧ ∀ i, i < (zkw k).length → xs.getD (s + i) 0 = (zkw k).getD i 0 := by
  have L1 := LT_tk hb t1
  have L2 := LT_kw hk
  unfold isW
  simp only [Bool.and_eq_true, decide_eq_true_eq]
  constructor
  · rintro ⟨_, h6, e⟩
    obtain ⟨i1, i2⟩ := nmd_inj _ _ L1 L2 e
    refine ⟨i1, fun i hi => ?_⟩
    have := i2 i (by omega)
    rw [Nat.zero_add] at this
    exact this
  · rintro ⟨e1, e2⟩
    refine ⟨t1, by rw [e1]; exact (zkw_len k hk).2, ?_⟩
    unfold wcd kcd
    rw [e1]
    exact nmd_ext _ (fun i hi => by rw [Nat.zero_add]; exact e2 i hi)
section
variable {h : zm_H} {xs : List Int32} {s q : Nat}
theorem r_fine (m0 : moS h q) : sX6_fine [.ref 125] h = some (.inl (some (.int (if zI h 125 17 = 0 then 1 else 0))), h) := by
  have t0 := m0.1
  refine zsem_eq (Nat.le_of_ble_eq_true rfl) (zTo_of gX6_fine_0 ?_)
  simp only [t0, zmp_s, zlt_s, zcV_s, zcI_s, zcJ_s, zcA_s, zcD_s, zcF_s, zth_n, zth_t, zrt_s, zQ_l, zQ_r, false_or, or_false, true_or, or_true, false_and, and_false, not_false_eq_true, not_true_eq_false, and_self, true_and, and_true, if_true, if_false, ite_true, ite_false, zgd_t]
  by_cases w : zI h 125 17 = 0
  · simp only [w, zmp_s, zlt_s, zcV_s, zcI_s, zcJ_s, zcA_s, zcD_s, zcF_s, zth_n, zth_t, zrt_s, zQ_l, zQ_r, false_or, or_false, true_or, or_true, false_and, and_false, not_false_eq_true, not_true_eq_false, and_self, true_and, and_true, if_true, if_false, ite_true, ite_false]
  · simp only [w, zmp_s, zlt_s, zcV_s, zcI_s, zcJ_s, zcA_s, zcD_s, zcF_s, zth_n, zth_t, zrt_s, zQ_l, zQ_r, false_or, or_false, true_or, or_true, false_and, and_false, not_false_eq_true, not_true_eq_false, and_self, true_and, and_true, if_true, if_false, ite_true, ite_false]
theorem fine_t (m0 : moS h q) (f : zI h 125 17 = 0) : sX6_fine [.ref 125] h = some (.inl (some (.int 1)), h) := by rw [r_fine m0, if_pos f]
theorem fine_f (m0 : moS h q) (f : zI h 125 17 ≠ 0) : sX6_fine [.ref 125] h = some (.inl (some (.int 0)), h) := by rw [r_fine m0, if_neg f]
theorem len_kw {k : Nat} (hk : k < 8) (h : zm_H) : sJ0_length_8abf5 [.ref (1000000 + k)] h = some (.inl (some (.int (nI (zkw k).length))), h) := by
  show (if 1000000 ≤ 1000000 + k ∧ 1000000 + k < 1000008 then _ else _) = _
  rw [if_pos (by omega), Nat.add_sub_cancel_left]
theorem chr_kw {k i : Nat} (hk : k < 8) (hi : i < (zkw k).length) (h : zm_H) : sJ0_charAt_5068e [.ref (1000000 + k), .int (nI i)] h = some (.inl (some (.int ((zkw k).getD i 0))), h) := by
  have h6 := (zkw_len k hk).2
  show (if (1000000 ≤ 1000000 + k ∧ 1000000 + k < 1000008) ∧ ¬ (nI i < 0 ∨ (zkw (1000000 + k - 1000000)).length ≤ (nI i).toNatClampNeg) then _ else _) = _
  rw [Nat.add_sub_cancel_left, nI_clamp (by omega), if_pos ⟨by omega, by rw [nI_lt0 (by omega)]; simp only [false_or, or_false, true_or, or_true, false_and, and_false, not_false_eq_true, not_true_eq_false, and_self, true_and, and_true, if_true, if_false, ite_true, ite_false]; omega⟩]
theorem r_isWordX {k : Nat} (m0 : moS h q) (hk : k < 8) (f : zI h 125 17 ≠ 0) : sX6_isWord [.ref 125, .ref (1000000 + k)] h = some (.inl (some (.int 0)), h) := by
  have t0 := m0.1
  have h6 := zkw_len k hk
  have le : (nI (zkw k).length ≤ (0 : Int32)) = False := eq_false (fun x => by have := (nI_leI (b := 0) (by omega) (by omega)).mp x; omega)
  refine zsem_eq (Nat.le_of_ble_eq_true rfl) (zTo_of gX6_isWord_0 ?_)
  simp only [t0, fine_f m0 f, zmp_s, zlt_s, zcV_s, zcI_s, zcJ_s, zcA_s, zcD_s, zcF_s, zth_n, zth_t, zrt_s, zQ_l, zQ_r, false_or, or_false, true_or, or_true, false_and, and_false, not_false_eq_true, not_true_eq_false, and_self, true_and, and_true, if_true, if_false, ite_true, ite_false, zgd_t]
  refine zTo_of gX6_isWord_21 ?_
  simp only [len_kw hk, le, show 1000000 ≤ 1000000 + k by omega, show 1000000 + k < 1000008 by omega, zrt_s, zmp_s, zlt_s, zcV_s, zcI_s, zcJ_s, zcA_s, zcD_s, zcF_s, zth_n, zth_t, zrt_s, zQ_l, zQ_r, false_or, or_false, true_or, or_true, false_and, and_false, not_false_eq_true, not_true_eq_false, and_self, true_and, and_true, if_true, if_false, ite_true, ite_false, zgd_t]
theorem r_isWord {k : Nat} (m0 : moS h q) (X : MX h xs) (T : MT h xs s) (f : zI h 125 17 = 0) (hk : k < 8) : sX6_isWord [.ref 125, .ref (1000000 + k)] h = some (.inl (some (.int (zb (isW xs s (kcd k))))), h) := by
  have t0 := m0.1
  have h6 := zkw_len k hk
  have x0 := X
  obtain ⟨x1, x2, x3, hb⟩ := X
  obtain ⟨b13, b14, b15, b16, b17, hn4, hs⟩ := T
  have tE := tkE_hi hs
  have tE1 := (tkE_le xs s).1
  have c1 : 1000000 ≤ 1000000 + k := by omega
  have c2 : 1000000 + k < 1000008 := by omega
  -- no word
  have no : ∀ i, i ≤ 6 → zTo vX6_isWord rX6_isWord (21, [some (.ref 125), some (.ref (1000000 + k)), some (.int 0), some (.int (nI i))], [], h) (fun y => y = (.inl (some (.int 0)), h)) := by
    intro i hi
    refine zTo_of gX6_isWord_21 ?_
    simp only [len_kw hk, c1, c2, zrt_s, zmp_s, zlt_s, zcV_s, zcI_s, zcJ_s, zcA_s, zcD_s, zcF_s, zth_n, zth_t, zrt_s, zQ_l, zQ_r, false_or, or_false, true_or, or_true, false_and, and_false, not_false_eq_true, not_true_eq_false, and_self, true_and, and_true, if_true, if_false, ite_true, ite_false, zgd_t]
    rw [ite_self, zQ_r]
  have tl := ty_le xs s
  have e1 : (nI (ty xs s) = 1) = (ty xs s = 1) := propext (nI_eq (b := 1) (by omega) (by omega))
  refine zsem_eq (Nat.le_of_ble_eq_true rfl) (zTo_of gX6_isWord_0 ?_)
  by_cases t1 : ty xs s = 1
  · have ik := isW_kw hb hk t1
    have dl : nI (tkE xs s) - nI s = nI (tkL xs s) := by
      have := pk_sub (a := tkE xs s) (b := s) (by omega)
      rw [this]; rfl
    have tl2 : tkL xs s ≤ 500 := by unfold tkL; omega
    have el : (nI (tkL xs s) = nI (zkw k).length) = (tkL xs s = (zkw k).length) := propext (nI_eq (by omega) (by omega))
    simp only [t0, fine_t m0 f, i10, b13, b14, b15, e1, eq_true t1, dl, len_kw hk, el, c1, c2, zmp_s, zlt_s, zcV_s, zcI_s, zcJ_s, zcA_s, zcD_s, zcF_s, zth_n, zth_t, zrt_s, zQ_l, zQ_r, false_or, or_false, true_or, or_true, false_and, and_false, not_false_eq_true, not_true_eq_false, and_self, true_and, and_true, if_true, if_false, ite_true, ite_false, zgd_t]
    by_cases w : tkL xs s = (zkw k).length
    · rw [if_pos w]
      simp only [zmp_s, zlt_s, zcV_s, zcI_s, zcJ_s, zcA_s, zcD_s, zcF_s, zth_n, zth_t, zrt_s, zQ_l, zQ_r]
      have loop : ∀ d i, i + d = (zkw k).length → (∀ j, j < i → xs.getD (s + j) 0 = (zkw k).getD j 0) → zTo vX6_isWord rX6_isWord (21, [some (.ref 125), some (.ref (1000000 + k)), some (.int 1), some (.int (nI i))], [], h) (fun y => y = (.inl (some (.int (zb (isW xs s (kcd k))))), h)) := by
        intro d
        induction d with
        | zero =>
          intro i hi al
          have hi : i = (zkw k).length := by omega
          have yes : isW xs s (kcd k) = true := ik.mpr ⟨w, fun j hj => al j (by omega)⟩
          rw [yes, zb_t]
          refine zTo_of gX6_isWord_21 ?_
          rw [hi]
          simp only [len_kw hk, c1, c2, nI_le (Nat.le_refl _) (show (zkw k).length < 2 ^ 31 by omega), i10, zrt_s, zmp_s, zlt_s, zcV_s, zcI_s, zcJ_s, zcA_s, zcD_s, zcF_s, zth_n, zth_t, zrt_s, zQ_l, zQ_r, false_or, or_false, true_or, or_true, false_and, and_false, not_false_eq_true, not_true_eq_false, and_self, true_and, and_true, if_true, if_false, ite_true, ite_false, zgd_t]
        | succ d ih =>
          intro i hi al
          have hil : i < (zkw k).length := by omega
          obtain ⟨f1, f2, f3, f4⟩ := nI_for hil (by omega)
          have inn : s + i < xs.length := by
            have : s + i < tkE xs s := by unfold tkL at w; omega
            omega
          obtain ⟨d1, d2⟩ := hb.at inn
          have t := LT_tk hb t1 i (by omega)
          obtain ⟨c, cl, ch, ec⟩ := t
          have v := x3 (s + i) inn
          rw [ec, sx_lo c (by omega)] at v
          obtain ⟨g1, g2, g3⟩ := zkw_let k hk i (by omega) hil
          have t10 := m0.2.2.2.2.2.2.2.2.2.2.2.1
          have n14 := m0.2.2.2.2.2.2.2.2.2.2.2.2.2.2.2.2.2.2.2.2.2.2.2.2.1
          refine zTo_of gX6_isWord_21 ?_
          have le : (nI (zkw k).length ≤ nI i) = False := eq_false (nI_ge hil (by omega))
          have ad : nI s + nI i = nI (s + i) := nI_add _ _
          simp only [len_kw hk, c1, c2, le, i10, t0, t10, n14, b14, ad, nI_clamp (show s + i < 2 ^ 31 by omega), nI_lt0 (show s + i < 2 ^ 31 by omega), show ¬ 500 ≤ s + i by omega, chr_kw hk hil, v, nI_1, zrt_s, zmp_s, zlt_s, zcV_s, zcI_s, zcJ_s, zcA_s, zcD_s, zcF_s, zth_n, zth_t, zrt_s, zQ_l, zQ_r, false_or, or_false, true_or, or_true, false_and, and_false, not_false_eq_true, not_true_eq_false, and_self, true_and, and_true, if_true, if_false, ite_true, ite_false, zgd_t]
          by_cases eq : nI c = (zkw k).getD i 0
          · rw [if_pos eq]
            simp only [zmp_s, zlt_s, zcV_s, zcI_s, zcJ_s, zcA_s, zcD_s, zcF_s, zth_n, zth_t, zrt_s, zQ_l, zQ_r]
            refine ih (i + 1) (by omega) (fun j hj => ?_)
            by_cases u : j = i
            · rw [u, ec]; exact eq
            · exact al j (by omega)
          · rw [if_neg eq]
            simp only [zmp_s, zlt_s, zcV_s, zcI_s, zcJ_s, zcA_s, zcD_s, zcF_s, zth_n, zth_t, zrt_s, zQ_l, zQ_r]
            have nw : isW xs s (kcd k) = false := by
              cases z : isW xs s (kcd k)
              · rfl
              · have := (ik.mp z).2 i hil
                rw [ec] at this
                exact absurd this eq
            rw [nw, zb_f]
            exact no (i + 1) (by omega)
      exact loop (zkw k).length 0 (by omega) (fun j hj => absurd hj (Nat.not_lt_zero j))
    · rw [if_neg w]
      simp only [zmp_s, zlt_s, zcV_s, zcI_s, zcJ_s, zcA_s, zcD_s, zcF_s, zth_n, zth_t, zrt_s, zQ_l, zQ_r]
      have nw : isW xs s (kcd k) = false := by
        cases z : isW xs s (kcd k)
        · rfl
        · exact absurd (ik.mp z).1 w
      rw [nw, zb_f]
      exact no 0 (by omega)
  · have nw : isW xs s (kcd k) = false := by
      unfold isW
      rw [decide_eq_false t1, Bool.false_and]
    rw [nw, zb_f]
    simp only [t0, fine_t m0 f, i10, b15, e1, eq_false t1, zmp_s, zlt_s, zcV_s, zcI_s, zcJ_s, zcA_s, zcD_s, zcF_s, zth_n, zth_t, zrt_s, zQ_l, zQ_r, false_or, or_false, true_or, or_true, false_and, and_false, not_false_eq_true, not_true_eq_false, and_self, true_and, and_true, if_true, if_false, ite_true, ite_false, zgd_t]
    exact no 0 (by omega)
end
end ZQB
