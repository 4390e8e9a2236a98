/-! THE MODEL: tours in which a room is ahead of another one, counted in two ways. -/
section ZML
/-- steps that stop at room r -/
def nxs (N : zLv) (r o : Nat) : Nat → Nat → Nat → Bool := fun S a b => nxf N r (o + 1) S a b && !decide (a = r)
theorem nxs_ok {N : zLv} (hW : WB N) (r o : Nat) : nxok (nxs N r o) (N 0) := fun S a b h => by
  unfold nxs at h
  simp only [Bool.and_eq_true] at h
  exact nxf_ok hW r (o + 1) S a b h.1
def nbs (N : zLv) (r o : Nat) (S a : Nat) : Nat := if a = r then nT (nxf N r (o + 1)) (nba N) (N 0) S a else nba N S a
section
variable {N : zLv} {r o : Nat}
/-- with room r behind, no step is barred -/
theorem nxf_in (hW : WB N) : ∀ m S a, S < 2 ^ N 0 → 2 ^ N 0 - S ≤ m → S.testBit r = true → nT (nxf N r (o + 1)) (nba N) (N 0) S a = nTT N S a := by
  intro m
  induction m with
  | zero => intro S a h1 h2; omega
  | succ m ih =>
    intro S a h1 h2 hb
    rw [nT_eq (nxf_ok hW r (o + 1)) h1, nTT_eq hW h1]
    congr 1
    refine zsu_congr _ (fun b hb2 => ?_)
    have e : nxf N r (o + 1) S a b = nnx N S a b := by unfold nxf; rw [hb]; simp
    unfold ncn
    rw [e]
    by_cases x : nnx N S a b = true
    · rw [if_pos x, if_pos x]
      obtain ⟨x1, x2⟩ := nnx_ok hW S a b x
      have := or_gt x2
      exact ih _ b (or_lt2 h1 x1) (by omega) (by rw [tb_or, hb]; rfl)
    · rw [if_neg x, if_neg x]
theorem nxs_T (hW : WB N) : ∀ S a, S < 2 ^ N 0 → a < N 0 → nT (nxf N r (o + 1)) (nba N) (N 0) S a = nT (nxs N r o) (nbs N r o) (N 0) S a := by
  refine nT_uniq (nxs_ok hW r o) (fun S a hS ha => ?_)
  by_cases e : a = r
  · have z : zsu (fun b => if nxs N r o S a b = true then nT (nxf N r (o + 1)) (nba N) (N 0) (S ||| 2 ^ b) b else 0) (N 0) = 0 := zsu_0 _ (fun b _ => by
      rw [if_neg]
      unfold nxs
      simp [e])
    have y : nbs N r o S a = nT (nxf N r (o + 1)) (nba N) (N 0) S a := by unfold nbs; rw [if_pos e]
    rw [y, z]
    exact (Nat.add_zero _).symm
  · rw [nT_eq (nxf_ok hW r (o + 1)) hS]
    unfold nbs
    rw [if_neg e]
    congr 1
    refine zsu_congr _ (fun b _ => ?_)
    have : nxs N r o S a b = nxf N r (o + 1) S a b := by unfold nxs; simp [e]
    rw [this]
/-- behind room r no walk goes on -/
theorem nxs_0 {st : Nat} : ∀ m S a, S ≤ m → S.testBit r = true → a ≠ r → nW (nxs N r o) (N 0) (2 ^ st) st S a = 0 := by
  intro m
  induction m with
  | zero =>
    intro S a h1 hb
    have : S = 0 := by omega
    rw [this, Nat.zero_testBit] at hb; cases hb
  | succ m ih =>
    intro S a h1 hb ha
    rw [nW_eq]
    have e1 : (if S = 2 ^ st ∧ a = st then 1 else 0) = 0 := if_neg (fun x => by
      rw [x.1, Nat.testBit_two_pow] at hb
      have := of_decide_eq_true hb
      omega)
    rw [e1, Nat.zero_add]
    by_cases t : S.testBit a = true
    · rw [if_pos t]
      refine zsu_0 _ (fun b _ => ?_)
      by_cases x : nxs N r o (S ^^^ 2 ^ a) b a = true
      · rw [if_pos x]
        have hbr : b ≠ r := by
          intro e
          unfold nxs at x
          simp [e] at x
        have := xor_lt t
        exact ih _ b (by omega) (by rw [tb_xor, hb]; simp [ha]) hbr
      · rw [if_neg x]
    · rw [if_neg t]
/-- ahead of room r: all walks that have not room o -/
theorem nxs_lo {st : Nat} (hso : st ≠ o) : ∀ m S a, S ≤ m → S.testBit r = false → nW (nxs N r o) (N 0) (2 ^ st) st S a = if S.testBit o = true then 0 else nW (nnx N) (N 0) (2 ^ st) st S a := by
  intro m
  induction m with
  | zero =>
    intro S a h1 hb
    have e : S = 0 := by omega
    subst e
    rw [if_neg (by rw [Nat.zero_testBit]; simp), nW_low 0 a (Nat.two_pow_pos _), nW_low 0 a (Nat.two_pow_pos _)]
  | succ m ih =>
    intro S a h1 hb
    by_cases ho : S.testBit o = true
    · rw [if_pos ho, nW_eq]
      have e1 : (if S = 2 ^ st ∧ a = st then 1 else 0) = 0 := if_neg (fun x => by
        rw [x.1, Nat.testBit_two_pow] at ho
        exact hso (of_decide_eq_true ho))
      rw [e1, Nat.zero_add]
      by_cases t : S.testBit a = true
      · rw [if_pos t]
        refine zsu_0 _ (fun b _ => ?_)
        by_cases x : nxs N r o (S ^^^ 2 ^ a) b a = true
        · rw [if_pos x]
          have hao : a ≠ o := by
            intro e
            have hr : (S ^^^ 2 ^ a).testBit r = false := by
              rw [tb_xor, hb]
              by_cases w : a = r
              · rw [w, hb] at t; cases t
              · simp [w]
            unfold nxs nxf at x
            rw [hr, e] at x
            simp at x
          have := xor_lt t
          have har : a ≠ r := by intro w; rw [w, hb] at t; cases t
          rw [ih (S ^^^ 2 ^ a) b (by omega) (by rw [tb_xor, hb]; simp [har]), if_pos (by rw [tb_xor, ho]; simp [hao])]
        · rw [if_neg x]
      · rw [if_neg t]
    · rw [if_neg ho, nW_eq, nW_eq]
      congr 1
      by_cases t : S.testBit a = true
      · rw [if_pos t, if_pos t]
        have har : a ≠ r := by intro w; rw [w, hb] at t; cases t
        have hao : a ≠ o := by intro w; rw [w] at t; exact ho t
        have hr : (S ^^^ 2 ^ a).testBit r = false := by rw [tb_xor, hb]; simp [har]
        have hoo : ¬ (S ^^^ 2 ^ a).testBit o = true := by
          rw [tb_xor]
          have : S.testBit o = false := by simpa using ho
          simp [this, hao]
        have := xor_lt t
        refine zsu_congr _ (fun b _ => ?_)
        have e2 := ih (S ^^^ 2 ^ a) b (by omega) hr
        rw [if_neg hoo] at e2
        rw [e2]
        by_cases w : b = r
        · have z : nW (nnx N) (N 0) (2 ^ st) st (S ^^^ 2 ^ a) b = 0 := by
            rcases Nat.eq_zero_or_pos (nW (nnx N) (N 0) (2 ^ st) st (S ^^^ 2 ^ a) b) with q | q
            · exact q
            · have := nW_bit (by rw [Nat.testBit_two_pow]; simp) q
              rw [w, hr] at this; cases this
          rw [z]; simp
        · have : nxs N r o (S ^^^ 2 ^ a) b a = nnx N (S ^^^ 2 ^ a) b a := by
            unfold nxs nxf
            have : decide (a + 1 = o + 1) = false := decide_eq_false (by omega)
            rw [this]
            simp [w]
          rw [this]
      · rw [if_neg t, if_neg t]
theorem nxs_r {st : Nat} (hso : st ≠ o) (hro : r ≠ o) (S : Nat) : nW (nxs N r o) (N 0) (2 ^ st) st S r = if S.testBit o = true then 0 else nW (nnx N) (N 0) (2 ^ st) st S r := by
  by_cases t : S.testBit r = true
  · have hr : (S ^^^ 2 ^ r).testBit r = false := by rw [tb_xor, t]; simp
    have hoe : (S ^^^ 2 ^ r).testBit o = S.testBit o := by rw [tb_xor]; simp [hro]
    rw [nW_eq, nW_eq, if_pos t, if_pos t]
    have e : ∀ b, (if nxs N r o (S ^^^ 2 ^ r) b r = true then nW (nxs N r o) (N 0) (2 ^ st) st (S ^^^ 2 ^ r) b else 0) = if S.testBit o = true then 0 else (if nnx N (S ^^^ 2 ^ r) b r = true then nW (nnx N) (N 0) (2 ^ st) st (S ^^^ 2 ^ r) b else 0) := fun b => by
      rw [nxs_lo hso _ _ b (Nat.le_refl _) hr, hoe]
      by_cases w : b = r
      · have z : nW (nnx N) (N 0) (2 ^ st) st (S ^^^ 2 ^ r) b = 0 := by
          rcases Nat.eq_zero_or_pos (nW (nnx N) (N 0) (2 ^ st) st (S ^^^ 2 ^ r) b) with q | q
          · exact q
          · have := nW_bit (by rw [Nat.testBit_two_pow]; simp) q
            rw [w, hr] at this; cases this
        rw [z]; simp
      · have : nxs N r o (S ^^^ 2 ^ r) b r = nnx N (S ^^^ 2 ^ r) b r := by
          unfold nxs nxf
          have : decide (r + 1 = o + 1) = false := decide_eq_false (by omega)
          rw [this]
          simp [w]
        rw [this]
        by_cases ho : S.testBit o = true
        · simp [ho]
        · simp [ho]
    rw [zsu_congr (g := fun b => if S.testBit o = true then 0 else (if nnx N (S ^^^ 2 ^ r) b r = true then nW (nnx N) (N 0) (2 ^ st) st (S ^^^ 2 ^ r) b else 0)) _ (fun b _ => e b)]
    by_cases ho : S.testBit o = true
    · have e1 : (if S = 2 ^ st ∧ r = st then 1 else 0) = 0 := if_neg (fun x => by
        rw [x.1, Nat.testBit_two_pow] at ho
        exact hso (of_decide_eq_true ho))
      rw [e1]
      simp only [ho, if_true]
      rw [zsu_zero]
    · have ho : S.testBit o = false := by simpa using ho
      simp only [ho, Bool.false_eq_true, if_false]
  · have z : ∀ nx : Nat → Nat → Nat → Bool, nW nx (N 0) (2 ^ st) st S r = 0 := fun nx => by
      rcases Nat.eq_zero_or_pos (nW nx (N 0) (2 ^ st) st S r) with q | q
      · exact q
      · exact absurd (nW_bit (by rw [Nat.testBit_two_pow]; simp) q) t
    rw [z, z, ite_self]
theorem zsu_shift (F : Nat → Nat) (n : Nat) (h0 : F 0 = 0) (hn : 0 < n) : zsu F n = zsu (fun i => F (i + 1)) (n - 1) := by
  have : ∀ m, zsu F (m + 1) = F 0 + zsu (fun i => F (i + 1)) m := by
    intro m
    induction m with
    | zero => show 0 + F 0 = F 0 + 0; omega
    | succ m ih => rw [zsu_s, ih, zsu_s]; omega
  have e := this (n - 1)
  rw [show n - 1 + 1 = n by omega, h0, Nat.zero_add] at e
  exact e
/-- the tours in which r is ahead of o -/
theorem ahead_eq (hF : WF N) (hr : r < N 0) (ho : o < N 0) (hro : r ≠ o) : (if N 2 = o then 0 else nT (nxf N r (o + 1)) (nba N) (N 0) (2 ^ N 2) (N 2)) = nAh N r o := by
  have hW := hF.1
  have hs := hF.2.2.1
  have one := Nat.one_le_two_pow (n := N 0)
  by_cases e : N 2 = o
  · rw [if_pos e]
    unfold nAh nSum
    symm
    refine zsu_0 _ (fun i hi => ?_)
    dsimp only
    by_cases q : (i + 1).testBit o = true
    · rw [if_pos q]
    · rw [if_neg q]
      have q : (i + 1).testBit o = false := by simpa using q
      have z : nWW N (2 ^ N 2) (N 2) (i + 1) r = 0 := by
        rcases Nat.eq_zero_or_pos (nWW N (2 ^ N 2) (N 2) (i + 1) r) with w | w
        · exact w
        · have := nW_sub (i + 1) r w o (by rw [e, Nat.testBit_two_pow]; simp)
          rw [q] at this; cases this
      rw [z, Nat.zero_mul]
  · rw [if_neg e, nxs_T hW _ _ hF.bit.1 hs, ← flow (nxs_ok hW r o) hF.bit.1 hs]
    unfold nAh nSum
    have inner : ∀ S, S < 2 ^ N 0 → zsu (fun a => nW (nxs N r o) (N 0) (2 ^ N 2) (N 2) S a * nbs N r o S a) (N 0) = if S.testBit o = true then 0 else nWW N (2 ^ N 2) (N 2) S r * nTT N S r := fun S hS => by
      rw [zsu_one (N 0) r hr (fun a ha hne => ?_)]
      · rw [nxs_r e hro]
        by_cases q : S.testBit o = true
        · simp only [q, if_true, Nat.zero_mul]
        · rw [if_neg q, if_neg q]
          by_cases b : S.testBit r = true
          · unfold nbs
            rw [if_pos rfl, nxf_in hW _ S r hS (Nat.le_refl _) b]
            rfl
          · have b : S.testBit r = false := by simpa using b
            have z : nWW N (2 ^ N 2) (N 2) S r = 0 := nWW_0 hF.bit.2 b
            unfold nWW at z
            unfold nWW
            rw [z, Nat.zero_mul, Nat.zero_mul]
      · cases b : S.testBit r
        · have : nbs N r o S a = 0 := by
            unfold nbs
            rw [if_neg hne]
            unfold nba
            rw [if_neg (fun x => by
              have := (full_iff hS).mp x.1 r hr
              rw [b] at this; cases this)]
          rw [this, Nat.mul_zero]
        · rw [nxs_0 S S a (Nat.le_refl _) b hne, Nat.zero_mul]
    rw [zsu_congr _ inner, zsu_shift _ _ (by
      have z : nWW N (2 ^ N 2) (N 2) 0 r = 0 := nW_low 0 r (Nat.two_pow_pos _)
      rw [z, Nat.zero_mul, ite_self]) (by omega)]
end
section
variable {h : zm_H} {N : zLv}
theorem r_ahead (c : MI h N) {r o : Nat} (hr : r < N 0) (ho : o < N 0) (hne : r ≠ o) : MR (sX6_ahead [.ref 125, .int (nI r), .int (nI o)] h) (some (.long (lN (nAh N r o)))) 0 (MZ N h) := by
  have c1 := c.go (MZ.th c 0)
  have hF := c.2.2
  have hW := hF.1
  have h0 := hW.1
  have hs := hF.2.2.1
  have h3 := hF.2.2.2.1
  obtain ⟨g, e1, fr, X, Y⟩ := r_layWays (e := r) (l := o + 1) c1.1 c1.2.1 hW (by omega) (by omega) (by omega)
  rw [eI_s] at e1
  have c2 := c1.go (MZ.fr c1 fr wyA_q)
  have m1 := c1.1
  have m2 := c2.1
  have l3 := c1.2.1.e3
  have l2 := c2.2.1.at (i := 2) (by omega) (by omega)
  have yv := Y (2 ^ N 2) (N 2) (Nat.two_pow_pos _) hF.bit.1 hs (Or.inl (Nat.two_pow_pos _))
  have ev : wyv N r (o + 1) (2 ^ N 2) (N 2) = nT (nxf N r (o + 1)) (nba N) (N 0) (2 ^ N 2) (N 2) := by
    unfold wyv
    rw [if_pos hF.bit.2]
  rw [ev] at yv
  have ae := ahead_eq hF hr ho hne
  refine ⟨g, ?_, (MZ.th c 0).tr (MZ.fr c1 fr wyA_q), by rw [fr_th fr wyA_q, th_0]⟩
  obtain ⟨E3, hE3⟩ : ∃ x, x = eI (N 3) := ⟨_, rfl⟩
  rw [← hE3] at e1 l3
  refine zsem_eq (Nat.le_of_ble_eq_true rfl) (zTo_of gX6_ahead_0 ?_)
  simp only [c.1.1, r_areTwo c hr ho, nI_eq (show r < 2 ^ 31 by omega) (show o < 2 ^ 31 by omega), hne, p2_t c.1, i10, m1.1, m1.2.2.2.1, m1.2.2.2.2.2.2.2.2.2.2.2.2.2.2.2.2.1, c_3, p_3, l3, show ¬ 149 ≤ 3 by omega, e1, m2.1, m2.2.2.2.1, m2.2.2.2.2.2.2.2.2.2.2.2.2.2.2.2.2.1, c_2, p_2, l2, show ¬ 149 ≤ 2 by omega, nI_eq (show N 2 < 2 ^ 31 by omega) (show o < 2 ^ 31 by omega), r_toursFromRoom m2 (show N 2 < 11 by omega), yv, zmp_s, zlt_s, zcV_s, zcI_s, zcJ_s, zcA_s, zcD_s, zcF_s, zth_n, zth_t, zrt_s, zQ_l, zQ_r, false_or, or_false, true_or, or_true, false_and, and_false, not_false_eq_true, not_true_eq_false, and_self, true_and, and_true, if_true, if_false, ite_true, ite_false, zgd_t]
  by_cases q : N 2 = o
  · rw [if_pos q] at ae
    rw [if_pos q, ← ae]
    simp only [zmp_s, zlt_s, zcV_s, zcI_s, zcJ_s, zcA_s, zcD_s, zcF_s, zth_n, zth_t, zrt_s, zQ_l, zQ_r]; rfl
  · rw [if_neg q] at ae
    rw [if_neg q, ← ae]
    simp only [zmp_s, zlt_s, zcV_s, zcI_s, zcJ_s, zcA_s, zcD_s, zcF_s, zth_n, zth_t, zrt_s, zQ_l, zQ_r]
theorem r_aheadS (c : MI h N) {r : Nat} (hr : r < N 0) : MR (sX6_ahead [.ref 125, .int (nI r), .int (nI r)] h) (some (.long 0)) 2 (MZ N h) := by
  refine ⟨zsI h 125 0 2, ?_, MZ.th c 2, th_0⟩
  refine zsem_eq (Nat.le_of_ble_eq_true rfl) (zTo_of gX6_ahead_0 ?_)
  simp only [c.1.1, r_areTwo c hr hr, p2_2 c.1, zmp_s, zlt_s, zcV_s, zcI_s, zcJ_s, zcA_s, zcD_s, zcF_s, zth_n, zth_t, zrt_s, zQ_l, zQ_r, false_or, or_false, true_or, or_true, false_and, and_false, not_false_eq_true, not_true_eq_false, and_self, true_and, and_true, if_true, if_false, ite_true, ite_false, zgd_t]
theorem r_aheadX (c : MI h N) {x y : Int32} (hx : (x < 0 ∨ nI (N 0) ≤ x) ∨ ((∃ r, r < N 0 ∧ x = nI r) ∧ (y < 0 ∨ nI (N 0) ≤ y))) : MR (sX6_ahead [.ref 125, .int x, .int y] h) (some (.long 0)) 1 (MZ N h) := by
  refine ⟨zsI h 125 0 1, ?_, MZ.th c 1, th_0⟩
  refine zsem_eq (Nat.le_of_ble_eq_true rfl) (zTo_of gX6_ahead_0 ?_)
  by_cases e : x = y
  · subst e
    simp only [c.1.1, r_areTwoX c hx, p2_1 c.1, zmp_s, zlt_s, zcV_s, zcI_s, zcJ_s, zcA_s, zcD_s, zcF_s, zth_n, zth_t, zrt_s, zQ_l, zQ_r, false_or, or_false, true_or, or_true, false_and, and_false, not_false_eq_true, not_true_eq_false, and_self, true_and, and_true, if_true, if_false, ite_true, ite_false, zgd_t]
  · simp only [c.1.1, r_areTwoX c hx, e, p2_1 c.1, zmp_s, zlt_s, zcV_s, zcI_s, zcJ_s, zcA_s, zcD_s, zcF_s, zth_n, zth_t, zrt_s, zQ_l, zQ_r, false_or, or_false, true_or, or_true, false_and, and_false, not_false_eq_true, not_true_eq_false, and_self, true_and, and_true, if_true, if_false, ite_true, ite_false, zgd_t]
end
end ZML
