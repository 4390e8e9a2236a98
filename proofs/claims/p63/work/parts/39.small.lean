/-! THE CLASS: names, rooms and doors added, the walk cut, rows of bytes. -/
section ZSM
theorem lg0 (x y : Int64) : (lg_cmp x y = 0) = (x = y) := by
  apply propext
  unfold lg_cmp
  constructor
  · intro h
    split at h
    · exact absurd h (by decide)
    · split at h
      · assumption
      · exact absurd h (by decide)
  · intro h
    subst h
    rw [if_neg (fun e => Int64.lt_irrefl e), if_pos rfl]
theorem pk27_lt : ∀ f c, pk27 f c < 256 ^ f := by
  intro f
  induction f with
  | zero => intro c; exact Nat.lt_of_lt_of_le (by decide : 0 < 1) (Nat.le_refl _)
  | succ f ih =>
    intro c
    unfold pk27
    split
    · exact Nat.pow_pos (by omega)
    · have h1 := ih (c / 27)
      rw [Nat.pow_succ]
      have h2 : c % 27 < 27 := Nat.mod_lt _ (by omega)
      omega
theorem pkn_lt (c : Nat) : pkn c < 2 ^ 56 := pk27_lt 7 c
/-- the first of 0 .. n-1 with p -/
def nfind (p : Nat → Bool) : Nat → Option Nat
  | 0 => none
  | n + 1 => match nfind p n with
    | some k => some k
    | none => if p n then some n else none
theorem nfind_none {p : Nat → Bool} : ∀ {n : Nat}, nfind p n = none ↔ ∀ j, j < n → p j = false := by
  intro n
  induction n with
  | zero => exact ⟨fun _ j hj => by omega, fun _ => rfl⟩
  | succ n ih =>
    unfold nfind
    constructor
    · intro h j hj
      split at h
      · cases h
      · rename_i hq
        split at h
        · cases h
        · rename_i hne
          by_cases e : j = n
          · rw [e]; simpa using hne
          · exact ih.mp hq j (by omega)
    · intro h
      rw [ih.mpr (fun j hj => h j (by omega))]
      exact if_neg (by rw [h n (by omega)]; simp)
theorem nfind_some {p : Nat → Bool} : ∀ {n k : Nat}, nfind p n = some k ↔ k < n ∧ p k = true ∧ ∀ j, j < k → p j = false := by
  intro n
  induction n with
  | zero => intro k; exact ⟨fun h => (by cases h), fun h => absurd h.1 (by omega)⟩
  | succ n ih =>
    intro k
    unfold nfind
    constructor
    · intro h
      split at h
      · rename_i q hq; cases h; obtain ⟨h1, h2⟩ := ih.mp hq; exact ⟨by omega, h2⟩
      · rename_i hq
        split at h
        · rename_i e; cases h; exact ⟨by omega, e, nfind_none.mp hq⟩
        · cases h
    · rintro ⟨h1, h2, h3⟩
      by_cases e : k = n
      · subst e
        rw [nfind_none.mpr h3]
        exact if_pos h2
      · rw [ih.mpr ⟨by omega, h2, h3⟩]
theorem q_roomNamed {h : zm_H} {a : Nat} {N : zLv} {w : Nat} (hS : lvS h a) (hL : KL h a N) (hN : N 0 ≤ 11) (hw : w < 2 ^ 63) : sX2_roomNamed [.ref a, .long (lN w)] h = some (.inl (some (.int (oI (nfind (fun r => decide (pkn (N (18 + 3 * r)) = w)) (N 0))))), h) := by
  obtain ⟨k0, p1, p2, p3, p5, p6, p7, p8, p9, p12, p14, k1, k2, k3, k4, k5, k6, k7, k8, k9, k10⟩ := hS
  obtain ⟨l0, l1, l2, l3, l4, ln, lk, lc, lf, lt, ld, lb, lo, lw⟩ := hL
  refine zsem_eq (Nat.le_of_ble_eq_true rfl) (zTo_of gX2_roomNamed_0 ?_)
  have key : ∀ d k, k + d = N 0 → (∀ j, j < k → decide (pkn (N (18 + 3 * j)) = w) = false) → zTo vX2_roomNamed rX2_roomNamed (2, [some (.ref a), some (.long (lN w)), none, some (.int (nI k))], [], h) (fun y => y = (.inl (some (.int (oI (nfind (fun r => decide (pkn (N (18 + 3 * r)) = w)) (N 0))))), h)) := by
    intro d
    induction d with
    | zero =>
      intro k hk hn
      have hk : k = N 0 := by omega
      subst hk
      refine zTo_of gX2_roomNamed_2 ?_
      simp only [k0, l0, zgd_t, nI_le (Nat.le_refl _) (show N 0 < 2 ^ 31 by omega), zmp_s, zlt_s, zcV_s, zcI_s, zcJ_s, zcA_s, zcD_s, zcF_s, zth_n, zth_t, zrt_s, zQ_l, zQ_r, false_or, or_false, not_false_eq_true, not_true_eq_false, and_self, true_and, and_true, if_true, if_false, ite_true, ite_false]
      rw [nfind_none.mpr hn]; rfl
    | succ d ih =>
      intro k hk hn
      obtain ⟨f1, f2, f3, f4⟩ := nI_for (show k < N 0 by omega) (by omega)
      have f5 : ¬ 11 ≤ k := by omega
      have hp := pkn_lt (N (18 + 3 * k))
      refine zTo_of gX2_roomNamed_2 ?_
      simp only [k0, l0, f1, f4, zmp_s, zlt_s, zcV_s, zcI_s, zcJ_s, zcA_s, zcD_s, zcF_s, zth_n, zth_t, zrt_s, zQ_l, zQ_r, false_or, or_false, not_false_eq_true, not_true_eq_false, and_self, true_and, and_true, if_true, if_false, ite_true, ite_false, zgd_t, p1, k1, f2, f3, f5, ln k (by omega), lg0, pk_lEQ (show pkn (N (18 + 3 * k)) < 2 ^ 63 by omega) hw]
      by_cases e : pkn (N (18 + 3 * k)) = w
      · simp only [e, zmp_s, zlt_s, zcV_s, zcI_s, zcJ_s, zcA_s, zcD_s, zcF_s, zth_n, zth_t, zrt_s, zQ_l, zQ_r, false_or, or_false, not_false_eq_true, not_true_eq_false, and_self, true_and, and_true, if_true, if_false, ite_true, ite_false]
        rw [nfind_some.mpr ⟨by omega, by simp [e], hn⟩]; rfl
      · simp only [e, zmp_s, zlt_s, zcV_s, zcI_s, zcJ_s, zcA_s, zcD_s, zcF_s, zth_n, zth_t, zrt_s, zQ_l, zQ_r, false_or, or_false, not_false_eq_true, not_true_eq_false, and_self, true_and, and_true, if_true, if_false, ite_true, ite_false]
        refine ih (k + 1) (by omega) (fun j hj => ?_)
        by_cases q : j = k
        · subst q; simp [e]
        · exact hn j (by omega)
  exact key (N 0) 0 (by omega) (fun j hj => by omega)
theorem sI_comm {h : zm_H} {a b i j : Nat} {x y : Int32} (hab : a ≠ b) : zsI (zsI h a i x) b j y = zsI (zsI h b j y) a i x := by
  have e : zrow (zrow (zI h) a (zput (zI h a) i x)) b (zput (zrow (zI h) a (zput (zI h a) i x) b) j y) = zrow (zrow (zI h) b (zput (zI h b) j y)) a (zput (zrow (zI h) b (zput (zI h b) j y) a) i x) := by
    rw [zrow_ne _ _ (Ne.symm hab), zrow_ne _ _ hab]
    funext c
    unfold zrow
    by_cases q : c = a
    · have : ¬ c = b := fun e => hab (q ▸ e)
      simp [q, hab]
    · simp [q]
  show (h.1, h.2.1, zrow (zrow (zI h) a (zput (zI h a) i x)) b (zput (zrow (zI h) a (zput (zI h a) i x) b) j y), h.2.2.2) = (h.1, h.2.1, zrow (zrow (zI h) b (zput (zI h b) j y)) a (zput (zrow (zI h) b (zput (zI h b) j y) a) i x), h.2.2.2)
  rw [e]
theorem IJ_comm {h : zm_H} {a b i j : Nat} {x : Int32} {y : Int64} : zsJ (zsI h a i x) b j y = zsI (zsJ h b j y) a i x := rfl
/-- a room more -/
def nAddR (N : zLv) (c : Nat) : zLv := zput (zput (zput (zput N (18 + 3 * N 0) c) (16 + 3 * N 0) 0) (17 + 3 * N 0) 0) 0 (N 0 + 1)
theorem q_addRoom {h : zm_H} {a c : Nat} {N : zLv} (hS : lvS h a) (hL : KL h a N) (h0 : N 0 < 11) (h4 : N 4 ≤ 11) : ∃ g, sX2_addRoom [.ref a, .long (lN (pkn c))] h = some (.inl (some (.int (nI (N 0)))), g) ∧ zFr (fun q => a ≤ q ∧ q ≤ a + 3) h g ∧ KL g a (nAddR N c) := by
  have hL0 := hL
  obtain ⟨k0, p1, p2, p3, p5, p6, p7, p8, p9, p12, p14, k1, k2, k3, k4, k5, k6, k7, k8, k9, k10⟩ := hS
  obtain ⟨l0, l1, l2, l3, l4, ln, lk, lc, lf, lt, ld, lb, lo, lw⟩ := hL
  have e1 : ((11 : Int32) ≤ nI (N 0)) = False := eq_false (nI_ge (a := N 0) (b := 11) h0 (by omega))
  have f2 := nI_clamp (show N 0 < 2 ^ 31 by omega)
  have f3 := nI_lt0 (show N 0 < 2 ^ 31 by omega)
  have f4 : nI (N 0) + (1 : Int32) = nI (N 0 + 1) := nI_1 _
  have f5 : ¬ 11 ≤ N 0 := by omega
  have c1 := KL_name hL0 ⟨by omega, h4⟩ (N 0) c h0
  have c2 := KL_keys c1 (zbz ⟨by omega, h4⟩ (by omega)) (N 0) 0 h0
  have c3 := KL_coins c2 (zbz (zbz ⟨by omega, h4⟩ (by omega)) (by omega)) (N 0) 0 h0
  have c4 := KL_rooms c3 (N 0 + 1) (by
    refine ⟨fun r hr => ?_, fun r hr => ?_, fun r hr => ?_⟩
    · by_cases q : r = N 0
      · subst q
        rw [J_sI, J_sI, J_sJs, zput_self, zput_ne _ _ (by omega), zput_ne _ _ (by omega), zput_self]
      · exact c3.2.2.2.2.2.1 r (by rw [zput_ne _ _ (by omega), zput_ne _ _ (by omega), zput_ne _ _ (by omega)]; omega)
    · by_cases q : r = N 0
      · subst q
        rw [I_sIn (by omega), I_sIs, zput_self, zput_ne _ _ (by omega), zput_self]
      · exact c3.2.2.2.2.2.2.1 r (by rw [zput_ne _ _ (by omega), zput_ne _ _ (by omega), zput_ne _ _ (by omega)]; omega)
    · by_cases q : r = N 0
      · subst q
        rw [I_sIs, zput_self, zput_self]
      · exact c3.2.2.2.2.2.2.2.1 r (by rw [zput_ne _ _ (by omega), zput_ne _ _ (by omega), zput_ne _ _ (by omega)]; omega))
  refine ⟨zsI (zsI (zsJ (zsI h a 0 (nI (N 0 + 1))) (a + 1) (N 0) (lN (pkn c))) (a + 2) (N 0) (nI 0)) (a + 3) (N 0) (nI 0), ?_, ?_, ?_⟩
  · refine zsem_eq (Nat.le_of_ble_eq_true rfl) (zTo_of gX2_addRoom_0 ?_)
    simp only [k0, l0, e1, p1, k1, p2, k2, p3, k3, f2, f3, f4, f5, zmp_s, zlt_s, zcV_s, zcI_s, zcJ_s, zcA_s, zcD_s, zcF_s, zth_n, zth_t, zrt_s, zQ_l, zQ_r, false_or, or_false, not_false_eq_true, not_true_eq_false, and_self, true_and, and_true, if_true, if_false, ite_true, ite_false, K_sI, K_sJ, K_sD, K_sP, K_rI, K_rJ, P_sI, P_sJ, P_sD, P_rI, P_rJ, N_sI, N_sJ, N_sD, N_sP, N_rI, N_rJ, J_sI, J_sD, J_sP, J_rI, I_sJ, I_sD, I_sP, I_rJ, D_sI, D_sJ, D_sP, D_rI, D_rJ, zgd_t]
    rfl
  · exact (((zFr.sI ⟨by omega, by omega⟩).tr (zFr.sJ ⟨by omega, by omega⟩)).tr (zFr.sI ⟨by omega, by omega⟩)).tr (zFr.sI ⟨by omega, by omega⟩)
  · have e : zsI (zsI (zsJ (zsI h a 0 (nI (N 0 + 1))) (a + 1) (N 0) (lN (pkn c))) (a + 2) (N 0) (nI 0)) (a + 3) (N 0) (nI 0) = zsI (zsI (zsI (zsJ h (a + 1) (N 0) (lN (pkn c))) (a + 2) (N 0) (nI 0)) (a + 3) (N 0) (nI 0)) a 0 (nI (N 0 + 1)) := by
      rw [IJ_comm, sI_comm (show a ≠ a + 2 by omega), sI_comm (show a ≠ a + 3 by omega)]
    rw [e]
    exact c4
/-- a free door more -/
def nAddD (N : zLv) (r s : Nat) : zLv := zput (zput (zput (zput (zput (zput N (49 + 5 * N 1) r) (50 + 5 * N 1) s) (53 + 5 * N 1) 0) (51 + 5 * N 1) 0) (52 + 5 * N 1) 0) 1 (N 1 + 1)
theorem q_build {h : zm_H} {a r s : Nat} {N : zLv} (hS : lvS h a) (hL : KL h a N) (h1 : N 1 < 20) (hb : N 0 ≤ 11 ∧ N 4 ≤ 11) (ho : lvO h a) : ∃ g, sX2_build [.ref a, .int (nI r), .int (nI s)] h = some (.inl (some (.int (nI (N 1)))), g) ∧ zFr (fun q => a ≤ q ∧ q ≤ a + 8) h g ∧ KL g a (nAddD N r s) ∧ lvO g a := by
  have hL0 := hL
  have hS0 := hS
  obtain ⟨k0, p1, p2, p3, p5, p6, p7, p8, p9, p12, p14, k1, k2, k3, k4, k5, k6, k7, k8, k9, k10⟩ := hS
  obtain ⟨l0, l1, l2, l3, l4, ln, lk, lc, lf, lt, ld, lb, lo, lw⟩ := hL
  have e1 : ((20 : Int32) ≤ nI (N 1)) = False := eq_false (nI_ge (a := N 1) (b := 20) h1 (by omega))
  have f2 := nI_clamp (show N 1 < 2 ^ 31 by omega)
  have f3 := nI_lt0 (show N 1 < 2 ^ 31 by omega)
  have f4 : nI (N 1) + (1 : Int32) = nI (N 1 + 1) := nI_1 _
  have f5 : ¬ 20 ≤ N 1 := by omega
  have c1 := KL_from hL0 hb (N 1) r
  have b1 := zbz (i := 49 + 5 * N 1) (x := r) hb (by omega)
  have c2 := KL_to c1 b1 (N 1) s
  have b2 := zbz (i := 50 + 5 * N 1) (x := s) b1 (by omega)
  have c3 := KL_ow c2 b2 (N 1) 0
  have b3 := zbz (i := 53 + 5 * N 1) (x := 0) b2 (by omega)
  have c4 := KL_kind c3 b3 (N 1) 0
  have b4 := zbz (i := 51 + 5 * N 1) (x := 0) b3 (by omega)
  have c5 := KL_num c4 b4 (N 1) 0
  have n1 : ∀ x1 x2 x3 x4 x5, zput (zput (zput (zput (zput N (49 + 5 * N 1) x1) (50 + 5 * N 1) x2) (53 + 5 * N 1) x3) (51 + 5 * N 1) x4) (52 + 5 * N 1) x5 1 = N 1 := fun x1 x2 x3 x4 x5 => by
    rw [zput_ne _ _ (by omega), zput_ne _ _ (by omega), zput_ne _ _ (by omega), zput_ne _ _ (by omega), zput_ne _ _ (by omega)]
  have c6 := KL_doors c5 (N 1 + 1) (by
    refine ⟨fun d hd => ?_, fun d hd => ?_, fun d hd => ?_, fun d hd => ?_, fun d hd => ?_⟩
    · by_cases q : d = N 1
      · subst q
        rw [I_sIn (by omega), I_sIn (by omega), I_sIn (by omega), I_sIn (by omega), I_sIs, zput_self, zput_ne _ _ (by omega), zput_ne _ _ (by omega), zput_ne _ _ (by omega), zput_ne _ _ (by omega), zput_self]
      · exact c5.2.2.2.2.2.2.2.2.1 d (by rw [n1]; omega)
    · by_cases q : d = N 1
      · subst q
        rw [I_sIn (by omega), I_sIn (by omega), I_sIn (by omega), I_sIs, zput_self, zput_ne _ _ (by omega), zput_ne _ _ (by omega), zput_ne _ _ (by omega), zput_self]
      · exact c5.2.2.2.2.2.2.2.2.2.1 d (by rw [n1]; omega)
    · by_cases q : d = N 1
      · subst q
        rw [I_sIn (by omega), I_sIs, zput_self, zput_ne _ _ (by omega), zput_self]
      · exact c5.2.2.2.2.2.2.2.2.2.2.1 d (by rw [n1]; omega)
    · by_cases q : d = N 1
      · subst q
        rw [I_sIs, zput_self, zput_self]
      · exact c5.2.2.2.2.2.2.2.2.2.2.2.1 d (by rw [n1]; omega)
    · by_cases q : d = N 1
      · subst q
        rw [I_sIn (by omega), I_sIn (by omega), I_sIs, zput_self, zput_ne _ _ (by omega), zput_ne _ _ (by omega), zput_self]
      · exact c5.2.2.2.2.2.2.2.2.2.2.2.2.1 d (by rw [n1]; omega))
  obtain ⟨g0, hg0⟩ : ∃ g0, g0 = zsI (zsI (zsI (zsI h a 4 (nI (N 1 + 1))) (a + 4) (N 1) (nI r)) (a + 5) (N 1) (nI s)) (a + 8) (N 1) (nI 0) := ⟨_, rfl⟩
  have hS1 : lvS g0 a := by rw [hg0]; exact lvS_kp rfl rfl hS0
  have lk := q_lock (d := N 1) (k := 0) (n := 0) hS1 h1
  refine ⟨zsI (zsI g0 (a + 6) (N 1) (nI 0)) (a + 7) (N 1) (nI 0), ?_, ?_, ?_, ?_⟩
  · refine zsem_eq (Nat.le_of_ble_eq_true rfl) (zTo_of gX2_build_0 ?_)
    simp only [nI_0] at lk hg0
    have k00 : zK g0 a = (8, 15) := hS1.1
    simp only [k0, l1, e1, p5, k4, p6, k5, p9, k8, f2, f3, f4, f5, ← hg0, k00, lk, zmp_s, zlt_s, zcV_s, zcI_s, zcJ_s, zcA_s, zcD_s, zcF_s, zth_n, zth_t, zrt_s, zQ_l, zQ_r, false_or, or_false, not_false_eq_true, not_true_eq_false, and_self, true_and, and_true, if_true, if_false, ite_true, ite_false, K_sI, K_sJ, K_sD, K_sP, K_rI, K_rJ, P_sI, P_sJ, P_sD, P_rI, P_rJ, N_sI, N_sJ, N_sD, N_sP, N_rI, N_rJ, J_sI, J_sD, J_sP, J_rI, I_sJ, I_sD, I_sP, I_rJ, D_sI, D_sJ, D_sP, D_rI, D_rJ, zgd_t]
    rfl
  · rw [hg0]
    exact (((((zFr.sI ⟨by omega, by omega⟩).tr (zFr.sI ⟨by omega, by omega⟩)).tr (zFr.sI ⟨by omega, by omega⟩)).tr (zFr.sI ⟨by omega, by omega⟩)).tr (zFr.sI ⟨by omega, by omega⟩)).tr (zFr.sI ⟨by omega, by omega⟩)
  · have e : zsI (zsI g0 (a + 6) (N 1) (nI 0)) (a + 7) (N 1) (nI 0) = zsI (zsI (zsI (zsI (zsI (zsI h (a + 4) (N 1) (nI r)) (a + 5) (N 1) (nI s)) (a + 8) (N 1) (nI 0)) (a + 6) (N 1) (nI 0)) (a + 7) (N 1) (nI 0)) a 4 (nI (N 1 + 1)) := by
      rw [hg0, sI_comm (show a ≠ a + 4 by omega), sI_comm (show a ≠ a + 5 by omega), sI_comm (show a ≠ a + 8 by omega), sI_comm (show a ≠ a + 6 by omega), sI_comm (show a ≠ a + 7 by omega)]
    rw [e]
    exact c6
  · intro i hi
    rw [hg0, I_sIn (by omega), I_sIn (by omega), I_sIs, I_sIn (by omega), I_sIn (by omega), I_sIn (by omega)]
    unfold zput
    split
    · exact Or.inl rfl
    · exact ho i hi
theorem q_enter {h : zm_H} {a r : Nat} {N : zLv} (hS : lvS h a) (hL : KL h a N) (h4 : N 4 < 11) (h0 : N 0 ≤ 11) : ∃ g, sX2_enter [.ref a, .int (nI r)] h = some (.inl none, g) ∧ zFr (fun q => q = a ∨ q = a + 9) h g ∧ KL g a (zput (zput N (5 + N 4) r) 4 (N 4 + 1)) := by
  have hL0 := hL
  obtain ⟨k0, p1, p2, p3, p5, p6, p7, p8, p9, p12, p14, k1, k2, k3, k4, k5, k6, k7, k8, k9, k10⟩ := hS
  obtain ⟨l0, l1, l2, l3, l4, ln, lk, lc, lf, lt, ld, lb, lo, lw⟩ := hL
  have e1 : ((11 : Int32) ≤ nI (N 4)) = False := eq_false (nI_ge (a := N 4) (b := 11) h4 (by omega))
  have f2 := nI_clamp (show N 4 < 2 ^ 31 by omega)
  have f3 := nI_lt0 (show N 4 < 2 ^ 31 by omega)
  have f4 : nI (N 4) + (1 : Int32) = nI (N 4 + 1) := nI_1 _
  have f5 : ¬ 11 ≤ N 4 := by omega
  have c1 := KL_walk hL0 ⟨h0, by omega⟩ (N 4) r h4
  have c2 := KL_len c1 (N 4 + 1) (fun k hk => by
    by_cases q : k = N 4
    · subst q; rw [I_sIs, zput_self, zput_self]
    · exact c1.2.2.2.2.2.2.2.2.2.2.2.2.2 k (by rw [zput_ne _ _ (by omega)]; omega))
  refine ⟨zsI (zsI h a 13 (nI (N 4 + 1))) (a + 9) (N 4) (nI r), ?_, (zFr.sI (Or.inl rfl)).tr (zFr.sI (Or.inr rfl)), ?_⟩
  · refine zsem_eq (Nat.le_of_ble_eq_true rfl) (zTo_of gX2_enter_0 ?_)
    simp only [k0, l4, e1, p12, k9, f2, f3, f4, f5, zmp_s, zlt_s, zcV_s, zcI_s, zcJ_s, zcA_s, zcD_s, zcF_s, zth_n, zth_t, zrt_s, zQ_l, zQ_r, false_or, or_false, not_false_eq_true, not_true_eq_false, and_self, true_and, and_true, if_true, if_false, ite_true, ite_false, K_sI, K_sJ, K_sD, K_sP, K_rI, K_rJ, P_sI, P_sJ, P_sD, P_rI, P_rJ, N_sI, N_sJ, N_sD, N_sP, N_rI, N_rJ, J_sI, J_sD, J_sP, J_rI, I_sJ, I_sD, I_sP, I_rJ, D_sI, D_sJ, D_sP, D_rI, D_rJ, zgd_t]
  · rw [sI_comm (show a ≠ a + 9 by omega)]
    exact c2
/-- the walk's rooms -/
def nwk (N : zLv) (k : Nat) : Nat := N (5 + k)
def nbad (N : zLv) (k : Nat) : Bool := !(nld N (nsk (nwk N) (k + 1)) (nwk N k)).testBit (nwk N (k + 1))
def ncut (N : zLv) : Nat := match nfind (nbad N) (N 4 - 1) with
  | some k => k + 1
  | none => N 4
theorem q_cutWalk {h : zm_H} {a : Nat} {N : zLv} (hS : lvS h a) (hL : KL h a N) (hW : WB N) (h4 : 1 ≤ N 4) : ∃ g, sX2_cutWalk [.ref a] h = some (.inl none, g) ∧ zFr (fun q => q = a ∨ q = a + 10) h g ∧ KL g a (zput N 4 (ncut N)) := by
  have hL0 := hL
  have hS0 := hS
  have hW0 := hW
  obtain ⟨w0, w1, w4, wr, wd, ww⟩ := hW
  obtain ⟨k0, p1, p2, p3, p5, p6, p7, p8, p9, p12, p14, k1, k2, k3, k4, k5, k6, k7, k8, k9, k10⟩ := hS
  obtain ⟨l0, l1, l2, l3, l4, ln, lk, lc, lf, lt, ld, lb, lo, lw⟩ := hL
  have hwf : ∀ k, k < N 4 → nwk N k < N 0 := fun k hk => ww k hk
  obtain ⟨R, hR⟩ : ∃ R : zm_O → Prop, R = (fun o => ∃ g, o = (.inl none, g) ∧ zFr (fun q => q = a ∨ q = a + 10) h g ∧ KL g a (zput N 4 (ncut N))) := ⟨_, rfl⟩
  have key : ∀ d k g, k + d = N 4 → 1 ≤ k → zFr (fun q => q = a + 10) h g → (∀ j, j < k - 1 → nbad N j = false) → zTo vX2_cutWalk rX2_cutWalk (9, [some (.ref a), some (.int (nI (nsk (nwk N) k))), some (.int (nI k))], [], g) R := by
    intro d
    induction d with
    | zero =>
      intro k g hk hk1 fr hb
      have hk : k = N 4 := by omega
      have K := fr.K
      have l4g : zI g a 13 = nI (N 4) := by rw [fr.I (by omega)]; exact l4
      refine zTo_of gX2_cutWalk_9 ?_
      simp only [K, k0, l4g, hk, nI_le (Nat.le_refl _) (show N 4 < 2 ^ 31 by omega), zmp_s, zlt_s, zcV_s, zcI_s, zcJ_s, zcA_s, zcD_s, zcF_s, zth_n, zth_t, zrt_s, zQ_l, zQ_r, false_or, or_false, not_false_eq_true, not_true_eq_false, and_self, true_and, and_true, if_true, if_false, ite_true, ite_false, zgd_t]
      rw [hR]
      have e : ncut N = N 4 := by
        unfold ncut
        rw [nfind_none.mpr (fun j hj => hb j (by omega))]
      refine ⟨g, rfl, fr.mono (fun q hq => Or.inr hq), ?_⟩
      have e2 : zput N 4 (ncut N) = N := by
        funext i; unfold zput; split
        · rename_i q; rw [e, q]
        · rfl
      rw [e2]
      exact KL_fr fr (fun i hi => by omega) hL0
    | succ d ih =>
      intro k g hk hk1 fr hb
      have K := fr.K
      have P := fr.P
      have hLg : KL g a N := KL_fr fr (fun i hi => by omega) hL0
      have hSg : lvS g a := lvS_fr fr hS0
      have l4g : zI g a 13 = nI (N 4) := by rw [fr.I (by omega)]; exact l4
      obtain ⟨f1, f2, f3, f4⟩ := nI_for (show k < N 4 by omega) (by omega)
      have f5 : ¬ 11 ≤ k := by omega
      have e1 : nI k - (1 : Int32) = nI (k - 1) := pk_sub (b := 1) hk1
      have e2 := nI_clamp (show k - 1 < 2 ^ 31 by omega)
      have e3 := nI_lt0 (show k - 1 < 2 ^ 31 by omega)
      have e4 : ¬ 11 ≤ k - 1 := by omega
      have hSl : nsk (nwk N) k < 2 ^ N 0 := nsk_lt k (fun i hi => hwf i (by omega))
      have hp := pow_le w0
      have hk1' := nkeys_lt hW0 (nsk (nwk N) k)
      have hc1 := ncoins_le hW0 (nsk (nwk N) k)
      obtain ⟨g2, hg2⟩ : ∃ g2, g2 = zrI g (a + 10) (nldF N (nsk (nwk N) k) (zI g (a + 10)) (N 1)) := ⟨_, rfl⟩
      have ql := q_leads (S := nsk (nwk N) k) hSg hLg hW0 (by omega) (by omega) (by omega)
      rw [← hg2] at ql
      have fr2 : zFr (fun q => q = a + 10) h g2 := by rw [hg2]; exact fr.tr (zFr.rI rfl)
      have K2 := fr2.K
      have P2 := fr2.P
      have lw1 : zI g2 (a + 9) (k - 1) = nI (nwk N (k - 1)) := by rw [fr2.I (by omega)]; exact lw (k - 1) (by omega)
      have lw2 : zI g2 (a + 9) k = nI (nwk N k) := by rw [fr2.I (by omega)]; exact lw k (by omega)
      have b1 := hwf (k - 1) (by omega)
      have b2 := hwf k (by omega)
      have g1 := nI_clamp (show nwk N (k - 1) < 2 ^ 31 by omega)
      have g3 := nI_lt0 (show nwk N (k - 1) < 2 ^ 31 by omega)
      have g5 : ¬ 11 ≤ nwk N (k - 1) := by omega
      have lr : zI g2 (a + 10) (nwk N (k - 1)) = nI (nld N (nsk (nwk N) k) (nwk N (k - 1))) := by rw [hg2, I_rIs]; exact if_pos (by omega)
      have hnl := nld_lt hW0 (nsk (nwk N) k) (nwk N (k - 1))
      refine zTo_of gX2_cutWalk_9 ?_
      simp only [K, P, k0, l4g, f1, ql, K2, P2, p12, k9, k10, e1, e2, e3, e4, lw1, lw2, g1, g3, g5, f2, f3, f5, lr, q_has (show nld N (nsk (nwk N) k) (nwk N (k - 1)) < 2 ^ 31 by omega) (show nwk N k < 32 by omega), zb_0, zmp_s, zlt_s, zcV_s, zcI_s, zcJ_s, zcA_s, zcD_s, zcF_s, zth_n, zth_t, zrt_s, zQ_l, zQ_r, false_or, or_false, not_false_eq_true, not_true_eq_false, and_self, true_and, and_true, if_true, if_false, ite_true, ite_false, zgd_t]
      by_cases x : (nld N (nsk (nwk N) k) (nwk N (k - 1))).testBit (nwk N k) = true
      · simp only [x, Bool.true_eq_false, false_or, or_false, not_false_eq_true, not_true_eq_false, and_self, true_and, and_true, if_true, if_false, ite_true, ite_false, K2, P2, k0, p12, k9, f2, f3, f5, lw2, nx_shl1 (show nwk N k < 32 by omega), nx_or, f4, zmp_s, zlt_s, zcV_s, zcI_s, zcJ_s, zcA_s, zcD_s, zcF_s, zth_n, zth_t, zrt_s, zQ_l, zQ_r, zgd_t]
        refine ih (k + 1) g2 (by omega) (by omega) fr2 (fun j hj => ?_)
        by_cases q : j = k - 1
        · rw [q]; unfold nbad
          rw [show k - 1 + 1 = k by omega, x]; rfl
        · exact hb j (by omega)
      · have x : (nld N (nsk (nwk N) k) (nwk N (k - 1))).testBit (nwk N k) = false := by simpa using x
        simp only [x, false_or, or_false, not_false_eq_true, not_true_eq_false, and_self, true_and, and_true, if_true, if_false, ite_true, ite_false, K2, k0, zmp_s, zlt_s, zcV_s, zcI_s, zcJ_s, zcA_s, zcD_s, zcF_s, zth_n, zth_t, zrt_s, zQ_l, zQ_r, K_sI, K_sJ, K_sD, K_sP, K_rI, K_rJ, P_sI, P_sJ, P_sD, P_rI, P_rJ, N_sI, N_sJ, N_sD, N_sP, N_rI, N_rJ, J_sI, J_sD, J_sP, J_rI, I_sJ, I_sD, I_sP, I_rJ, D_sI, D_sJ, D_sP, D_rI, D_rJ, zgd_t]
        -- the walk is cut: the next look ends the loop
        have l13 : zI (zsI g2 a 13 (nI k)) a 13 = nI k := by rw [I_sIs, zput_self]
        refine zTo_of gX2_cutWalk_9 ?_
        have f6 : nI k ≤ nI (k + 1) := nI_le (by omega) (by omega)
        simp only [K_sI, K_sJ, K_sD, K_sP, K_rI, K_rJ, P_sI, P_sJ, P_sD, P_rI, P_rJ, N_sI, N_sJ, N_sD, N_sP, N_rI, N_rJ, J_sI, J_sD, J_sP, J_rI, I_sJ, I_sD, I_sP, I_rJ, D_sI, D_sJ, D_sP, D_rI, D_rJ, K2, k0, l13, f4, f6, zmp_s, zlt_s, zcV_s, zcI_s, zcJ_s, zcA_s, zcD_s, zcF_s, zth_n, zth_t, zrt_s, zQ_l, zQ_r, false_or, or_false, not_false_eq_true, not_true_eq_false, and_self, true_and, and_true, if_true, if_false, ite_true, ite_false, zgd_t]
        rw [hR]
        have e : ncut N = k := by
          unfold ncut
          have : nfind (nbad N) (N 4 - 1) = some (k - 1) := nfind_some.mpr ⟨by omega, by
            unfold nbad
            rw [show k - 1 + 1 = k by omega, x]; rfl, hb⟩
          rw [this]
          show k - 1 + 1 = k
          omega
        refine ⟨_, rfl, (fr2.mono (fun q hq => Or.inr hq)).tr (zFr.sI (Or.inl rfl)), ?_⟩
        rw [e]
        exact KL_len_dn (KL_fr fr2 (fun i hi => by omega) hL0) k (by omega)
  have hsim : zW (sX2_cutWalk [.ref a] h) R := by
    refine zsem_to (Nat.le_of_ble_eq_true rfl) (zTo_of gX2_cutWalk_0 ?_)
    have lw0 : zI h (a + 9) 0 = nI (nwk N 0) := lw 0 (by omega)
    have b0 := hwf 0 (by omega)
    simp only [k0, p12, k9, c_0, p_0, lw0, nx_shl1 (show nwk N 0 < 32 by omega), zmp_s, zlt_s, zcV_s, zcI_s, zcJ_s, zcA_s, zcD_s, zcF_s, zth_n, zth_t, zrt_s, zQ_l, zQ_r, false_or, or_false, not_false_eq_true, not_true_eq_false, and_self, true_and, and_true, if_true, if_false, ite_true, ite_false, zgd_t]
    have e : 2 ^ nwk N 0 = nsk (nwk N) 1 := by
      show 2 ^ nwk N 0 = 0 ||| 2 ^ nwk N 0
      rw [Nat.zero_or]
    rw [e]
    exact key (N 4 - 1) 1 h (by omega) (Nat.le_refl _) zFr.rf (fun j hj => by omega)
  rw [hR] at hsim
  obtain ⟨o, h1, g, rfl, h2⟩ := hsim
  exact ⟨g, h1, h2⟩
-- rows of bytes
def byS (h : zm_H) (b q cap m : Nat) : Prop := zK h b = (6, 2) ∧ zP h b 0 = some q ∧ zK h q = (0, cap) ∧ zI h b 1 = nI m
theorem q_add {h : zm_H} {b q cap m : Nat} (x : Int32) (hB : byS h b q cap m) (hm : m < cap) (hc : cap < 2 ^ 31) (hbq : b ≠ q) : sX0_add [.ref b, .int x] h = some (.inl none, zsI (zsI h b 1 (nI (m + 1))) q m (x &&& 255)) := by
  obtain ⟨k0, p0, k1, l1⟩ := hB
  have e1 : (nI cap ≤ nI m) = False := eq_false (nI_ge hm hc)
  have f2 := nI_clamp (show m < 2 ^ 31 by omega)
  have f3 := nI_lt0 (show m < 2 ^ 31 by omega)
  have f4 : nI m + (1 : Int32) = nI (m + 1) := nI_1 _
  have f5 : ¬ cap ≤ m := by omega
  refine zsem_eq (Nat.le_of_ble_eq_true rfl) (zTo_of gX0_add_0 ?_)
  simp only [k0, p0, k1, l1, e1, f2, f3, f4, f5, zmp_s, zlt_s, zcV_s, zcI_s, zcJ_s, zcA_s, zcD_s, zcF_s, zth_n, zth_t, zrt_s, zQ_l, zQ_r, false_or, or_false, not_false_eq_true, not_true_eq_false, and_self, true_and, and_true, if_true, if_false, ite_true, ite_false, K_sI, K_sJ, K_sD, K_sP, K_rI, K_rJ, P_sI, P_sJ, P_sD, P_rI, P_rJ, N_sI, N_sJ, N_sD, N_sP, N_rI, N_rJ, J_sI, J_sD, J_sP, J_rI, I_sJ, I_sD, I_sP, I_rJ, D_sI, D_sJ, D_sP, D_rI, D_rJ, zgd_t]
/-- bytes are added: xs at the place m -/
def byG (h : zm_H) (b q m : Nat) (xs : List Int32) (g : zm_H) : Prop := zFr (fun c => c = b ∨ c = q) h g ∧ zI g b 1 = nI (m + xs.length) ∧ (∀ i, i < m → zI g q i = zI h q i) ∧ ∀ i, i < xs.length → zI g q (m + i) = xs.getD i 0
theorem byG_nil {h : zm_H} {b q m : Nat} (hl : zI h b 1 = nI m) : byG h b q m [] h := ⟨zFr.rf, hl, fun _ _ => rfl, fun i hi => absurd hi (Nat.not_lt_zero i)⟩
theorem byG_S {h g : zm_H} {b q cap m : Nat} {xs : List Int32} (hB : byS h b q cap m) (hG : byG h b q m xs g) : byS g b q cap (m + xs.length) := by
  obtain ⟨k0, p0, k1, l1⟩ := hB
  exact ⟨by rw [hG.1.K]; exact k0, by rw [hG.1.P]; exact p0, by rw [hG.1.K]; exact k1, hG.2.1⟩
theorem byG_app {h g k : zm_H} {b q m : Nat} {xs ys : List Int32} (h1 : byG h b q m xs g) (h2 : byG g b q (m + xs.length) ys k) : byG h b q m (xs ++ ys) k := by
  refine ⟨h1.1.tr h2.1, ?_, fun i hi => ?_, fun i hi => ?_⟩
  · rw [h2.2.1, List.length_append, Nat.add_assoc]
  · rw [h2.2.2.1 i (by omega)]; exact h1.2.2.1 i hi
  · rw [List.length_append] at hi
    by_cases w : i < xs.length
    · rw [h2.2.2.1 (m + i) (by omega), h1.2.2.2 i w]
      simp [List.getD, List.getElem?_append_left w]
    · have := h2.2.2.2 (i - xs.length) (by omega)
      rw [show m + xs.length + (i - xs.length) = m + i by omega] at this
      rw [this]
      simp [List.getD, List.getElem?_append_right (show xs.length ≤ i by omega)]
theorem byG_one {h : zm_H} {b q cap m : Nat} (x : Int32) (hB : byS h b q cap m) (hm : m < cap) (hc : cap < 2 ^ 31) (hbq : b ≠ q) : ∃ g, sX0_add [.ref b, .int x] h = some (.inl none, g) ∧ byG h b q m [x &&& 255] g := by
  refine ⟨_, q_add x hB hm hc hbq, (zFr.sI (Or.inl rfl)).tr (zFr.sI (Or.inr rfl)), ?_, fun i hi => ?_, fun i hi => ?_⟩
  · rw [I_sIn hbq, I_sIs, zput_self]; rfl
  · rw [I_sIs, zput_ne _ _ (by omega), I_sIn (Ne.symm hbq)]
  · have : i = 0 := by simp at hi; omega
    subst this
    rw [I_sIs]
    exact zput_self _ _ _
/-- the four bytes of a number -/
def b4 (v : Int32) : List Int32 := [(v >>> (nI 24 &&& 31)) &&& 255, (v >>> (nI 16 &&& 31)) &&& 255, (v >>> (nI 8 &&& 31)) &&& 255, (v >>> (nI 0 &&& 31)) &&& 255]
theorem q_addFour {h : zm_H} {b q cap m : Nat} (v : Int32) (hB : byS h b q cap m) (hm : m + 4 ≤ cap) (hc : cap < 2 ^ 31) (hbq : b ≠ q) : ∃ g, sX0_addFour [.ref b, .int v] h = some (.inl none, g) ∧ byG h b q m (b4 v) g := by
  have hk0 := hB.1
  obtain ⟨g1, s1, t1⟩ := byG_one (v >>> (nI 24 &&& 31)) hB (by omega) hc hbq
  obtain ⟨g2, s2, t2⟩ := byG_one (v >>> (nI 16 &&& 31)) (byG_S hB t1) (show m + 1 < cap by omega) hc hbq
  have u2 := byG_app t1 t2
  obtain ⟨g3, s3, t3⟩ := byG_one (v >>> (nI 8 &&& 31)) (byG_S hB u2) (show m + 2 < cap by omega) hc hbq
  have u3 := byG_app u2 t3
  obtain ⟨g4, s4, t4⟩ := byG_one (v >>> (nI 0 &&& 31)) (byG_S hB u3) (show m + 3 < cap by omega) hc hbq
  have u4 := byG_app u3 t4
  have K1 := t1.1.K
  have K2 := u2.1.K
  have K3 := u3.1.K
  have a1 : (24 : Int32) = nI 24 := rfl
  have a2 : nI 24 + (-8 : Int32) = nI 16 := by decide +kernel
  have a3 : nI 16 + (-8 : Int32) = nI 8 := by decide +kernel
  have a4 : nI 8 + (-8 : Int32) = nI 0 := by decide +kernel
  have a5 : nI 0 + (-8 : Int32) = -8 := by decide +kernel
  have n1 : (nI 24 < 0) = False := nI_lt0 (by omega)
  have n2 : (nI 16 < 0) = False := nI_lt0 (by omega)
  have n3 : (nI 8 < 0) = False := nI_lt0 (by omega)
  have n4 : (nI 0 < 0) = False := nI_lt0 (by omega)
  have n5 : ((-8 : Int32) < 0) = True := by decide +kernel
  refine ⟨g4, ?_, u4⟩
  refine zsem_eq (Nat.le_of_ble_eq_true rfl) (zTo_of gX0_addFour_0 (zTo_of gX0_addFour_2 ?_))
  rw [a1]
  simp only [n1, hk0, s1, a2, zmp_s, zlt_s, zcV_s, zcI_s, zcJ_s, zcA_s, zcD_s, zcF_s, zth_n, zth_t, zrt_s, zQ_l, zQ_r, false_or, or_false, not_false_eq_true, not_true_eq_false, and_self, true_and, and_true, if_true, if_false, ite_true, ite_false, zgd_t]
  refine zTo_of gX0_addFour_2 ?_
  simp only [n2, K1, hk0, s2, a3, zmp_s, zlt_s, zcV_s, zcI_s, zcJ_s, zcA_s, zcD_s, zcF_s, zth_n, zth_t, zrt_s, zQ_l, zQ_r, false_or, or_false, not_false_eq_true, not_true_eq_false, and_self, true_and, and_true, if_true, if_false, ite_true, ite_false, zgd_t]
  refine zTo_of gX0_addFour_2 ?_
  simp only [n3, K2, hk0, s3, a4, zmp_s, zlt_s, zcV_s, zcI_s, zcJ_s, zcA_s, zcD_s, zcF_s, zth_n, zth_t, zrt_s, zQ_l, zQ_r, false_or, or_false, not_false_eq_true, not_true_eq_false, and_self, true_and, and_true, if_true, if_false, ite_true, ite_false, zgd_t]
  refine zTo_of gX0_addFour_2 ?_
  simp only [n4, K3, hk0, s4, a5, zmp_s, zlt_s, zcV_s, zcI_s, zcJ_s, zcA_s, zcD_s, zcF_s, zth_n, zth_t, zrt_s, zQ_l, zQ_r, false_or, or_false, not_false_eq_true, not_true_eq_false, and_self, true_and, and_true, if_true, if_false, ite_true, ite_false, zgd_t]
  refine zTo_of gX0_addFour_2 ?_
  simp only [n5, zmp_s, zlt_s, zcV_s, zcI_s, zcJ_s, zcA_s, zcD_s, zcF_s, zth_n, zth_t, zrt_s, zQ_l, zQ_r, false_or, or_false, not_false_eq_true, not_true_eq_false, and_self, true_and, and_true, if_true, if_false, ite_true, ite_false]
end ZSM

