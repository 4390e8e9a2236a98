/-! THE MODEL: a door written, a room found. -/
section ZMT
section
variable {h : zm_H} {N : zLv}
theorem r_writeDoor {d : Nat} (c : MI h N) (hd : d < N 1) : MR (sX6_writeDoor [.ref 125, .int (nI d)] h) (some (.int (nI (ndw N d).length))) 0 (MW h N (ndw N d)) := by
  have c1 := c.go (MZ.th c 0)
  have hF := c.2.2
  have hW := hF.1
  have h0 := hW.1
  have h1 := hW.2.1
  have hnm := hF.2.2.2.2.2.2.2.2
  obtain ⟨d1, d2, d3, d4, d5, d6, d7⟩ := hW.2.2.2.2.1 d hd
  obtain ⟨k0, hk0⟩ : ∃ k0, k0 = zsI (zsI h 125 0 0) 125 26 (0 : Int32) := ⟨_, rfl⟩
  have W0 : WO (zsI h 125 0 0) [] k0 := by
    rw [hk0]
    exact ⟨zFr.sI (Or.inl rfl), fun j hj => by rw [I_sIs, zput_ne _ _ hj], by rw [I_sIs, zput_self]; rfl, by show 0 ≤ 200; omega, fun i hi => absurd hi (Nat.not_lt_zero i)⟩
  have c2 := W0.mi c1
  have n1 := nlt_le 6 (N (18 + 3 * N (49 + 5 * d)))
  have n2 := nlt_le 6 (N (18 + 3 * N (50 + 5 * d)))
  obtain ⟨g1, e1, w1⟩ := r_writeName c2.1 c2.2.1 (show N (49 + 5 * d) < 11 by omega) (hnm _ d1) W0.2.2 (by show 0 + 6 ≤ 200; omega)
  rw [List.nil_append] at w1
  have c3 := w1.mi c2
  obtain ⟨g2, e2, w2⟩ := r_write (k := if N (53 + 5 * d) = 0 then 45 else 62) c3.1 w1.2.2 (by omega) (by split <;> omega)
  have c4 := w2.mi c3
  have lb : (nlt 6 (N (18 + 3 * N (49 + 5 * d))) ++ [nI (if N (53 + 5 * d) = 0 then 45 else 62)]).length ≤ 7 := by rw [List.length_append]; show _ + 1 ≤ 7; omega
  obtain ⟨g3, e3, w3⟩ := r_writeName c4.1 c4.2.1 (show N (50 + 5 * d) < 11 by omega) (hnm _ d2) w2.2.2 (by omega)
  have c5 := w3.mi c4
  have s0 : nlt 6 (N (18 + 3 * N (49 + 5 * d))) ++ [nI (if N (53 + 5 * d) = 0 then 45 else 62)] ++ nlt 6 (N (18 + 3 * N (50 + 5 * d))) = ndw0 N d := by
    unfold ndw0
    by_cases o : N (53 + 5 * d) = 0
    · rw [if_pos o, if_pos o]; rfl
    · rw [if_neg o, if_neg o]; rfl
  rw [s0] at w3
  have l0 : (ndw0 N d).length ≤ 13 := by rw [← s0, List.length_append]; omega
  have W3 : WO (zsI h 125 0 0) (ndw0 N d) g3 := ((W0.tr w1).tr w2).tr w3
  have ow : (nI (N (53 + 5 * d)) = 1) = (N (53 + 5 * d) = 1) := propext (nI_eq (b := 1) (by omega) (by omega))
  have k1 : (nI (N (51 + 5 * d)) = 1) = (N (51 + 5 * d) = 1) := propext (nI_eq (b := 1) (by omega) (by omega))
  have kz := nI_eq0 (show N (51 + 5 * d) < 2 ^ 31 by omega)
  have v0 := r_ofDoor0 c2.1 c2.2.1 (show d < 20 by omega)
  have v4 := r_ofDoor4 c3.1 c3.2.1 (show d < 20 by omega)
  have v1 := r_ofDoor1 c4.1 c4.2.1 (show d < 20 by omega)
  have v2 := r_ofDoor2 c5.1 c5.2.1 (show d < 20 by omega)
  have fin : ∀ g, WO (zsI h 125 0 0) (ndw N d) g → MW h N (ndw N d) g ∧ zI g 125 0 = 0 := fun g w => ⟨MW.of (MZ.th c 0) c w, by rw [w.2.1 0 (by omega), th_0]⟩
  have e2a : N (53 + 5 * d) = 0 → sX6_write [.ref 125, .int (45 : Int32)] g1 = some (.inl none, g2) := fun o => by rw [if_pos o] at e2; exact e2
  have e2b : N (53 + 5 * d) = 1 → sX6_write [.ref 125, .int (62 : Int32)] g1 = some (.inl none, g2) := fun o => by rw [if_neg (by omega)] at e2; exact e2
  have ow2 : N (53 + 5 * d) = 0 ∨ N (53 + 5 * d) = 1 := by omega
  by_cases kk : N (51 + 5 * d) = 0
  · have nd : ndw N d = ndw0 N d := by unfold ndw; rw [if_pos kk]
    rw [← nd] at W3
    obtain ⟨f1, f2⟩ := fin g3 W3
    refine ⟨g3, ?_, f1, f2⟩
    refine zsem_eq (Nat.le_of_ble_eq_true rfl) (zTo_of gX6_writeDoor_0 ?_)
    simp only [c.1.1, r_isDoor c.1 c.2.1 h1 hd, p1_t c.1, i10, c1.1.1, ← hk0, c2.1.1, v0, e1, c3.1.1, v4, ow, zmp_s, zlt_s, zcV_s, zcI_s, zcJ_s, zcA_s, zcD_s, zcF_s, zth_n, zth_t, zrt_s, zQ_l, zQ_r, false_or, or_false, true_or, or_true, false_and, and_false, not_false_eq_true, not_true_eq_false, and_self, true_and, and_true, if_true, if_false, ite_true, ite_false, zgd_t]
    rcases ow2 with o | o
    · simp only [o, show ¬ 0 = 1 by omega, e2a o, c4.1.1, v1, e3, c5.1.1, v2, kz, eq_true kk, W3.2.2.1, zmp_s, zlt_s, zcV_s, zcI_s, zcJ_s, zcA_s, zcD_s, zcF_s, zth_n, zth_t, zrt_s, zQ_l, zQ_r, false_or, or_false, true_or, or_true, false_and, and_false, not_false_eq_true, not_true_eq_false, and_self, true_and, and_true, if_true, if_false, ite_true, ite_false, zgd_t]
    · simp only [o, e2b o, c4.1.1, v1, e3, c5.1.1, v2, kz, eq_true kk, W3.2.2.1, zmp_s, zlt_s, zcV_s, zcI_s, zcJ_s, zcA_s, zcD_s, zcF_s, zth_n, zth_t, zrt_s, zQ_l, zQ_r, false_or, or_false, true_or, or_true, false_and, and_false, not_false_eq_true, not_true_eq_false, and_self, true_and, and_true, if_true, if_false, ite_true, ite_false, zgd_t]
  · obtain ⟨g4, e4, w4⟩ := r_write (k := 32) c5.1 w3.2.2 (by omega) (by omega)
    have c6 := w4.mi c5
    obtain ⟨g5, e5, w5⟩ := r_write (k := if N (51 + 5 * d) = 1 then 107 else 116) c6.1 w4.2.2 (by rw [List.length_append]; show _ + 1 < 200; omega) (by split <;> omega)
    have c7 := w5.mi c6
    obtain ⟨g6, e6, w6⟩ := r_writeInt c7.1 w5.2.2 (by rw [List.length_append, List.length_append]; show _ + 1 + 1 + 3 ≤ 200; omega) (show N (52 + 5 * d) < 1000 by omega)
    have c8 := w6.mi c7
    have v2b := r_ofDoor2 c6.1 c6.2.1 (show d < 20 by omega)
    have v3 := r_ofDoor3 c7.1 c7.2.1 (show d < 20 by omega)
    have e4' : sX6_write [.ref 125, .int (32 : Int32)] g3 = _ := e4
    have nd : ndw N d = ((ndw0 N d ++ [nI 32]) ++ [nI (if N (51 + 5 * d) = 1 then 107 else 116)]) ++ ndg (N (52 + 5 * d)) := by
      unfold ndw
      rw [if_neg kk]
      by_cases q : N (51 + 5 * d) = 1
      · rw [if_pos q, if_pos q]; rfl
      · rw [if_neg q, if_neg q]; rfl
    rw [← nd] at w6
    have W6 : WO (zsI h 125 0 0) (ndw N d) g6 := ((W3.tr w4).tr w5).tr w6
    obtain ⟨f1, f2⟩ := fin g6 W6
    have e5a : N (51 + 5 * d) = 1 → sX6_write [.ref 125, .int (107 : Int32)] g4 = some (.inl none, g5) := fun o => by rw [if_pos o] at e5; exact e5
    have e5b : ¬ N (51 + 5 * d) = 1 → sX6_write [.ref 125, .int (116 : Int32)] g4 = some (.inl none, g5) := fun o => by rw [if_neg o] at e5; exact e5
    refine ⟨g6, ?_, f1, f2⟩
    refine zsem_eq (Nat.le_of_ble_eq_true rfl) (zTo_of gX6_writeDoor_0 ?_)
    simp only [c.1.1, r_isDoor c.1 c.2.1 h1 hd, p1_t c.1, i10, c1.1.1, ← hk0, c2.1.1, v0, e1, c3.1.1, v4, ow, zmp_s, zlt_s, zcV_s, zcI_s, zcJ_s, zcA_s, zcD_s, zcF_s, zth_n, zth_t, zrt_s, zQ_l, zQ_r, false_or, or_false, true_or, or_true, false_and, and_false, not_false_eq_true, not_true_eq_false, and_self, true_and, and_true, if_true, if_false, ite_true, ite_false, zgd_t]
    rcases ow2 with o | o
    · by_cases q : N (51 + 5 * d) = 1
      · simp only [o, show ¬ 0 = 1 by omega, e2a o, c4.1.1, v1, e3, c5.1.1, v2, kz, kk, e4', c6.1.1, v2b, k1, eq_true q, e5a q, c7.1.1, v3, e6, c8.1.1, W6.2.2.1, zmp_s, zlt_s, zcV_s, zcI_s, zcJ_s, zcA_s, zcD_s, zcF_s, zth_n, zth_t, zrt_s, zQ_l, zQ_r, false_or, or_false, true_or, or_true, false_and, and_false, not_false_eq_true, not_true_eq_false, and_self, true_and, and_true, if_true, if_false, ite_true, ite_false, zgd_t]
      · simp only [o, show ¬ 0 = 1 by omega, e2a o, c4.1.1, v1, e3, c5.1.1, v2, kz, kk, e4', c6.1.1, v2b, k1, q, e5b q, c7.1.1, v3, e6, c8.1.1, W6.2.2.1, zmp_s, zlt_s, zcV_s, zcI_s, zcJ_s, zcA_s, zcD_s, zcF_s, zth_n, zth_t, zrt_s, zQ_l, zQ_r, false_or, or_false, true_or, or_true, false_and, and_false, not_false_eq_true, not_true_eq_false, and_self, true_and, and_true, if_true, if_false, ite_true, ite_false, zgd_t]
    · by_cases q : N (51 + 5 * d) = 1
      · simp only [o, e2b o, c4.1.1, v1, e3, c5.1.1, v2, kz, kk, e4', c6.1.1, v2b, k1, eq_true q, e5a q, c7.1.1, v3, e6, c8.1.1, W6.2.2.1, zmp_s, zlt_s, zcV_s, zcI_s, zcJ_s, zcA_s, zcD_s, zcF_s, zth_n, zth_t, zrt_s, zQ_l, zQ_r, false_or, or_false, true_or, or_true, false_and, and_false, not_false_eq_true, not_true_eq_false, and_self, true_and, and_true, if_true, if_false, ite_true, ite_false, zgd_t]
      · simp only [o, e2b o, c4.1.1, v1, e3, c5.1.1, v2, kz, kk, e4', c6.1.1, v2b, k1, q, e5b q, c7.1.1, v3, e6, c8.1.1, W6.2.2.1, zmp_s, zlt_s, zcV_s, zcI_s, zcJ_s, zcA_s, zcD_s, zcF_s, zth_n, zth_t, zrt_s, zQ_l, zQ_r, false_or, or_false, true_or, or_true, false_and, and_false, not_false_eq_true, not_true_eq_false, and_self, true_and, and_true, if_true, if_false, ite_true, ite_false, zgd_t]
theorem r_writeDoorX {x : Int32} (c : MI h N) (hx : x < 0 ∨ nI (N 1) ≤ x) : MR (sX6_writeDoor [.ref 125, .int x] h) (some (.int 0)) 1 (MZ N h) := by
  refine ⟨zsI h 125 0 1, ?_, MZ.th c 1, th_0⟩
  refine zsem_eq (Nat.le_of_ble_eq_true rfl) (zTo_of gX6_writeDoor_0 ?_)
  simp only [c.1.1, r_isDoorX c.1 c.2.1 c.2.2.1.2.1 hx, p1_f c.1, zmp_s, zlt_s, zcV_s, zcI_s, zcJ_s, zcA_s, zcD_s, zcF_s, zth_n, zth_t, zrt_s, zQ_l, zQ_r, false_or, or_false, true_or, or_true, false_and, and_false, not_false_eq_true, not_true_eq_false, and_self, true_and, and_true, if_true, if_false, ite_true, ite_false, zgd_t]
end
-- names
theorem pk27_inj : ∀ f c d, c < 27 ^ f → d < 27 ^ f → pk27 f c = pk27 f d → c = d := by
  intro f
  induction f with
  | zero => intro c d hc hd _; rw [Nat.pow_zero] at hc hd; omega
  | succ f ih =>
    intro c d hc hd e
    rw [pk27, pk27] at e
    rw [Nat.pow_succ] at hc hd
    by_cases c0 : c = 0
    · by_cases d0 : d = 0
      · omega
      · rw [if_pos c0, if_neg d0] at e; omega
    · by_cases d0 : d = 0
      · rw [if_neg c0, if_pos d0] at e; omega
      · rw [if_neg c0, if_neg d0] at e
        have e1 : c % 27 = d % 27 := by omega
        have e2 : pk27 f (c / 27) = pk27 f (d / 27) := by omega
        have := ih (c / 27) (d / 27) (by omega) (by omega) e2
        omega
theorem pkn_inj {c d : Nat} (hc : c < 27 ^ 6) (hd : d < 27 ^ 6) (e : pkn c = pkn d) : c = d := by
  have l : (27 : Nat) ^ 6 ≤ 27 ^ 7 := Nat.pow_le_pow_right (by omega) (by omega)
  exact pk27_inj 7 c d (by omega) (by omega) e
theorem pkn_0 {c : Nat} (hc : c < 27 ^ 6) : (pkn c = 0) = (c = 0) := by
  refine propext ⟨fun e => pkn_inj hc (by decide) e, fun e => by rw [e]; rfl⟩
/-- the code of n letters from place a -/
def nmd (xs : List Int32) (a : Nat) : Nat → Nat
  | 0 => 0
  | k + 1 => nmd xs a k * 27 + ((xs.getD (a + k) 0).toNatClampNeg - 96)
def LT (xs : List Int32) (a n : Nat) : Prop := ∀ i, i < n → ∃ k, 97 ≤ k ∧ k ≤ 122 ∧ xs.getD (a + i) 0 = nI k
theorem nmd_lt {xs : List Int32} {a : Nat} : ∀ n, LT xs a n → nmd xs a n < 27 ^ n ∧ (0 < n → 0 < nmd xs a n) := by
  intro n
  induction n with
  | zero => intro _; exact ⟨Nat.one_pos, fun x => absurd x (Nat.lt_irrefl 0)⟩
  | succ n ih =>
    intro L
    obtain ⟨i1, i2⟩ := ih (fun i hi => L i (by omega))
    obtain ⟨k, k1, k2, e⟩ := L n (by omega)
    rw [nmd, e, nI_clamp (by omega), Nat.pow_succ]
    constructor
    · omega
    · intro _; omega
theorem sx_az : ∀ k, k < 256 → (decide ((97 : Int64) ≤ (sx (nI k)).toInt64) && decide ((sx (nI k)).toInt64 ≤ (122 : Int64))) = (decide (97 ≤ k) && decide (k ≤ 122)) := by decide +kernel
section
variable {h : zm_H}
theorem r_nameOf {xs : List Int32} {a n : Nat} (hk : zK h 134 = (2, 500)) (B : MBr h xs) (hx : xs.length ≤ 500) (hn : a + n ≤ xs.length) (hn6 : n ≤ 6) (L : LT xs a n) : sX6_nameOf [.ref 134, .int (nI a), .int (nI (a + n))] h = some (.inl (some (.int (nI (nmd xs a n)))), h) := by
  refine zsem_eq (Nat.le_of_ble_eq_true rfl) (zTo_of gX6_nameOf_0 ?_)
  have key : ∀ d k, k + d = n → zTo vX6_nameOf rX6_nameOf (4, [some (.ref 134), none, some (.int (nI (a + n))), some (.int (nI (nmd xs a k))), some (.int (nI (a + k)))], [], h) (fun y => y = (.inl (some (.int (nI (nmd xs a n)))), h)) := by
    intro d
    induction d with
    | zero =>
      intro k hk2
      have hk2 : k = n := by omega
      subst hk2
      refine zTo_of gX6_nameOf_4 ?_
      simp only [nI_le (Nat.le_refl _) (show a + k < 2 ^ 31 by omega), zmp_s, zlt_s, zcV_s, zcI_s, zcJ_s, zcA_s, zcD_s, zcF_s, zth_n, zth_t, zrt_s, zQ_l, zQ_r, false_or, or_false, true_or, or_true, false_and, and_false, not_false_eq_true, not_true_eq_false, and_self, true_and, and_true, if_true, if_false, ite_true, ite_false]
    | succ d ih =>
      intro k hk2
      have f1 : (nI (a + n) ≤ nI (a + k)) = False := eq_false (nI_ge (by omega) (by omega))
      obtain ⟨b, b1, b2, e⟩ := L k (by omega)
      have bv := B (a + k) (by omega)
      rw [e, sx_lo b (by omega)] at bv
      have nl := (nmd_lt k (fun i hi => L i (by omega))).1
      have p6 : 27 ^ k ≤ 27 ^ 6 := Nat.pow_le_pow_right (by omega) (by omega)
      have pe : (27 : Nat) ^ 6 = 387420489 := by decide
      have e2 : (27 : Int32) * nI (nmd xs a k) + nI b - (96 : Int32) = nI (nmd xs a (k + 1)) := by
        have h1 : (27 : Int32) * nI (nmd xs a k) = nI (27 * nmd xs a k) := pk_mul 27 _
        have h2 : nI (27 * nmd xs a k) + nI b = nI (27 * nmd xs a k + b) := nI_add _ _
        have h3 : nI (27 * nmd xs a k + b) - (96 : Int32) = nI (27 * nmd xs a k + b - 96) := pk_sub (b := 96) (by omega)
        rw [h1, h2, h3, nmd, e, nI_clamp (by omega)]
        congr 1; omega
      have nx := ih (k + 1) (by omega)
      rw [show a + (k + 1) = a + k + 1 by omega] at nx
      refine zTo_of gX6_nameOf_4 ?_
      simp only [f1, hk, nI_clamp (show a + k < 2 ^ 31 by omega), nI_lt0 (show a + k < 2 ^ 31 by omega), show ¬ 500 ≤ a + k by omega, bv, e2, nI_1, zmp_s, zlt_s, zcV_s, zcI_s, zcJ_s, zcA_s, zcD_s, zcF_s, zth_n, zth_t, zrt_s, zQ_l, zQ_r, false_or, or_false, true_or, or_true, false_and, and_false, not_false_eq_true, not_true_eq_false, and_self, true_and, and_true, if_true, if_false, ite_true, ite_false, zgd_t]
      exact nx
  exact key n 0 (by omega)
/-- the room with a name's code -/
def nRn (N : zLv) (c : Nat) : Option Nat := if c = 0 then none else nfind (fun r => decide (N (18 + 3 * r) = c)) (N 0)
theorem nRn_lt {N : zLv} {c r : Nat} (e : nRn N c = some r) : r < N 0 := by
  unfold nRn at e
  split at e
  · cases e
  · exact (nfind_lt e).1
theorem r_roomNamed {N : zLv} {q c : Nat} (m0 : moS h q) (mL : ML h q N) (h0 : N 0 ≤ 11) (hn : ∀ r, r < N 0 → N (18 + 3 * r) < 27 ^ 6) (hc : c < 27 ^ 6) : sX6_roomNamed [.ref 125, .int (nI c)] h = some (.inl (some (.int (oI (nRn N c)))), h) := by
  have pe : (27 : Nat) ^ 6 = 387420489 := by decide
  have rr := r_rooms m0 mL
  have le0 : (nI c ≤ (0 : Int32)) = (c = 0) := by
    rw [show (0 : Int32) = nI 0 from rfl, propext (nI_leI (by omega) (by omega))]
    apply propext; omega
  refine zsem_eq (Nat.le_of_ble_eq_true rfl) (zTo_of gX6_roomNamed_0 ?_)
  have key : ∀ d k, k + d = N 0 → (c ≠ 0 → ∀ j, j < k → decide (N (18 + 3 * j) = c) = false) → zTo vX6_roomNamed rX6_roomNamed (2, [some (.ref 125), some (.int (nI c)), some (.int (nI k))], [], h) (fun y => y = (.inl (some (.int (oI (nRn N c)))), h)) := by
    intro d
    induction d with
    | zero =>
      intro k hk hno
      have hk : k = N 0 := by omega
      refine zTo_of gX6_roomNamed_2 ?_
      simp only [m0.1, rr, hk, nI_le (Nat.le_refl _) (show N 0 < 2 ^ 31 by omega), zmp_s, zlt_s, zcV_s, zcI_s, zcJ_s, zcA_s, zcD_s, zcF_s, zth_n, zth_t, zrt_s, zQ_l, zQ_r, false_or, or_false, true_or, or_true, false_and, and_false, not_false_eq_true, not_true_eq_false, and_self, true_and, and_true, if_true, if_false, ite_true, ite_false, zgd_t]
      unfold nRn
      by_cases z : c = 0
      · rw [if_pos z]; rfl
      · rw [if_neg z, nfind_none.mpr (by rw [← hk]; exact hno z)]; rfl
    | succ d ih =>
      intro k hk hno
      obtain ⟨f1, f2, f3, f4⟩ := nI_for (show k < N 0 by omega) (by omega)
      have hl := hn k (by omega)
      refine zTo_of gX6_roomNamed_2 ?_
      simp only [m0.1, rr, f1, f4, le0, r_ofRoom2 m0 mL (show k < 11 by omega), nI_eq (show N (18 + 3 * k) < 2 ^ 31 by omega) (show c < 2 ^ 31 by omega), zmp_s, zlt_s, zcV_s, zcI_s, zcJ_s, zcA_s, zcD_s, zcF_s, zth_n, zth_t, zrt_s, zQ_l, zQ_r, false_or, or_false, true_or, or_true, false_and, and_false, not_false_eq_true, not_true_eq_false, and_self, true_and, and_true, if_true, if_false, ite_true, ite_false, zgd_t]
      by_cases z : c = 0
      · simp only [z, false_or, or_false, true_or, or_true, false_and, and_false, not_false_eq_true, not_true_eq_false, and_self, true_and, and_true, if_true, if_false, ite_true, ite_false, zmp_s, zlt_s, zcV_s, zcI_s, zcJ_s, zcA_s, zcD_s, zcF_s, zth_n, zth_t, zrt_s, zQ_l, zQ_r]
        have := ih (k + 1) (by omega) (fun x => absurd z x)
        rw [z] at this
        exact this
      · simp only [z, false_or, or_false, true_or, or_true, false_and, and_false, not_false_eq_true, not_true_eq_false, and_self, true_and, and_true, if_true, if_false, ite_true, ite_false, zmp_s, zlt_s, zcV_s, zcI_s, zcJ_s, zcA_s, zcD_s, zcF_s, zth_n, zth_t, zrt_s, zQ_l, zQ_r]
        by_cases e : N (18 + 3 * k) = c
        · simp only [e, false_or, or_false, true_or, or_true, false_and, and_false, not_false_eq_true, not_true_eq_false, and_self, true_and, and_true, if_true, if_false, ite_true, ite_false, zmp_s, zlt_s, zcV_s, zcI_s, zcJ_s, zcA_s, zcD_s, zcF_s, zth_n, zth_t, zrt_s, zQ_l, zQ_r]
          have hf : nRn N c = some k := by
            unfold nRn
            rw [if_neg z]
            exact nfind_some.mpr ⟨by omega, decide_eq_true e, hno z⟩
          rw [hf]; rfl
        · simp only [e, false_or, or_false, true_or, or_true, false_and, and_false, not_false_eq_true, not_true_eq_false, and_self, true_and, and_true, if_true, if_false, ite_true, ite_false, zmp_s, zlt_s, zcV_s, zcI_s, zcJ_s, zcA_s, zcD_s, zcF_s, zth_n, zth_t, zrt_s, zQ_l, zQ_r]
          refine ih (k + 1) (by omega) (fun _ j hj => ?_)
          by_cases w : j = k
          · rw [w]; exact decide_eq_false e
          · exact hno z j (by omega)
  exact key (N 0) 0 (by omega) (fun _ j hj => by omega)
/-- all letters: the codes are the same -/
theorem nmc_nmd {xs : List Int32} (hb : BY xs) : ∀ k, k ≤ xs.length → ((nmc xs k).isSome = true ↔ LT xs 0 k) := by
  intro k
  induction k with
  | zero => intro _; exact ⟨fun _ i hi => absurd hi (Nat.not_lt_zero i), fun _ => rfl⟩
  | succ k ih =>
    intro hk
    have ih := ih (by omega)
    obtain ⟨b, bl, be⟩ := hb k (by omega)
    have l97 : (xs.getD k 0 < 97) = (b < 97) := by rw [be]; exact propext (nI_ltI (b := 97) (by omega) (by omega))
    have l122 : (xs.getD k 0 ≤ 122) = (b ≤ 122) := by rw [be]; exact propext (nI_leI (b := 122) (by omega) (by omega))
    constructor
    · intro hs i hi
      rw [nmc] at hs
      cases q : nmc xs k with
      | none => rw [q] at hs; cases hs
      | some c =>
        rw [q] at hs
        have L := ih.mp (by rw [q]; rfl)
        by_cases e : i = k
        · subst e
          by_cases a : b < 97
          · simp only [l97, a, if_true] at hs
            cases hs
          · by_cases a2 : b ≤ 122
            · exact ⟨b, by omega, a2, by rw [Nat.zero_add]; exact be⟩
            · simp only [l97, a, l122, a2, if_false] at hs
              cases hs
        · exact L i (by omega)
    · intro L
      have := ih.mpr (fun i hi => L i (by omega))
      obtain ⟨c, q⟩ := Option.isSome_iff_exists.mp this
      obtain ⟨b2, h1, h2, e2⟩ := L k (by omega)
      rw [Nat.zero_add, be] at e2
      have eb : b = b2 := (nI_eq (by omega) (by omega)).mp e2
      rw [nmc, q]
      simp only [l97, l122, show ¬ b < 97 by omega, show b ≤ 122 by omega, if_true, if_false]
      rfl
theorem nmc_val {xs : List Int32} : ∀ k c, nmc xs k = some c → c = nmd xs 0 k := by
  intro k
  induction k with
  | zero => intro c h; cases h; rfl
  | succ k ih =>
    intro c hc
    rw [nmc] at hc
    cases q : nmc xs k with
    | none => rw [q] at hc; cases hc
    | some d =>
      rw [q] at hc
      have e := ih d q
      by_cases a : xs.getD k 0 < 97
      · simp only [a, if_true] at hc; cases hc
      · by_cases b : xs.getD k 0 ≤ 122
        · simp only [a, b, if_true, if_false] at hc
          cases hc
          rw [nmd, Nat.zero_add, e]
        · simp only [a, b, if_false] at hc; cases hc
/-- what the class finds is what the model finds -/
theorem nFd_eq {N : zLv} {xs : List Int32} (hn : ∀ r, r < N 0 → N (18 + 3 * r) < 27 ^ 6) (hb : BY xs) : nFd N xs = oI (nRn N (if 6 < xs.length then 0 else if (nmc xs xs.length).isSome = true then nmd xs 0 xs.length else 0)) := by
  unfold nFd nmw
  by_cases w : 6 < xs.length
  · rw [if_pos w, if_pos w, if_pos rfl]; unfold nRn; rw [if_pos rfl]; rfl
  · rw [if_neg w, if_neg w]
    cases q : nmc xs xs.length with
    | none => simp only [Option.isSome_none, Bool.false_eq_true, if_false, if_true]; unfold nRn; rw [if_pos rfl]; rfl
    | some c =>
      have ev := nmc_val _ _ q
      have L := (nmc_nmd hb xs.length (Nat.le_refl _)).mp (by rw [q]; rfl)
      have lt := (nmd_lt xs.length L).1
      have p6 : 27 ^ xs.length ≤ 27 ^ 6 := Nat.pow_le_pow_right (by omega) (by omega)
      have cl : c < 27 ^ 6 := by omega
      simp only [Option.isSome_some, if_true]
      have p0 := pkn_0 cl
      rw [← ev]
      unfold nRn
      by_cases z : c = 0
      · rw [if_pos (p0.mpr z), if_pos z]; rfl
      · rw [if_neg (fun w => z (p0.mp w)), if_neg z]
        congr 1
        have : ∀ n, n ≤ N 0 → nfind (fun r => decide (pkn (N (18 + 3 * r)) = pkn c)) n = nfind (fun r => decide (N (18 + 3 * r) = c)) n := by
          intro n
          induction n with
          | zero => intro _; rfl
          | succ n ih =>
            intro hl
            have ih := ih (by omega)
            have e : decide (pkn (N (18 + 3 * n)) = pkn c) = decide (N (18 + 3 * n) = c) := by
              by_cases e2 : N (18 + 3 * n) = c
              · simp [e2]
              · have : ¬ pkn (N (18 + 3 * n)) = pkn c := fun x => e2 (pkn_inj (hn n (by omega)) cl x)
                simp [e2, this]
            rw [nfind, nfind, ih]
            simp only [e]
        exact this (N 0) (Nat.le_refl _)
theorem r_find {N : zLv} {xs : List Int32} (c : MI h N) (B : MB h xs) (hb : BY xs) : MR (sX6_find [.ref 125] h) (some (.int (nFd N xs))) 0 (MJ h []) := by
  have hF := c.2.2
  have h0 := hF.1.1
  have hnm := hF.2.2.2.2.2.2.2.2
  have hx := B.2.1
  obtain ⟨k0, hk0⟩ : ∃ k0, k0 = zsI h 125 0 (0 : Int32) := ⟨_, rfl⟩
  have c1 := c.go (MZ.th c 0)
  rw [← hk0] at c1
  have fr0 : zFr (fun q => q = 125) h k0 := by rw [hk0]; exact zFr.sI rfl
  have l11 : zI k0 125 11 = nI xs.length := by rw [hk0, I_sIs, zput_ne _ _ (by omega)]; exact B.1
  have B0 : MBr k0 xs := fun i hi => by rw [fr0.I (by omega)]; exact B.2.2 i hi
  obtain ⟨k1, hk1⟩ : ∃ k1, k1 = zsI k0 125 11 (0 : Int32) := ⟨_, rfl⟩
  have fr1 : zFr (fun q => q = 125) k0 k1 := by rw [hk1]; exact zFr.sI rfl
  have m1 := moS_fr fr1 c1.1
  have mL1 := ML_fr fr1 (by omega) c1.2.1
  have fin : MJ h [] k1 ∧ zI k1 125 0 = 0 := by
    refine ⟨⟨(fr0.tr fr1).mono (fun q hq => Or.inl hq), fun j h0 h11 => by rw [hk1, I_sIs, zput_ne _ _ h11, hk0, I_sIs, zput_ne _ _ h0], by rw [hk1, I_sIs, zput_self]; rfl, by show 0 ≤ 500; omega, fun i hi => absurd hi (Nat.not_lt_zero i)⟩, by rw [hk1, I_sIs, zput_ne _ _ (by omega), hk0, th_0]⟩
  rw [nFd_eq hnm hb]
  refine ⟨k1, ?_, fin.1, fin.2⟩
  have in6 : sX6_in [.long (nI xs.length).toInt64, .long (1 : Int64), .long (6 : Int64)] k0 = some (.inl (some (.int (zb (decide (1 ≤ xs.length) && decide (xs.length ≤ 6))))), k0) := by
    rw [in_G, nI_l (by omega)]
    have e1 : ((1 : Int64) ≤ lN xs.length) = (1 ≤ xs.length) := propext (pk_lLE (a := 1) (by omega) (by omega))
    have e2 : (lN xs.length ≤ (6 : Int64)) = (xs.length ≤ 6) := propext (pk_lLE (b := 6) (by omega) (by omega))
    simp only [e1, e2]
  have m0' := c1.1
  have k10 := m0'.2.2.2.2.2.2.2.2.2.2.2.1
  have n134 := m0'.2.2.2.2.2.2.2.2.2.2.2.2.2.2.2.2.2.2.2.2.2.2.2.2.1
  -- an end with no name
  have none0 : nRn N 0 = none := by unfold nRn; rw [if_pos rfl]
  have rn0 := r_roomNamed (c := 0) m1 mL1 h0 hnm (by decide)
  rw [none0, nI_0] at rn0
  refine zsem_eq (Nat.le_of_ble_eq_true rfl) (zTo_of gX6_find_0 ?_)
  simp only [c.1.1, ← hk0, m0'.1, l11, in6, zmp_s, zlt_s, zcV_s, zcI_s, zcJ_s, zcA_s, zcD_s, zcF_s, zth_n, zth_t, zrt_s, zQ_l, zQ_r, false_or, or_false, true_or, or_true, false_and, and_false, not_false_eq_true, not_true_eq_false, and_self, true_and, and_true, if_true, if_false, ite_true, ite_false, zgd_t]
  by_cases bad : ¬ (1 ≤ xs.length ∧ xs.length ≤ 6)
  · have e : (decide (1 ≤ xs.length) && decide (xs.length ≤ 6)) = false := by
      by_cases q1 : 1 ≤ xs.length
      · have : ¬ xs.length ≤ 6 := fun x => bad ⟨q1, x⟩
        simp [this]
      · simp [q1]
    rw [e, zb_f]
    have ev : nRn N (if 6 < xs.length then 0 else if (nmc xs xs.length).isSome = true then nmd xs 0 xs.length else 0) = none := by
      by_cases q1 : 1 ≤ xs.length
      · rw [if_pos (by omega)]; exact none0
      · have : xs.length = 0 := by omega
        rw [if_neg (by omega), this]
        show nRn N 0 = none
        exact none0
    rw [ev]
    refine zTo_of gX6_find_12 ?_
    have le : (nI xs.length ≤ (0 : Int32)) = (xs.length ≤ 0) := propext (nI_leI (b := 0) (by omega) (by omega))
    simp only [m0'.1, l11, le, ← hk1, m1.1, rn0, zmp_s, zlt_s, zcV_s, zcI_s, zcJ_s, zcA_s, zcD_s, zcF_s, zth_n, zth_t, zrt_s, zQ_l, zQ_r, false_or, or_false, true_or, or_true, false_and, and_false, not_false_eq_true, not_true_eq_false, and_self, true_and, and_true, if_true, if_false, ite_true, ite_false, zgd_t, ite_self]
  · have ok : 1 ≤ xs.length ∧ xs.length ≤ 6 := Classical.byContradiction bad
    have e : (decide (1 ≤ xs.length) && decide (xs.length ≤ 6)) = true := by simp [ok.1, ok.2]
    rw [e, zb_t, if_neg (by omega)]
    have loop : ∀ d k, k + d = xs.length → LT xs 0 k → zTo vX6_find rX6_find (12, [some (.ref 125), some (.int 1), some (.int (nI k))], [], k0) (fun y => y = (.inl (some (.int (oI (nRn N (if (nmc xs xs.length).isSome = true then nmd xs 0 xs.length else 0))))), k1)) := by
      intro d
      induction d with
      | zero =>
        intro k hk L
        have hk : k = xs.length := by omega
        subst hk
        have some1 := (nmc_nmd hb xs.length (Nat.le_refl _)).mpr L
        have nl := (nmd_lt xs.length L).1
        have p6 : 27 ^ xs.length ≤ 27 ^ 6 := Nat.pow_le_pow_right (by omega) (by omega)
        rw [if_pos some1]
        have no := r_nameOf (a := 0) n134 B0 hx (by omega) ok.2 L
        rw [Nat.zero_add, nI_0] at no
        have rn := r_roomNamed (c := nmd xs 0 xs.length) m1 mL1 h0 hnm (by omega)
        refine zTo_of gX6_find_12 ?_
        simp only [m0'.1, l11, nI_le (Nat.le_refl _) (show xs.length < 2 ^ 31 by omega), i10, k10, no, ← hk1, m1.1, rn, zmp_s, zlt_s, zcV_s, zcI_s, zcJ_s, zcA_s, zcD_s, zcF_s, zth_n, zth_t, zrt_s, zQ_l, zQ_r, false_or, or_false, true_or, or_true, false_and, and_false, not_false_eq_true, not_true_eq_false, and_self, true_and, and_true, if_true, if_false, ite_true, ite_false, zgd_t]
      | succ d ih =>
        intro k hk L
        have hkl : k < xs.length := by omega
        obtain ⟨f1, f2, f3, f4⟩ := nI_for hkl (by omega)
        obtain ⟨b, bl, be⟩ := hb k hkl
        have bv := B0 k hkl
        rw [be] at bv
        have ib : sX6_in [.long (sx (nI b)).toInt64, .long (97 : Int64), .long (122 : Int64)] k0 = some (.inl (some (.int (zb (decide (97 ≤ b) && decide (b ≤ 122))))), k0) := by rw [in_G, sx_az b bl]
        refine zTo_of gX6_find_12 ?_
        simp only [m0'.1, l11, f1, i10, k10, n134, f2, f3, f4, show ¬ 500 ≤ k by omega, bv, ib, zmp_s, zlt_s, zcV_s, zcI_s, zcJ_s, zcA_s, zcD_s, zcF_s, zth_n, zth_t, zrt_s, zQ_l, zQ_r, false_or, or_false, true_or, or_true, false_and, and_false, not_false_eq_true, not_true_eq_false, and_self, true_and, and_true, if_true, if_false, ite_true, ite_false, zgd_t]
        by_cases az : 97 ≤ b ∧ b ≤ 122
        · have ee : (decide (97 ≤ b) && decide (b ≤ 122)) = true := by simp [az.1, az.2]
          rw [ee, zb_t]
          refine ih (k + 1) (by omega) (fun i hi => ?_)
          by_cases w : i = k
          · rw [w]; exact ⟨b, az.1, az.2, by rw [Nat.zero_add]; exact be⟩
          · exact L i (by omega)
        · have ee : (decide (97 ≤ b) && decide (b ≤ 122)) = false := by
            by_cases q1 : 97 ≤ b
            · have : ¬ b ≤ 122 := fun x => az ⟨q1, x⟩
              simp [this]
            · simp [q1]
          rw [ee, zb_f]
          have nos : ¬ (nmc xs xs.length).isSome = true := fun s => by
            have L2 := (nmc_nmd hb xs.length (Nat.le_refl _)).mp s
            obtain ⟨b2, h1, h2, e2⟩ := L2 k hkl
            rw [Nat.zero_add, be] at e2
            have : b = b2 := (nI_eq (by omega) (by omega)).mp e2
            omega
          rw [if_neg nos, none0]
          refine zTo_of gX6_find_12 ?_
          simp only [m0'.1, l11, ← hk1, m1.1, rn0, zmp_s, zlt_s, zcV_s, zcI_s, zcJ_s, zcA_s, zcD_s, zcF_s, zth_n, zth_t, zrt_s, zQ_l, zQ_r, false_or, or_false, true_or, or_true, false_and, and_false, not_false_eq_true, not_true_eq_false, and_self, true_and, and_true, if_true, if_false, ite_true, ite_false, zgd_t, ite_self]
    exact loop xs.length 0 (by omega) (fun i hi => absurd hi (Nat.not_lt_zero i))
end
end ZMT
