/-! THE MODEL: its text's tokens. -/
section ZQA
/-- the text that the model reads -/
def MX (h : zm_H) (xs : List Int32) : Prop := zI h 125 12 = nI xs.length ∧ xs.length ≤ 500 ∧ MBr h xs ∧ BY xs
/-- the token at s -/
def MT (h : zm_H) (xs : List Int32) (s : Nat) : Prop := zI h 125 13 = nI (tkE xs s) ∧ zI h 125 14 = nI s ∧ zI h 125 15 = nI (ty xs s) ∧ (ty xs s = 3 → zI h 125 16 = nI (bv xs s)) ∧ (ty xs s = 2 → zI h 125 16 = nI (vb 9999 xs s (tkL xs s))) ∧ ty xs s ≠ 4 ∧ s ≤ xs.length
/-- the scanner's changes -/
def SC (h g : zm_H) : Prop := zFr (fun c => c = 125) h g ∧ ∀ j, (j < 13 ∨ 16 < j) → zI g 125 j = zI h 125 j
theorem SC.tr {h g k : zm_H} (a : SC h g) (b : SC g k) : SC h k := ⟨a.1.tr b.1, fun j hj => (b.2 j hj).trans (a.2 j hj)⟩
theorem SC.s {h g : zm_H} {j : Nat} {x : Int32} (a : SC h g) (hj : 13 ≤ j ∧ j ≤ 16) : SC h (zsI g 125 j x) := ⟨a.1.tr (zFr.sI rfl), fun i hi => by rw [I_sIs, zput_ne _ _ (by omega)]; exact a.2 i hi⟩
theorem MX_sc {h g : zm_H} {xs : List Int32} (a : SC h g) (X : MX h xs) : MX g xs := ⟨by rw [a.2 12 (by omega)]; exact X.1, X.2.1, fun i hi => by rw [a.1.I (by omega)]; exact X.2.2.1 i hi, X.2.2.2⟩
/-- a byte read, none at the end -/
def bt (xs : List Int32) (i : Nat) : Int32 := if i < xs.length then nI (bv xs i) else -1
theorem bt_z : ∀ b, b < 256 → ((nI b = 32) = (b = 32)) ∧ ((nI b = 10) = (b = 10)) ∧ ((nI b = -1) = False) ∧ (decide ((97 : Int64) ≤ (nI b).toInt64) && decide ((nI b).toInt64 ≤ (122 : Int64))) = decide (btk b = 1) ∧ (btk b ≠ 1 → (decide ((48 : Int64) ≤ (nI b).toInt64) && decide ((nI b).toInt64 ≤ (57 : Int64))) = decide (btk b = 2)) := by
  intro b hb
  refine ⟨propext (nI_eq (b := 32) (by omega) (by omega)), propext (nI_eq (b := 10) (by omega) (by omega)), eq_false (fun e => ?_), ?_, ?_⟩
  · have := nI_m1f (r := b) (by omega)
    rw [this] at e; exact e
  · revert b; decide +kernel
  · revert b; decide +kernel
section
variable {h : zm_H} {xs : List Int32} {s : Nat}
theorem bt_4 (hb : BY xs) (i : Nat) : (bt xs i = 32 ∨ bt xs i = 10) ↔ ty xs i = 4 := by
  unfold bt ty
  by_cases w : i < xs.length
  · rw [if_pos w, if_pos w]
    obtain ⟨z1, z2, -⟩ := bt_z _ (hb.at w).2
    rw [z1, z2]
    unfold btk
    constructor
    · intro e; rw [if_pos e]
    · intro e
      refine Classical.byContradiction (fun n => ?_)
      rw [if_neg n] at e
      split at e
      · omega
      · split at e <;> omega
  · rw [if_neg w, if_neg w]
    constructor
    · intro e; rcases e with e | e <;> exact absurd e (by decide)
    · intro e; omega
theorem bt_0 (hb : BY xs) (i : Nat) : (bt xs i = -1) = (ty xs i = 0) := by
  apply propext
  rw [ty_0]
  unfold bt
  by_cases w : i < xs.length
  · rw [if_pos w]
    obtain ⟨-, -, z, -⟩ := bt_z _ (hb.at w).2
    rw [z]
    exact ⟨fun x => x.elim, fun x => by omega⟩
  · rw [if_neg w]
    exact ⟨fun _ => by omega, fun _ => rfl⟩
theorem bt_1 (hb : BY xs) (i : Nat) (g : zm_H) : sX6_in [.long (bt xs i).toInt64, .long (97 : Int64), .long (122 : Int64)] g = some (.inl (some (.int (zb (decide (ty xs i = 1))))), g) := by
  rw [in_G]
  unfold bt ty
  by_cases w : i < xs.length
  · rw [if_pos w, if_pos w]
    rw [(bt_z _ (hb.at w).2).2.2.2.1]
  · rw [if_neg w, if_neg w]
    rfl
theorem bt_2 (hb : BY xs) (i : Nat) (h1 : ty xs i ≠ 1) (g : zm_H) : sX6_in [.long (bt xs i).toInt64, .long (48 : Int64), .long (57 : Int64)] g = some (.inl (some (.int (zb (decide (ty xs i = 2))))), g) := by
  rw [in_G]
  unfold ty at h1
  unfold bt ty
  by_cases w : i < xs.length
  · rw [if_pos w] at h1
    rw [if_pos w, if_pos w]
    rw [(bt_z _ (hb.at w).2).2.2.2.2 h1]
  · rw [if_neg w, if_neg w]
    rfl
theorem r_byteAt {q : Nat} (m0 : moS h q) (X : MX h xs) {i : Nat} (hi : i < 2 ^ 31) : sX6_byteAt [.ref 125, .int (nI i)] h = some (.inl (some (.int (bt xs i))), h) := by
  obtain ⟨x1, x2, x3, x4⟩ := X
  obtain ⟨t0, t3, tq, t1, t2, t4, t5, t6, t7, t8, t9, t10, t21, t22, t23, t25, n6, n7, n8, n9, n10, n11, n12, n13, n14, n15, n16, n17, n18⟩ := m0
  have le : (nI xs.length ≤ nI i) = (xs.length ≤ i) := propext (nI_leI (by omega) hi)
  refine zsem_eq (Nat.le_of_ble_eq_true rfl) (zTo_of gX6_byteAt_0 ?_)
  unfold bt
  by_cases w : i < xs.length
  · obtain ⟨b1, b2⟩ := x4.at w
    have v := x3 i w
    rw [b1] at v
    rw [if_pos w]
    simp only [t0, x1, le, show ¬ xs.length ≤ i by omega, t10, n14, nI_clamp hi, nI_lt0 hi, show ¬ 500 ≤ i by omega, v, sx_back _ b2, zmp_s, zlt_s, zcV_s, zcI_s, zcJ_s, zcA_s, zcD_s, zcF_s, zth_n, zth_t, zrt_s, zQ_l, zQ_r, false_or, or_false, true_or, or_true, false_and, and_false, not_false_eq_true, not_true_eq_false, and_self, true_and, and_true, if_true, if_false, ite_true, ite_false, zgd_t]
  · rw [if_neg w]
    simp only [t0, x1, le, show xs.length ≤ i by omega, zmp_s, zlt_s, zcV_s, zcI_s, zcJ_s, zcA_s, zcD_s, zcF_s, zth_n, zth_t, zrt_s, zQ_l, zQ_r, false_or, or_false, true_or, or_true, false_and, and_false, not_false_eq_true, not_true_eq_false, and_self, true_and, and_true, if_true, if_false, ite_true, ite_false, zgd_t]
/-- a word's letters go by -/
theorem r_letters {q : Nat} (m0 : moS h q) (X : MX h xs) (t1 : ty xs s = 1) (hs : s ≤ xs.length) : ∀ d k g, s + k + d = tkE xs s → SC h g → zI g 125 13 = nI (s + k) → zI g 125 14 = nI s → zTo vX6_scan rX6_scan (41, [some (.ref 125), none], [], g) (fun o => ∃ g, o = (.inl none, g) ∧ SC h g ∧ MT g xs s) := by
  have hE := tkE_hi hs
  have hE1 := (tkE_le xs s).1
  have e : tkE xs s = tep xs (ty xs s) s := by unfold tkE; rw [if_neg (by omega), if_neg (by omega)]
  intro d
  induction d with
  | zero =>
    intro k g hk fr f13 f14
    have hk : s + k = tkE xs s := by omega
    have m1 := moS_fr fr.1 m0
    have ba := r_byteAt m1 (MX_sc fr X) (i := s + k) (by have := X.2.1; omega)
    have ne : ty xs (s + k) ≠ 1 := by
      rw [hk, e, t1]
      exact tep_ty (by omega) _ _ rfl
    have i1 := bt_1 X.2.2.2 (s + k) g
    rw [decide_eq_false ne, zb_f] at i1
    have z1 := m1.1
    refine zTo_of gX6_scan_41 ?_
    simp only [z1, f13, ba, i1, zmp_s, zlt_s, zcV_s, zcI_s, zcJ_s, zcA_s, zcD_s, zcF_s, zth_n, zth_t, zrt_s, zQ_l, zQ_r, false_or, or_false, true_or, or_true, false_and, and_false, not_false_eq_true, not_true_eq_false, and_self, true_and, and_true, if_true, if_false, ite_true, ite_false, zgd_t]
    refine ⟨_, rfl, fr.s (by omega), ?_, ?_, ?_, fun x => absurd x (by omega), fun x => absurd x (by omega), by omega, hs⟩
    · rw [I_sIs, zput_ne _ _ (by omega), f13, hk]
    · rw [I_sIs, zput_ne _ _ (by omega), f14]
    · rw [I_sIs, zput_self, t1]; rfl
  | succ d ih =>
    intro k g hk fr f13 f14
    have m1 := moS_fr fr.1 m0
    have ba := r_byteAt m1 (MX_sc fr X) (i := s + k) (by have := X.2.1; omega)
    have t : ty xs (s + k) = 1 := by
      have := (tep_le xs (ty xs s) s).2 (s + k) (by omega) (by omega)
      rw [this]; exact t1
    have i1 := bt_1 X.2.2.2 (s + k) g
    rw [decide_eq_true t, zb_t] at i1
    have z1 := m1.1
    refine zTo_of gX6_scan_41 ?_
    simp only [z1, f13, ba, i1, i10, nI_1, zmp_s, zlt_s, zcV_s, zcI_s, zcJ_s, zcA_s, zcD_s, zcF_s, zth_n, zth_t, zrt_s, zQ_l, zQ_r, false_or, or_false, true_or, or_true, false_and, and_false, not_false_eq_true, not_true_eq_false, and_self, true_and, and_true, if_true, if_false, ite_true, ite_false, zgd_t]
    refine ih (k + 1) _ (by omega) (fr.s (by omega)) ?_ ?_
    · rw [I_sIs, zput_self]; rfl
    · rw [I_sIs, zput_ne _ _ (by omega), f14]
theorem r_digits {q : Nat} (m0 : moS h q) (X : MX h xs) (t2 : ty xs s = 2) (hs : s ≤ xs.length) : ∀ d k g, s + k + d = tkE xs s → SC h g → zI g 125 13 = nI (s + k) → zI g 125 14 = nI s → zI g 125 16 = nI (vb 9999 xs s k) → zTo vX6_scan rX6_scan (70, [some (.ref 125), none], [], g) (fun o => ∃ g, o = (.inl none, g) ∧ SC h g ∧ MT g xs s) := by
  have hE := tkE_hi hs
  have hE1 := (tkE_le xs s).1
  have e : tkE xs s = tep xs (ty xs s) s := by unfold tkE; rw [if_neg (by omega), if_neg (by omega)]
  intro d
  induction d with
  | zero =>
    intro k g hk fr f13 f14 f16
    have hk : s + k = tkE xs s := by omega
    have m1 := moS_fr fr.1 m0
    have ba := r_byteAt m1 (MX_sc fr X) (i := s + k) (by have := X.2.1; omega)
    have ne : ty xs (s + k) ≠ 2 := by
      rw [hk, e, t2]
      exact tep_ty (by omega) _ _ rfl
    have in2 : sX6_in [.long (bt xs (s + k)).toInt64, .long (48 : Int64), .long (57 : Int64)] g = some (.inl (some (.int 0)), g) := by
      by_cases n1 : ty xs (s + k) = 1
      · have r := ty_1 n1
        have hi := ty_in (show ty xs (s + k) ≠ 0 by omega)
        have b2 := (X.2.2.2.at hi).2
        rw [in_G]
        unfold bt
        rw [if_pos hi]
        have z : ∀ b, b < 256 → 97 ≤ b → (decide ((48 : Int64) ≤ (nI b).toInt64) && decide ((nI b).toInt64 ≤ (57 : Int64))) = false := by decide +kernel
        rw [z _ b2 r.1, zb_f]
      · have := bt_2 X.2.2.2 (s + k) n1 g
        rw [decide_eq_false ne, zb_f] at this
        exact this
    have z1 := m1.1
    refine zTo_of gX6_scan_70 ?_
    simp only [z1, f13, ba, in2, zmp_s, zlt_s, zcV_s, zcI_s, zcJ_s, zcA_s, zcD_s, zcF_s, zth_n, zth_t, zrt_s, zQ_l, zQ_r, false_or, or_false, true_or, or_true, false_and, and_false, not_false_eq_true, not_true_eq_false, and_self, true_and, and_true, if_true, if_false, ite_true, ite_false, zgd_t]
    have tl : tkL xs s = k := by unfold tkL; omega
    refine ⟨_, rfl, fr.s (by omega), ?_, ?_, ?_, fun x => absurd x (by omega), fun x => ?_, by omega, hs⟩
    · rw [I_sIs, zput_ne _ _ (by omega), f13, hk]
    · rw [I_sIs, zput_ne _ _ (by omega), f14]
    · rw [I_sIs, zput_self, t2]; rfl
    · rw [I_sIs, zput_ne _ _ (by omega), f16, tl]
  | succ d ih =>
    intro k g hk fr f13 f14 f16
    have m1 := moS_fr fr.1 m0
    have ba := r_byteAt m1 (MX_sc fr X) (i := s + k) (by have := X.2.1; omega)
    have t : ty xs (s + k) = 2 := by
      have := (tep_le xs (ty xs s) s).2 (s + k) (by omega) (by omega)
      rw [this]; exact t2
    have i1 := bt_2 X.2.2.2 (s + k) (by omega) g
    rw [decide_eq_true t, zb_t] at i1
    have z1 := m1.1
    have hi := ty_in (show ty xs (s + k) ≠ 0 by omega)
    obtain ⟨b1, b2⟩ := X.2.2.2.at hi
    have r := ty_2 t
    have btv : bt xs (s + k) = nI (bv xs (s + k)) := by unfold bt; rw [if_pos hi]
    have vl := vb_le 9999 xs s k
    have ev : (10 : Int32) * nI (vb 9999 xs s k) + nI (bv xs (s + k)) - (48 : Int32) = nI (10 * vb 9999 xs s k + (bv xs (s + k) - 48)) := by
      have h1 : (10 : Int32) * nI (vb 9999 xs s k) = nI (10 * vb 9999 xs s k) := pk_mul 10 _
      have h2 : nI (10 * vb 9999 xs s k) + nI (bv xs (s + k)) = nI (10 * vb 9999 xs s k + bv xs (s + k)) := nI_add _ _
      have h3 : nI (10 * vb 9999 xs s k + bv xs (s + k)) - (48 : Int32) = nI (10 * vb 9999 xs s k + bv xs (s + k) - 48) := pk_sub (b := 48) (by omega)
      rw [h1, h2, h3]; congr 1; omega
    have em : (if nI (10 * vb 9999 xs s k + (bv xs (s + k) - 48)) < (9999 : Int32) then nI (10 * vb 9999 xs s k + (bv xs (s + k) - 48)) else (9999 : Int32)) = nI (vb 9999 xs s (k + 1)) := by
      rw [vb]
      have l : (nI (10 * vb 9999 xs s k + (bv xs (s + k) - 48)) < (9999 : Int32)) = (10 * vb 9999 xs s k + (bv xs (s + k) - 48) < 9999) := propext (nI_ltI (b := 9999) (by omega) (by omega))
      have em2 : Nat.min 9999 (10 * vb 9999 xs s k + (bv xs (s + k) - 48)) = min 9999 (10 * vb 9999 xs s k + (bv xs (s + k) - 48)) := rfl
      rw [em2]
      by_cases w : 10 * vb 9999 xs s k + (bv xs (s + k) - 48) < 9999
      · rw [if_pos (l.mpr w), Nat.min_eq_right (by omega)]
      · rw [if_neg (fun x => w (l.mp x)), Nat.min_eq_left (by omega)]; rfl
    rw [btv] at ba i1
    refine zTo_of gX6_scan_70 ?_
    simp only [z1, f13, ba, i1, i10, f16, ev, em, K_sI, K_sJ, K_sD, K_sP, K_rI, K_rJ, P_sI, P_sJ, P_sD, P_rI, P_rJ, N_sI, N_sJ, N_sD, N_sP, N_rI, N_rJ, J_sI, J_sD, J_sP, J_rI, I_sJ, I_sD, I_sP, I_rJ, D_sI, D_sJ, D_sP, D_rI, D_rJ, I_sIs, zput_i, show ¬ (13 : Nat) = 16 by omega, f13, nI_1, zmp_s, zlt_s, zcV_s, zcI_s, zcJ_s, zcA_s, zcD_s, zcF_s, zth_n, zth_t, zrt_s, zQ_l, zQ_r, false_or, or_false, true_or, or_true, false_and, and_false, not_false_eq_true, not_true_eq_false, and_self, true_and, and_true, if_true, if_false, ite_true, ite_false, zgd_t]
    refine ih (k + 1) _ (by omega) ((fr.s (j := 16) (by omega)).s (j := 13) (by omega)) ?_ ?_ ?_
    · rw [I_sIs, zput_self]; rfl
    · rw [I_sIs, zput_ne _ _ (by omega), I_sIs, zput_ne _ _ (by omega), f14]
    · rw [I_sIs, zput_ne _ _ (by omega), I_sIs, zput_self]
theorem r_scan {q : Nat} (m0 : moS h q) (X : MX h xs) {e : Nat} (he : e ≤ xs.length) (h13 : zI h 125 13 = nI e) : ∃ g, sX6_scan [.ref 125] h = some (.inl none, g) ∧ SC h g ∧ MT g xs (skp xs e) := by
  have key : ∀ d e2 g, xs.length - e2 = d → e2 ≤ xs.length → skp xs e2 = skp xs e → SC h g → zI g 125 13 = nI e2 → zTo vX6_scan rX6_scan (0, [some (.ref 125), none], [], g) (fun o => ∃ g, o = (.inl none, g) ∧ SC h g ∧ MT g xs (skp xs e)) := by
    intro d
    induction d with
    | zero =>
      intro e2 g hd he2 hsk fr f13
      have m1 := moS_fr fr.1 m0
      have ba := r_byteAt m1 (MX_sc fr X) (i := e2) (by have := X.2.1; omega)
      have t0 : ty xs e2 = 0 := ty_0.mpr (by omega)
      have sk : skp xs e = e2 := by rw [← hsk]; exact skp_n (by omega)
      have n4 : ¬ (bt xs e2 = 32 ∨ bt xs e2 = 10) := fun x => by have := (bt_4 X.2.2.2 e2).mp x; omega
      have b32 : (bt xs e2 = 32) = False := eq_false (fun x => n4 (Or.inl x))
      have b10 : (bt xs e2 = 10) = False := eq_false (fun x => n4 (Or.inr x))
      have b0 : (bt xs e2 = -1) = True := by rw [bt_0 X.2.2.2]; exact eq_true t0
      have z1 := m1.1
      have fr2 : SC h (zsI g 125 14 (nI e2)) := fr.s (by omega)
      have m2 := moS_fr fr2.1 m0
      have ba2 := r_byteAt m2 (MX_sc fr2 X) (i := e2) (by have := X.2.1; omega)
      refine zTo_of gX6_scan_0 ?_
      simp only [z1, f13, ba, b32, b10, K_sI, K_sJ, K_sD, K_sP, K_rI, K_rJ, P_sI, P_sJ, P_sD, P_rI, P_rJ, N_sI, N_sJ, N_sD, N_sP, N_rI, N_rJ, J_sI, J_sD, J_sP, J_rI, I_sJ, I_sD, I_sP, I_rJ, D_sI, D_sJ, D_sP, D_rI, D_rJ, I_sIs, zput_i, show ¬ (13 : Nat) = 14 by omega, ba2, b0, zmp_s, zlt_s, zcV_s, zcI_s, zcJ_s, zcA_s, zcD_s, zcF_s, zth_n, zth_t, zrt_s, zQ_l, zQ_r, false_or, or_false, true_or, or_true, false_and, and_false, not_false_eq_true, not_true_eq_false, and_self, true_and, and_true, if_true, if_false, ite_true, ite_false, zgd_t]
      have te : tkE xs e2 = e2 := by unfold tkE; rw [if_pos t0]
      rw [sk]
      refine ⟨_, rfl, fr2.s (by omega), ?_, ?_, ?_, fun x => absurd x (by omega), fun x => absurd x (by omega), by omega, he2⟩
      · rw [I_sIs, zput_ne _ _ (by omega), I_sIs, zput_ne _ _ (by omega), f13, te]
      · rw [I_sIs, zput_ne _ _ (by omega), I_sIs, zput_self]
      · rw [I_sIs, zput_self, t0]; rfl
    | succ d ih =>
      intro e2 g hd he2 hsk fr f13
      have m1 := moS_fr fr.1 m0
      have ba := r_byteAt m1 (MX_sc fr X) (i := e2) (by have := X.2.1; omega)
      have z1 := m1.1
      by_cases t4 : ty xs e2 = 4
      · have nx := ih (e2 + 1) (zsI g 125 13 (nI (e2 + 1))) (by omega) (by omega) (by rw [← hsk, skp_4 t4]) (fr.s (by omega)) (by rw [I_sIs, zput_self])
        refine zTo_of gX6_scan_0 ?_
        by_cases b32 : bt xs e2 = 32
        · simp only [z1, f13, ba, eq_true b32, nI_1, zmp_s, zlt_s, zcV_s, zcI_s, zcJ_s, zcA_s, zcD_s, zcF_s, zth_n, zth_t, zrt_s, zQ_l, zQ_r, false_or, or_false, true_or, or_true, false_and, and_false, not_false_eq_true, not_true_eq_false, and_self, true_and, and_true, if_true, if_false, ite_true, ite_false, zgd_t]
          exact nx
        · have b10 := ((bt_4 X.2.2.2 e2).mpr t4).resolve_left b32
          simp only [z1, f13, ba, eq_false b32, eq_true b10, nI_1, zmp_s, zlt_s, zcV_s, zcI_s, zcJ_s, zcA_s, zcD_s, zcF_s, zth_n, zth_t, zrt_s, zQ_l, zQ_r, false_or, or_false, true_or, or_true, false_and, and_false, not_false_eq_true, not_true_eq_false, and_self, true_and, and_true, if_true, if_false, ite_true, ite_false, zgd_t]
          exact nx
      · have sk : skp xs e = e2 := by rw [← hsk]; exact skp_n t4
        have n4 : ¬ (bt xs e2 = 32 ∨ bt xs e2 = 10) := fun x => t4 ((bt_4 X.2.2.2 e2).mp x)
        have b32 : (bt xs e2 = 32) = False := eq_false (fun x => n4 (Or.inl x))
        have b10 : (bt xs e2 = 10) = False := eq_false (fun x => n4 (Or.inr x))
        have inn : e2 < xs.length := by omega
        have t0 : ty xs e2 ≠ 0 := fun x => by have := ty_0.mp x; omega
        have b0 : (bt xs e2 = -1) = False := by rw [bt_0 X.2.2.2]; exact eq_false t0
        have tl := ty_le xs e2
        have fr2 : SC h (zsI g 125 14 (nI e2)) := fr.s (by omega)
        have m2 := moS_fr fr2.1 m0
        have ba2 := r_byteAt m2 (MX_sc fr2 X) (i := e2) (by have := X.2.1; omega)
        have g13 : zI (zsI g 125 14 (nI e2)) 125 13 = nI e2 := by rw [I_sIs, zput_ne _ _ (by omega), f13]
        have g14 : zI (zsI g 125 14 (nI e2)) 125 14 = nI e2 := by rw [I_sIs, zput_self]
        have tE := (tkE_le xs e2).1
        have i1 := bt_1 X.2.2.2 e2 (zsI g 125 14 (nI e2))
        rw [sk]
        refine zTo_of gX6_scan_0 ?_
        by_cases t1 : ty xs e2 = 1
        · rw [decide_eq_true t1, zb_t] at i1
          simp only [z1, f13, ba, b32, b10, K_sI, K_sJ, K_sD, K_sP, K_rI, K_rJ, P_sI, P_sJ, P_sD, P_rI, P_rJ, N_sI, N_sJ, N_sD, N_sP, N_rI, N_rJ, J_sI, J_sD, J_sP, J_rI, I_sJ, I_sD, I_sP, I_rJ, D_sI, D_sJ, D_sP, D_rI, D_rJ, I_sIs, zput_i, show ¬ (13 : Nat) = 14 by omega, ba2, b0, i1, i10, zmp_s, zlt_s, zcV_s, zcI_s, zcJ_s, zcA_s, zcD_s, zcF_s, zth_n, zth_t, zrt_s, zQ_l, zQ_r, false_or, or_false, true_or, or_true, false_and, and_false, not_false_eq_true, not_true_eq_false, and_self, true_and, and_true, if_true, if_false, ite_true, ite_false, zgd_t]
          exact r_letters m0 X t1 he2 (tkE xs e2 - e2) 0 _ (by omega) fr2 g13 g14
        · have i2 := bt_2 X.2.2.2 e2 t1 (zsI g 125 14 (nI e2))
          rw [decide_eq_false t1, zb_f] at i1
          by_cases t2 : ty xs e2 = 2
          · rw [decide_eq_true t2, zb_t] at i2
            simp only [z1, f13, ba, b32, b10, K_sI, K_sJ, K_sD, K_sP, K_rI, K_rJ, P_sI, P_sJ, P_sD, P_rI, P_rJ, N_sI, N_sJ, N_sD, N_sP, N_rI, N_rJ, J_sI, J_sD, J_sP, J_rI, I_sJ, I_sD, I_sP, I_rJ, D_sI, D_sJ, D_sP, D_rI, D_rJ, I_sIs, zput_i, show ¬ (13 : Nat) = 14 by omega, ba2, b0, i1, i2, i10, zmp_s, zlt_s, zcV_s, zcI_s, zcJ_s, zcA_s, zcD_s, zcF_s, zth_n, zth_t, zrt_s, zQ_l, zQ_r, false_or, or_false, true_or, or_true, false_and, and_false, not_false_eq_true, not_true_eq_false, and_self, true_and, and_true, if_true, if_false, ite_true, ite_false, zgd_t]
            refine r_digits m0 X t2 he2 (tkE xs e2 - e2) 0 _ (by omega) (fr2.s (j := 16) (by omega)) ?_ ?_ ?_
            · rw [I_sIs, zput_ne _ _ (by omega)]; exact g13
            · rw [I_sIs, zput_ne _ _ (by omega)]; exact g14
            · rw [I_sIs, zput_self]; rfl
          · have t3 : ty xs e2 = 3 := by omega
            rw [decide_eq_false t2, zb_f] at i2
            have btv : bt xs e2 = nI (bv xs e2) := by unfold bt; rw [if_pos inn]
            have te : tkE xs e2 = e2 + 1 := by unfold tkE; rw [if_neg t0, if_pos t3]
            simp only [z1, f13, ba, b32, b10, K_sI, K_sJ, K_sD, K_sP, K_rI, K_rJ, P_sI, P_sJ, P_sD, P_rI, P_rJ, N_sI, N_sJ, N_sD, N_sP, N_rI, N_rJ, J_sI, J_sD, J_sP, J_rI, I_sJ, I_sD, I_sP, I_rJ, D_sI, D_sJ, D_sP, D_rI, D_rJ, I_sIs, zput_i, show ¬ (13 : Nat) = 14 by omega, show ¬ (13 : Nat) = 15 by omega, show ¬ (13 : Nat) = 16 by omega, ba2, b0, i1, i2, nI_1, zmp_s, zlt_s, zcV_s, zcI_s, zcJ_s, zcA_s, zcD_s, zcF_s, zth_n, zth_t, zrt_s, zQ_l, zQ_r, false_or, or_false, true_or, or_true, false_and, and_false, not_false_eq_true, not_true_eq_false, and_self, true_and, and_true, if_true, if_false, ite_true, ite_false, zgd_t]
            refine ⟨_, rfl, ((fr2.s (j := 15) (by omega)).s (j := 16) (by omega)).s (j := 13) (by omega), ?_, ?_, ?_, fun _ => ?_, fun x => absurd x (by omega), t4, he2⟩
            · rw [I_sIs, zput_self, te]
            · rw [I_sIs, zput_ne _ _ (by omega), I_sIs, zput_ne _ _ (by omega), I_sIs, zput_ne _ _ (by omega), I_sIs, zput_self]
            · rw [I_sIs, zput_ne _ _ (by omega), I_sIs, zput_ne _ _ (by omega), I_sIs, zput_self, t3]; rfl
            · rw [I_sIs, zput_ne _ _ (by omega), I_sIs, zput_self, btv]
  have hsim := zsem_to (env := vX6_scan) (rows := rX6_scan) (nL := 2) (av := [.ref 125]) (h := h) (Nat.le_of_ble_eq_true rfl) (key _ e h rfl he rfl ⟨zFr.rf, fun _ _ => rfl⟩ h13)
  obtain ⟨o, h1, g, rfl, a, b⟩ := hsim
  exact ⟨g, h1, a, b⟩
end
end ZQA
