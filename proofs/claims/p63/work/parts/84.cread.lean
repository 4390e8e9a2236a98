/-! THE CLASS: tokens read and tested. -/
section ZPC
section
variable {h : zm_H} {p : Nat} {xs : List Int32}
theorem q_begin (X : PX h p xs) {s : Nat} (hs : s ≤ xs.length) (h4 : ty xs s ≠ 4) {g : zm_H} (fr : zFr (fun c => c = p) h g) (f3 : zI g p 3 = nI s) (f2 : zI g p 2 = zI h p 2) (f8 : zI g p 8 = zI h p 8) : zTo vX3_nextToken rX3_nextToken (0, [some (.ref p), none], [], g) (fun o => ∃ g, o = (.inl none, g) ∧ zFr (fun c => c = p) h g ∧ TK g p xs s ∧ zI g p 2 = zI h p 2 ∧ zI g p 8 = zI h p 8) := by
  have X2 := PX_fr (fr.mono pa_p) X
  have fr1 : zFr (fun c => c = p) h (zsI g p 7 (nI s)) := fr.tr (zFr.sI rfl)
  have X3 := PX_fr (fr1.mono pa_p) X
  have ta0 := q_typeAt X2 (show s < 2 ^ 31 by have := X.2.2.2.2.2.2.2.2.1; omega)
  have ta := q_typeAt X3 (show s < 2 ^ 31 by have := X.2.2.2.2.2.2.2.2.1; omega)
  obtain ⟨a0, a1, a2, a3, a4, a5, a6, a7, a8, a9, a10, a11⟩ := X2
  have tl := ty_le xs s
  have n1p : (1 : Nat) ≠ p := by omega
  have n2p : (2 : Nat) ≠ p := by omega
  have e3 : (nI (ty xs s) = 3) = (ty xs s = 3) := propext (nI_eq (b := 3) (by omega) (by omega))
  have e4 : (nI (ty xs s) = 4) = False := eq_false (fun x => h4 ((nI_eq (b := 4) (by omega) (by omega)).mp x))
  obtain ⟨h7, hh7⟩ : ∃ h7, h7 = zsI (zsJ (zsI (zsI g p 7 (nI s)) p 4 (nI (ty xs s))) p 5 (0 : Int64)) p 6 (0 : Int32) := ⟨_, rfl⟩
  have fr7 : zFr (fun c => c = p) h h7 := by rw [hh7]; exact ((fr1.tr (zFr.sI rfl)).tr (zFr.sJ rfl)).tr (zFr.sI rfl)
  have g7 : zI h7 p 7 = nI s := by rw [hh7, I_sIs, zput_ne _ _ (by omega), I_sJ, I_sIs, zput_ne _ _ (by omega), I_sIs, zput_self]
  have g4 : zI h7 p 4 = nI (ty xs s) := by rw [hh7, I_sIs, zput_ne _ _ (by omega), I_sJ, I_sIs, zput_self]
  have g3 : zI h7 p 3 = nI s := by rw [hh7, I_sIs, zput_ne _ _ (by omega), I_sJ, I_sIs, zput_ne _ _ (by omega), I_sIs, zput_ne _ _ (by omega)]; exact f3
  have g2 : zI h7 p 2 = zI h p 2 := by rw [hh7, I_sIs, zput_ne _ _ (by omega), I_sJ, I_sIs, zput_ne _ _ (by omega), I_sIs, zput_ne _ _ (by omega)]; exact f2
  have g8 : zI h7 p 8 = zI h p 8 := by rw [hh7, I_sIs, zput_ne _ _ (by omega), I_sJ, I_sIs, zput_ne _ _ (by omega), I_sIs, zput_ne _ _ (by omega)]; exact f8
  have g6 : zI h7 p 6 = nI 0 := by rw [hh7, I_sIs, zput_self]; rfl
  have g5 : zJ h7 p 5 = lN 0 := by rw [hh7, J_sI, J_sJs, zput_self]; rfl
  have c0 : zK g p = (9, 9) := a1
  have lt : (nI xs.length ≤ nI s) = (xs.length ≤ s) := propext (nI_leI (by omega) (by omega))
  have inside : ty xs s ≠ 3 → zTo vX3_nextToken rX3_nextToken (53, [some (.ref p), none], [], h7) (fun o => ∃ g, o = (.inl none, g) ∧ zFr (fun c => c = p) h g ∧ TK g p xs s ∧ zI g p 2 = zI h p 2 ∧ zI g p 8 = zI h p 8) := fun h3 =>
    q_inside X hs h3 h4 (tkE xs s - s) 0 h7 (by have := (tkE_le xs s).1; omega) fr7 ⟨g7, g4, g3, fun _ _ => g5, fun _ => g5, fun _ => g6, fun _ => g6⟩ g2 g8
  have symF : ty xs s = 3 → TK (zsI (zsI h7 p 3 (nI (s + 1))) p 6 (nI (bv xs s))) p xs s := fun h3 => by
    have eE : tkE xs s = s + 1 := by unfold tkE; rw [if_neg (by omega), if_pos h3]
    refine ⟨?_, ?_, ?_, ?_, ?_, h4, hs⟩
    · rw [I_sIs, zput_ne _ _ (by omega), I_sIs, zput_ne _ _ (by omega)]; exact g7
    · rw [I_sIs, zput_ne _ _ (by omega), I_sIs, zput_ne _ _ (by omega)]; exact g4
    · rw [I_sIs, zput_ne _ _ (by omega), I_sIs, zput_self, eE]
    · rw [J_sI, J_sI, g5]; unfold wdv; rw [if_neg (fun x => by omega)]
    · rw [I_sIs, zput_self]; unfold nmv; rw [if_pos h3]
  refine zTo_of gX3_nextToken_0 ?_
  by_cases w : xs.length ≤ s
  · have h3 : ty xs s ≠ 3 := by rw [ty_0.mpr w]; omega
    simp only [c0, a2, a4, a7, f3, lt, w, K_sI, K_sJ, K_sD, K_sP, K_rI, K_rJ, P_sI, P_sJ, P_sD, P_rI, P_rJ, N_sI, N_sJ, N_sD, N_sP, N_rI, N_rJ, J_sI, J_sD, J_sP, J_rI, I_sJ, I_sD, I_sP, I_rJ, D_sI, D_sJ, D_sP, D_rI, D_rJ, I_sIs, I_sJ, zput_i, ta, e3, h3, show ¬ (4 : Nat) = 6 by omega, zmp_s, zlt_s, zcV_s, zcI_s, zcJ_s, zcA_s, zcD_s, zcF_s, zth_n, zth_t, zrt_s, zQ_l, zQ_r, false_or, or_false, true_or, or_true, false_and, and_false, not_false_eq_true, not_true_eq_false, and_self, true_and, and_true, if_true, if_false, ite_true, ite_false, zgd_t]
    rw [← hh7]
    exact inside h3
  · have gv : zI g 2 s = nI (bv xs s) := by rw [a9 s (by omega)]; exact (a10.at (by omega)).1
    simp only [c0, a2, a4, a5, a6, a7, f3, lt, w, ta0, e4, K_sI, K_sJ, K_sD, K_sP, K_rI, K_rJ, P_sI, P_sJ, P_sD, P_rI, P_rJ, N_sI, N_sJ, N_sD, N_sP, N_rI, N_rJ, J_sI, J_sD, J_sP, J_rI, I_sJ, I_sD, I_sP, I_rJ, D_sI, D_sJ, D_sP, D_rI, D_rJ, I_sIs, I_sJ, I_sIn n2p, zput_i, ta, e3, nI_1, nI_clamp (show s < 2 ^ 31 by omega), nI_lt0 (show s < 2 ^ 31 by omega), show ¬ 500 ≤ s by omega, gv, show ¬ (4 : Nat) = 6 by omega, show ¬ (3 : Nat) = 6 by omega, show ¬ (3 : Nat) = 4 by omega, show ¬ (3 : Nat) = 7 by omega, zmp_s, zlt_s, zcV_s, zcI_s, zcJ_s, zcA_s, zcD_s, zcF_s, zth_n, zth_t, zrt_s, zQ_l, zQ_r, false_or, or_false, true_or, or_true, false_and, and_false, not_false_eq_true, not_true_eq_false, and_self, true_and, and_true, if_true, if_false, ite_true, ite_false, zgd_t]
    rw [← hh7]
    by_cases h3 : ty xs s = 3
    · rw [if_pos h3]
      simp only [zmp_s, zlt_s, zcV_s, zcI_s, zcJ_s, zcA_s, zcD_s, zcF_s, zth_n, zth_t, zrt_s, zQ_l, zQ_r]
      refine ⟨_, rfl, (fr7.tr (zFr.sI rfl)).tr (zFr.sI rfl), symF h3, ?_, ?_⟩
      · rw [I_sIs, zput_ne _ _ (by omega), I_sIs, zput_ne _ _ (by omega)]; exact g2
      · rw [I_sIs, zput_ne _ _ (by omega), I_sIs, zput_ne _ _ (by omega)]; exact g8
    · rw [if_neg h3]
      simp only [zmp_s, zlt_s, zcV_s, zcI_s, zcJ_s, zcA_s, zcD_s, zcF_s, zth_n, zth_t, zrt_s, zQ_l, zQ_r]
      exact inside h3
theorem q_next (X : PX h p xs) {e : Nat} (he : e ≤ xs.length) (h3 : zI h p 3 = nI e) : ∃ g, sX3_nextToken [.ref p] h = some (.inl none, g) ∧ zFr (fun c => c = p) h g ∧ TK g p xs (skp xs e) ∧ zI g p 2 = zI h p 2 ∧ zI g p 8 = zI h p 8 := by
  have key : ∀ d e2 g, xs.length - e2 = d → e2 ≤ xs.length → skp xs e2 = skp xs e → zFr (fun c => c = p) h g → zI g p 3 = nI e2 → zI g p 2 = zI h p 2 → zI g p 8 = zI h p 8 → zTo vX3_nextToken rX3_nextToken (0, [some (.ref p), none], [], g) (fun o => ∃ g, o = (.inl none, g) ∧ zFr (fun c => c = p) h g ∧ TK g p xs (skp xs e) ∧ zI g p 2 = zI h p 2 ∧ zI g p 8 = zI h p 8) := by
    intro d
    induction d with
    | zero =>
      intro e2 g hd he2 hsk fr f3 f2 f8
      have h4 : ty xs e2 ≠ 4 := by rw [ty_0.mpr (by omega)]; omega
      rw [← hsk, skp_n h4]
      exact q_begin X he2 h4 fr f3 f2 f8
    | succ d ih =>
      intro e2 g hd he2 hsk fr f3 f2 f8
      by_cases h4 : ty xs e2 = 4
      · have X2 := PX_fr (fr.mono pa_p) X
        have ta0 := q_typeAt X2 (show e2 < 2 ^ 31 by have := X.2.2.2.2.2.2.2.2.1; omega)
        rw [h4] at ta0
        obtain ⟨a0, a1, a2, a3, a4, a5, a6, a7, a8, a9, a10, a11⟩ := X2
        have lt : (nI xs.length ≤ nI e2) = False := eq_false (nI_ge (by omega) (by omega))
        have e44 : (nI 4 = 4) = True := eq_true rfl
        refine zTo_of gX3_nextToken_0 ?_
        simp only [a1, a2, a4, a7, f3, lt, ta0, e44, nI_1, zmp_s, zlt_s, zcV_s, zcI_s, zcJ_s, zcA_s, zcD_s, zcF_s, zth_n, zth_t, zrt_s, zQ_l, zQ_r, false_or, or_false, true_or, or_true, false_and, and_false, not_false_eq_true, not_true_eq_false, and_self, true_and, and_true, if_true, if_false, ite_true, ite_false, zgd_t]
        refine ih (e2 + 1) _ (by omega) (by omega) (by rw [← hsk, skp_4 h4]) (fr.tr (zFr.sI rfl)) (by rw [I_sIs, zput_self]) ?_ ?_
        · rw [I_sIs, zput_ne _ _ (by omega)]; exact f2
        · rw [I_sIs, zput_ne _ _ (by omega)]; exact f8
      · rw [← hsk, skp_n h4]
        exact q_begin X he2 h4 fr f3 f2 f8
  have hsim : zW (sX3_nextToken [.ref p] h) (fun o => ∃ g, o = (.inl none, g) ∧ zFr (fun c => c = p) h g ∧ TK g p xs (skp xs e) ∧ zI g p 2 = zI h p 2 ∧ zI g p 8 = zI h p 8) := by
    have := key _ e h rfl he rfl zFr.rf h3 rfl rfl
    exact zsem_to (Nat.le_of_ble_eq_true rfl) this
  obtain ⟨o, e1, g, rfl, e2⟩ := hsim
  exact ⟨g, e1, e2⟩
/-- the token behind that at s -/
theorem q_go (X : PX h p xs) {s : Nat} (T : TK h p xs s) : ∃ g, sX3_nextToken [.ref p] h = some (.inl none, g) ∧ zFr (fun c => c = p) h g ∧ TK g p xs (nxt xs s) ∧ zI g p 2 = zI h p 2 ∧ zI g p 8 = zI h p 8 := q_next X (tkE_hi T.2.2.2.2.2.2) T.2.2.1
-- tests
theorem tk_n1 {s : Nat} : (nI (ty xs s) = 1) = (ty xs s = 1) := by
  have := ty_le xs s
  exact propext (nI_eq (b := 1) (by omega) (by omega))
theorem tk_n2 {s : Nat} : (nI (ty xs s) = 2) = (ty xs s = 2) := by
  have := ty_le xs s
  exact propext (nI_eq (b := 2) (by omega) (by omega))
theorem tk_n3 {s : Nat} : (nI (ty xs s) = 3) = (ty xs s = 3) := by
  have := ty_le xs s
  exact propext (nI_eq (b := 3) (by omega) (by omega))
theorem tk_n0 {s : Nat} : (nI (ty xs s) = 0) = (ty xs s = 0) := by
  have := ty_le xs s
  exact nI_eq0 (by omega)
theorem wcd_lt (hb : BY xs) {s : Nat} (t : ty xs s = 1) (l : tkL xs s ≤ 6) : wcd xs s < 27 ^ 6 ∧ 0 < wcd xs s := by
  have L := LT_tk hb t
  obtain ⟨a, b⟩ := nmd_lt (tkL xs s) L
  have p6 : 27 ^ tkL xs s ≤ 27 ^ 6 := Nat.pow_le_pow_right (by omega) l
  have l0 : 0 < tkL xs s := by
    have := (tkE_le xs s).2 (by omega)
    unfold tkL; omega
  exact ⟨Nat.lt_of_lt_of_le a p6, b l0⟩
theorem wdv_lt (s : Nat) : wdv xs s < 2 ^ 56 := by
  unfold wdv
  split
  · exact pkn_lt _
  · omega
theorem wdv_eq (hb : BY xs) {s K : Nat} (hK : K < 27 ^ 6) (hK0 : 0 < K) : (wdv xs s = pkn K) = (ty xs s = 1 ∧ tkL xs s ≤ 6 ∧ wcd xs s = K) := by
  unfold wdv
  apply propext
  by_cases q : ty xs s = 1 ∧ tkL xs s ≤ 6
  · rw [if_pos q]
    constructor
    · intro e; exact ⟨q.1, q.2, pkn_inj (wcd_lt hb q.1 q.2).1 hK e⟩
    · intro e; rw [e.2.2]
  · rw [if_neg q]
    constructor
    · intro e
      have : pkn K = 0 := e.symm
      rw [pkn_0 hK] at this
      omega
    · intro e; exact absurd ⟨e.1, e.2.1⟩ q
theorem lg_word (hb : BY xs) {s K : Nat} {L : Int64} (hL : L = lN (pkn K)) (hK : K < 27 ^ 6) (hK0 : 0 < K) : (lg_cmp (lN (wdv xs s)) L = 0) = (ty xs s = 1 ∧ tkL xs s ≤ 6 ∧ wcd xs s = K) := by
  rw [lg0, hL, ← wdv_eq hb hK hK0]
  have h1 := wdv_lt (xs := xs) s
  have h2 := pkn_lt K
  exact propext (pk_lEQ (by omega) (by omega))
theorem q_isWord (X : PX h p xs) {s K : Nat} {L : Int64} (T : TK h p xs s) (hL : L = lN (pkn K)) (hK : K < 27 ^ 6) (hK0 : 0 < K) : sX3_isWord [.ref p, .long L] h = some (.inl (some (.int (zb (isW xs s K)))), h) := by
  have hb := X.2.2.2.2.2.2.2.2.2.2.1
  have a1 := X.2.1
  obtain ⟨b7, b4, b3, b5, b6, hn4, hs⟩ := T
  refine zsem_eq (Nat.le_of_ble_eq_true rfl) (zTo_of gX3_isWord_0 ?_)
  have lw := lg_word hb (s := s) hL hK hK0
  unfold isW
  by_cases t : ty xs s = 1
  · simp only [a1, b4, tk_n1, t, b5, zmp_s, zlt_s, zcV_s, zcI_s, zcJ_s, zcA_s, zcD_s, zcF_s, zth_n, zth_t, zrt_s, zQ_l, zQ_r, false_or, or_false, true_or, or_true, false_and, and_false, not_false_eq_true, not_true_eq_false, and_self, true_and, and_true, if_true, if_false, ite_true, ite_false, zgd_t]
    by_cases q : tkL xs s ≤ 6 ∧ wcd xs s = K
    · rw [if_pos (lw.mpr ⟨t, q.1, q.2⟩)]
      simp only [zmp_s, zlt_s, zcV_s, zcI_s, zcJ_s, zcA_s, zcD_s, zcF_s, zth_n, zth_t, zrt_s, zQ_l, zQ_r, q.1, q.2, decide_true, Bool.and_self]; rfl
    · rw [if_neg (fun x => q (lw.mp x).2)]
      have : (decide (tkL xs s ≤ 6) && decide (wcd xs s = K)) = false := by
        by_cases q1 : tkL xs s ≤ 6
        · have : ¬ wcd xs s = K := fun x => q ⟨q1, x⟩
          simp [this]
        · simp [q1]
      simp only [zmp_s, zlt_s, zcV_s, zcI_s, zcJ_s, zcA_s, zcD_s, zcF_s, zth_n, zth_t, zrt_s, zQ_l, zQ_r, this, Bool.and_false]; rfl
  · simp only [a1, b4, tk_n1, t, zmp_s, zlt_s, zcV_s, zcI_s, zcJ_s, zcA_s, zcD_s, zcF_s, zth_n, zth_t, zrt_s, zQ_l, zQ_r, false_or, or_false, true_or, or_true, false_and, and_false, not_false_eq_true, not_true_eq_false, and_self, true_and, and_true, if_true, if_false, ite_true, ite_false, zgd_t, decide_false, Bool.false_and]; rfl
theorem q_isSymbol (X : PX h p xs) {s c : Nat} {x : Int32} (T : TK h p xs s) (hx : x = nI c) (hc : c < 256) : sX3_isSymbol [.ref p, .int x] h = some (.inl (some (.int (zb (isS xs s c)))), h) := by
  subst hx
  have hb := X.2.2.2.2.2.2.2.2.2.2.1
  have a1 := X.2.1
  obtain ⟨b7, b4, b3, b5, b6, hn4, hs⟩ := T
  refine zsem_eq (Nat.le_of_ble_eq_true rfl) (zTo_of gX3_isSymbol_0 ?_)
  unfold isS
  by_cases t : ty xs s = 3
  · have w := ty_in (show ty xs s ≠ 0 by omega)
    have bl := (hb.at w).2
    have nv : nmv xs s = bv xs s := by unfold nmv; rw [if_pos t]
    simp only [a1, b4, tk_n3, t, b6, nv, nI_eq (show bv xs s < 2 ^ 31 by omega) (show c < 2 ^ 31 by omega), zmp_s, zlt_s, zcV_s, zcI_s, zcJ_s, zcA_s, zcD_s, zcF_s, zth_n, zth_t, zrt_s, zQ_l, zQ_r, false_or, or_false, true_or, or_true, false_and, and_false, not_false_eq_true, not_true_eq_false, and_self, true_and, and_true, if_true, if_false, ite_true, ite_false, zgd_t]
    by_cases q : bv xs s = c
    · simp only [q, false_or, or_false, true_or, or_true, false_and, and_false, not_false_eq_true, not_true_eq_false, and_self, true_and, and_true, if_true, if_false, ite_true, ite_false, zmp_s, zlt_s, zcV_s, zcI_s, zcJ_s, zcA_s, zcD_s, zcF_s, zth_n, zth_t, zrt_s, zQ_l, zQ_r, decide_true, Bool.and_self]; rfl
    · simp only [q, false_or, or_false, true_or, or_true, false_and, and_false, not_false_eq_true, not_true_eq_false, and_self, true_and, and_true, if_true, if_false, ite_true, ite_false, zmp_s, zlt_s, zcV_s, zcI_s, zcJ_s, zcA_s, zcD_s, zcF_s, zth_n, zth_t, zrt_s, zQ_l, zQ_r, decide_false, Bool.and_false]; rfl
  · simp only [a1, b4, tk_n3, t, zmp_s, zlt_s, zcV_s, zcI_s, zcJ_s, zcA_s, zcD_s, zcF_s, zth_n, zth_t, zrt_s, zQ_l, zQ_r, false_or, or_false, true_or, or_true, false_and, and_false, not_false_eq_true, not_true_eq_false, and_self, true_and, and_true, if_true, if_false, ite_true, ite_false, zgd_t, decide_false, Bool.false_and]; rfl
theorem q_isKeyword (X : PX h p xs) {s : Nat} (T : TK h p xs s) (t : ty xs s = 1) (l : tkL xs s ≤ 6) : sX3_isKeyword [.ref p] h = some (.inl (some (.int (zb (kwd (wcd xs s))))), h) := by
  have hb := X.2.2.2.2.2.2.2.2.2.2.1
  have a1 := X.2.1
  obtain ⟨b7, b4, b3, b5, b6, hn4, hs⟩ := T
  have lw := fun {K : Nat} {L : Int64} (hL : L = lN (pkn K)) (hK : K < 27 ^ 6) (hK0 : 0 < K) => lg_word hb (s := s) hL hK hK0
  have e : ∀ K : Nat, (ty xs s = 1 ∧ tkL xs s ≤ 6 ∧ wcd xs s = K) = (wcd xs s = K) := fun K => propext ⟨fun x => x.2.2, fun x => ⟨t, l, x⟩⟩
  have w1 : (lg_cmp (lN (wdv xs s)) (1919905645 : Int64) = 0) = (wcd xs s = 365647) := by rw [lw (K := 365647) (by decide +kernel) (by decide) (by omega), e]
  have w2 : (lg_cmp (lN (wdv xs s)) (7038329 : Int64) = 0) = (wcd xs s = 8179) := by rw [lw (K := 8179) (by decide +kernel) (by decide) (by omega), e]
  have w3 : (lg_cmp (lN (wdv xs s)) (427070942835 : Int64) = 0) = (wcd xs s = 1896526) := by rw [lw (K := 1896526) (by decide +kernel) (by decide) (by omega), e]
  have w4 : (lg_cmp (lN (wdv xs s)) (1685024626 : Int64) = 0) = (wcd xs s = 90090) := by rw [lw (K := 90090) (by decide +kernel) (by decide) (by omega), e]
  have w5 : (lg_cmp (lN (wdv xs s)) (1953459308 : Int64) = 0) = (wcd xs s = 404931) := by rw [lw (K := 404931) (by decide +kernel) (by decide) (by omega), e]
  have w6 : (lg_cmp (lN (wdv xs s)) (122519939408249 : Int64) = 0) = (wcd xs s = 222789013) := by rw [lw (K := 222789013) (by decide +kernel) (by decide) (by omega), e]
  have w7 : (lg_cmp (lN (wdv xs s)) (495873782388 : Int64) = 0) = (wcd xs s = 10492274) := by rw [lw (K := 10492274) (by decide +kernel) (by decide) (by omega), e]
  have w8 : (lg_cmp (lN (wdv xs s)) (6647396 : Int64) = 0) = (wcd xs s = 4027) := by rw [lw (K := 4027) (by decide +kernel) (by decide) (by omega), e]
  refine zsem_eq (Nat.le_of_ble_eq_true rfl) (zTo_of gX3_isKeyword_0 ?_)
  simp only [a1, b5, w1, w2, w3, w4, w5, w6, w7, w8, zmp_s, zlt_s, zcV_s, zcI_s, zcJ_s, zcA_s, zcD_s, zcF_s, zth_n, zth_t, zrt_s, zQ_l, zQ_r, false_or, or_false, true_or, or_true, false_and, and_false, not_false_eq_true, not_true_eq_false, and_self, true_and, and_true, if_true, if_false, ite_true, ite_false, zgd_t]
  unfold kwd
  generalize wcd xs s = c
  by_cases c1 : c = 365647
  · simp [c1, zQ, zb]
  · by_cases c2 : c = 8179
    · simp [c2, zQ, zb]
    · by_cases c3 : c = 1896526
      · simp [c3, zQ, zb]
      · by_cases c4 : c = 90090
        · simp [c4, zQ, zb]
        · by_cases c5 : c = 404931
          · simp [c5, zQ, zb]
          · by_cases c6 : c = 222789013
            · simp [c6, zQ, zb]
            · by_cases c7 : c = 10492274
              · simp [c7, zQ, zb]
              · by_cases c8 : c = 4027
                · simp [c8, zQ, zb]
                · simp [c1, c2, c3, c4, c5, c6, c7, c8, zQ, zb]
theorem q_isName (X : PX h p xs) {s : Nat} (T : TK h p xs s) : sX3_isName [.ref p] h = some (.inl (some (.int (zb (isN xs s)))), h) := by
  have hb := X.2.2.2.2.2.2.2.2.2.2.1
  have a1 := X.2.1
  have T0 := T
  obtain ⟨b7, b4, b3, b5, b6, hn4, hs⟩ := T
  refine zsem_eq (Nat.le_of_ble_eq_true rfl) (zTo_of gX3_isName_0 ?_)
  unfold isN
  have wl := wdv_lt (xs := xs) s
  have z0 := lgeq0 (show wdv xs s < 2 ^ 63 by omega)
  by_cases t : ty xs s = 1
  · by_cases l : tkL xs s ≤ 6
    · obtain ⟨c1, c2⟩ := wcd_lt hb t l
      have wz : (wdv xs s = 0) = False := by
        unfold wdv
        rw [if_pos ⟨t, l⟩, pkn_0 c1]
        exact eq_false (by omega)
      simp only [a1, b4, tk_n1, eq_true t, b5, z0, wz, q_isKeyword X T0 t l, zb_0, l, decide_true, Bool.true_and, zmp_s, zlt_s, zcV_s, zcI_s, zcJ_s, zcA_s, zcD_s, zcF_s, zth_n, zth_t, zrt_s, zQ_l, zQ_r, false_or, or_false, true_or, or_true, false_and, and_false, not_false_eq_true, not_true_eq_false, and_self, true_and, and_true, if_true, if_false, ite_true, ite_false, zgd_t]
      cases kwd (wcd xs s) <;> simp [zQ, zb]
    · have wz : wdv xs s = 0 := by unfold wdv; rw [if_neg (fun x => l x.2)]
      simp only [a1, b4, tk_n1, eq_true t, b5, z0, eq_true wz, l, decide_false, Bool.false_and, Bool.and_false, zmp_s, zlt_s, zcV_s, zcI_s, zcJ_s, zcA_s, zcD_s, zcF_s, zth_n, zth_t, zrt_s, zQ_l, zQ_r, false_or, or_false, true_or, or_true, false_and, and_false, not_false_eq_true, not_true_eq_false, and_self, true_and, and_true, if_true, if_false, ite_true, ite_false, zgd_t]; rfl
  · simp only [a1, b4, tk_n1, t, zmp_s, zlt_s, zcV_s, zcI_s, zcJ_s, zcA_s, zcD_s, zcF_s, zth_n, zth_t, zrt_s, zQ_l, zQ_r, false_or, or_false, true_or, or_true, false_and, and_false, not_false_eq_true, not_true_eq_false, and_self, true_and, and_true, if_true, if_false, ite_true, ite_false, zgd_t, decide_false, Bool.false_and]; rfl
theorem q_fail (X : PX h p xs) (c : Int32) : sX3_fail [.ref p, .int c] h = some (.inl (some (.int 0)), zsI h p 8 c) := by
  refine zsem_eq (Nat.le_of_ble_eq_true rfl) (zTo_of gX3_fail_0 ?_)
  simp only [X.2.1, zmp_s, zlt_s, zcV_s, zcI_s, zcJ_s, zcA_s, zcD_s, zcF_s, zth_n, zth_t, zrt_s, zQ_l, zQ_r, false_or, or_false, true_or, or_true, false_and, and_false, not_false_eq_true, not_true_eq_false, and_self, true_and, and_true, if_true, if_false, ite_true, ite_false, zgd_t]
/-- an error is told -/
def PE (p : Nat) (e : Nat × Nat) (g : zm_H) : Prop := zI g p 8 = nI e.1 ∧ zI g p 7 = nI e.2
theorem PE_of {s : Nat} (T : TK h p xs s) (c : Nat) : PE p (c, s) (zsI h p 8 (nI c)) := ⟨by rw [I_sIs, zput_self], by rw [I_sIs, zput_ne _ _ (by omega)]; exact T.1⟩
theorem q_fits (X : PX h p xs) {s g : Nat} {x : Int32} (T : TK h p xs s) (hx : x = nI g) (hg : g ≤ 999) : (∀ v, pFits xs g s = .inr v → sX3_fits [.ref p, .int x] h = some (.inl (some (.int 1)), h) ∧ v ≤ g ∧ zI h p 6 = nI v) ∧ (∀ e, pFits xs g s = .inl e → ∃ c : Nat, e = (c, s) ∧ sX3_fits [.ref p, .int x] h = some (.inl (some (.int 0)), zsI h p 8 (nI c))) := by
  subst hx
  have a1 := X.2.1
  have vl := vb_le 1000 xs s (tkL xs s)
  have fl1 := q_fail X (1 : Int32)
  have fl2 := q_fail X (2 : Int32)
  obtain ⟨b7, b4, b3, b5, b6, hn4, hs⟩ := T
  unfold pFits
  by_cases t : ty xs s = 2
  · have nv : nmv xs s = vb 1000 xs s (tkL xs s) := by unfold nmv; rw [if_neg (by omega), if_pos t]
    have le : (nI (vb 1000 xs s (tkL xs s)) ≤ nI g) = (vb 1000 xs s (tkL xs s) ≤ g) := propext (nI_leI (by omega) (by omega))
    by_cases q : vb 1000 xs s (tkL xs s) ≤ g
    · constructor
      · intro v e
        rw [if_pos t, if_pos q] at e
        cases e
        refine ⟨?_, q, by rw [b6, nv]⟩
        refine zsem_eq (Nat.le_of_ble_eq_true rfl) (zTo_of gX3_fits_0 ?_)
        simp only [a1, b4, tk_n2, eq_true t, b6, nv, le, q, zmp_s, zlt_s, zcV_s, zcI_s, zcJ_s, zcA_s, zcD_s, zcF_s, zth_n, zth_t, zrt_s, zQ_l, zQ_r, false_or, or_false, true_or, or_true, false_and, and_false, not_false_eq_true, not_true_eq_false, and_self, true_and, and_true, if_true, if_false, ite_true, ite_false, zgd_t]
      · intro e h; rw [if_pos t, if_pos q] at h; cases h
    · constructor
      · intro v h; rw [if_pos t, if_neg q] at h; cases h
      · intro e h
        rw [if_pos t, if_neg q] at h
        cases h
        refine ⟨2, rfl, ?_⟩
        refine zsem_eq (Nat.le_of_ble_eq_true rfl) (zTo_of gX3_fits_0 ?_)
        simp only [a1, b4, tk_n2, eq_true t, b6, nv, le, q, fl2, zmp_s, zlt_s, zcV_s, zcI_s, zcJ_s, zcA_s, zcD_s, zcF_s, zth_n, zth_t, zrt_s, zQ_l, zQ_r, false_or, or_false, true_or, or_true, false_and, and_false, not_false_eq_true, not_true_eq_false, and_self, true_and, and_true, if_true, if_false, ite_true, ite_false, zgd_t]
        rfl
  · constructor
    · intro v h; rw [if_neg t] at h; cases h
    · intro e h
      rw [if_neg t] at h
      cases h
      refine ⟨1, rfl, ?_⟩
      refine zsem_eq (Nat.le_of_ble_eq_true rfl) (zTo_of gX3_fits_0 ?_)
      simp only [a1, b4, tk_n2, t, fl1, zrt_s, zmp_s, zlt_s, zcV_s, zcI_s, zcJ_s, zcA_s, zcD_s, zcF_s, zth_n, zth_t, zrt_s, zQ_l, zQ_r, false_or, or_false, true_or, or_true, false_and, and_false, not_false_eq_true, not_true_eq_false, and_self, true_and, and_true, if_true, if_false, ite_true, ite_false, zgd_t]
      rfl
end
end ZPC

