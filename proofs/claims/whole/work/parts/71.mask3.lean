/-! THE MODEL: ranks, ends, starts. -/
section ZMJ
theorem NXT_fr {A : Nat → Prop} {h g : zm_H} {N : zLv} {s : Nat} (fr : zFr A h g) (hA : ¬ A 130) (X : NXT h N s) : NXT g N s := fun S a q1 q2 q3 => by rw [fr.I hA]; exact X S a q1 q2 q3
theorem WY_fr {A : Nat → Prop} {h g : zm_H} {N : zLv} (fr : zFr A h g) (hA : ¬ A 128) (Y : WY h N) : WY g N := fun S a q1 q2 q3 => by rw [fr.J hA]; exact Y S a q1 q2 q3
theorem WX.go {h g : zm_H} {N : zLv} (c : MI h N) (w : WX h g N) : MI g N := c.go w.1
section
variable {h : zm_H} {N : zLv}
theorem t_isRank (c : MI h N) {k : Nat} (hk : k < nTo N) : ∃ g, sX6_isRank [.ref 125, .long (lN k)] h = some (.inl (some (.int 1)), g) ∧ WX h g N := by
  obtain ⟨g, e1, w⟩ := t_now c
  have tl := nTo_lt c.2.2
  refine ⟨g, ?_, w⟩
  have a1 : (lg_cmp (lN k) (0 : Int64) < 0) = False := eq_false (by
    rw [lg_cmp_lt]
    show ¬ lN k < lN 0
    rw [pk_lLT (by omega) (by omega)]; omega)
  have a2 : (0 ≤ lg_cmp (lN k) (lN (nTo N))) = False := eq_false (by
    rw [lg_cmp_ge, pk_lLE (by omega) (by omega)]; omega)
  refine zsem_eq (Nat.le_of_ble_eq_true rfl) (zTo_of gX6_isRank_0 ?_)
  simp only [a1, c.1.1, e1, a2, zmp_s, zlt_s, zcV_s, zcI_s, zcJ_s, zcA_s, zcD_s, zcF_s, zth_n, zth_t, zrt_s, zQ_l, zQ_r, false_or, or_false, true_or, or_true, false_and, and_false, not_false_eq_true, not_true_eq_false, and_self, true_and, and_true, if_true, if_false, ite_true, ite_false, zgd_t]
theorem t_isRankX (c : MI h N) {x : Int64} (hx : x < 0 ∨ lN (nTo N) ≤ x) : ∃ g, sX6_isRank [.ref 125, .long x] h = some (.inl (some (.int 0)), g) ∧ MZ N h g ∧ zI g 125 0 = zI h 125 0 := by
  by_cases w : x < 0
  · refine ⟨h, ?_, MZ.rf c, rfl⟩
    refine zsem_eq (Nat.le_of_ble_eq_true rfl) (zTo_of gX6_isRank_0 ?_)
    simp only [lg_cmp_lt, w, zmp_s, zlt_s, zcV_s, zcI_s, zcJ_s, zcA_s, zcD_s, zcF_s, zth_n, zth_t, zrt_s, zQ_l, zQ_r, false_or, or_false, true_or, or_true, false_and, and_false, not_false_eq_true, not_true_eq_false, and_self, true_and, and_true, if_true, if_false, ite_true, ite_false]
  · obtain ⟨g, e1, w1⟩ := t_now c
    refine ⟨g, ?_, w1.1, w1.2.1⟩
    have q : lN (nTo N) ≤ x := hx.resolve_left w
    refine zsem_eq (Nat.le_of_ble_eq_true rfl) (zTo_of gX6_isRank_0 ?_)
    simp only [lg_cmp_lt, lg_cmp_ge, w, c.1.1, e1, q, zmp_s, zlt_s, zcV_s, zcI_s, zcJ_s, zcA_s, zcD_s, zcF_s, zth_n, zth_t, zrt_s, zQ_l, zQ_r, false_or, or_false, true_or, or_true, false_and, and_false, not_false_eq_true, not_true_eq_false, and_self, true_and, and_true, if_true, if_false, ite_true, ite_false, zgd_t]
theorem npc_1 {n a : Nat} (ha : a < n) : npc (2 ^ a) n = 1 := by
  have := npc_or (S := 0) n ha (Nat.zero_testBit _)
  rw [Nat.zero_or] at this
  rw [this]
  have : npc 0 n = 0 := zsu_0 _ (fun i _ => by rw [Nat.zero_testBit]; rfl)
  rw [this]
/-- the path of a tour with a rank -/
theorem r_tourPath (m0 : moS h 126) (mL : ML h 126 N) (hF : WF N) (X : NXT h N (2 ^ N 0)) (Y : WY h N) {k : Nat} (hk : k < nTo N) : ∃ w, sX6_layTour [.ref 125, .int 1, .long (lN k)] (zsI h 132 0 (nI (N 2))) = some (.inl none, zrI h 132 w) ∧ ∀ p, p < N 0 → w p = nI (nTp N k p) := by
  have hs := hF.2.2.1
  obtain ⟨f, hf⟩ : ∃ f : Nat → Nat, f = fun _ => N 2 := ⟨_, rfl⟩
  have e1 : nsk f 1 = 2 ^ N 2 := by
    show 0 ||| 2 ^ f 0 = _
    rw [Nat.zero_or, hf]
  have e0 : f 0 = N 2 := by rw [hf]
  have fr : zFr (fun c => c = 132) h (zsI h 132 0 (nI (N 2))) := zFr.sI rfl
  have lt := r_layTour (h := zsI h 132 0 (nI (N 2))) (len := 1) (rank := k) (f := f) (moS_fr fr m0) (ML_fr fr (by omega) mL) hF.1 (NXT_fr fr (by omega) X) (WY_fr fr (by omega) Y) ⟨Nat.le_refl _, hF.2.1⟩ (fun i hi => by
      have : i = 0 := by omega
      subst this; rw [e0, I_sIs, zput_self]; exact ⟨rfl, hs⟩) (by
      show nvs N (nsk f 1, f 0, k)
      rw [e1, e0]
      exact ⟨hF.bit.1, hs, hF.bit.2, hk⟩) (by rw [e1]; exact npc_1 hs)
  rw [show (1 : Nat) - 1 = 0 from rfl, e1, e0] at lt
  refine ⟨nfw N (2 ^ N 2, N 2, k) 1 (zI (zsI h 132 0 (nI (N 2))) 132) (N 0), ?_, fun p hp => ?_⟩
  · have lt' : sX6_layTour [.ref 125, .int 1, .long (lN k)] (zsI h 132 0 (nI (N 2))) = _ := lt
    rw [lt']
    congr 2
    rw [sI_rI, rI_rI]
  · unfold nfw nTp
    by_cases q : 1 ≤ p
    · rw [if_pos ⟨q, hp⟩, show p - 1 + 1 = p by omega]
    · have : p = 0 := by omega
      subst this
      rw [if_neg (by omega), I_sIs, zput_self]
      rfl
theorem MZ.path (c : MI h N) (w : Nat → Int32) : MZ N h (zrI h 132 w) := MZ.fr c (A := fun q => q = 132) (zFr.rI rfl) (fun q hq => by omega)
theorem th_path {w : Nat → Int32} : zI (zrI h 132 w) 125 0 = zI h 125 0 := by rw [I_rIn (by omega)]
theorem r_tour (c : MI h N) {k p : Nat} (hk : k < nTo N) (hp : p < N 0) : MR (sX6_tour [.ref 125, .long (lN k), .int (nI p)] h) (some (.int (nI (nTp N k p)))) 0 (MZ N h) := by
  obtain ⟨g, e1, w⟩ := t_isRank c hk
  have c1 := c.go w.1
  have c2 := c1.go (MZ.th c1 0)
  have h0 := c.2.2.1.1
  have fr : zFr (fun q => q = 125) g (zsI g 125 0 0) := zFr.sI rfl
  obtain ⟨pw, e2, e3⟩ := r_tourPath c2.1 c2.2.1 c2.2.2 (NXT_fr fr (by omega) w.2.2.1) (WY_fr fr (by omega) w.2.2.2) hk
  have e4 := r_layStart c2.1 c2.2.1
  have c3 := c2.go (MZ.path c2 pw)
  refine ⟨zrI (zsI g 125 0 0) 132 pw, ?_, (w.1.tr (MZ.th c1 0)).tr (MZ.path c2 pw), by rw [th_path, th_0]⟩
  have a1 := c2.1.1
  have mm := c3.1
  have a2 : zK (zsI (zsI g 125 0 0) 132 0 (nI (N 2))) = zK (zsI g 125 0 0) := rfl
  refine zsem_eq (Nat.le_of_ble_eq_true rfl) (zTo_of gX6_tour_0 ?_)
  simp only [c.1.1, e1, i10, c1.1.1, r_isRoom c1.1 c1.2.1 h0 hp, p1_t c1.1, a1, e4, a2, e2, mm.1, mm.2.2.2.2.2.2.2.2.2.1, mm.2.2.2.2.2.2.2.2.2.2.2.2.2.2.2.2.2.2.2.2.2.2.1, nI_clamp (show p < 2 ^ 31 by omega), nI_lt0 (show p < 2 ^ 31 by omega), show ¬ 11 ≤ p by omega, I_rIs, e3 p hp, zmp_s, zlt_s, zcV_s, zcI_s, zcJ_s, zcA_s, zcD_s, zcF_s, zth_n, zth_t, zrt_s, zQ_l, zQ_r, false_or, or_false, true_or, or_true, false_and, and_false, not_false_eq_true, not_true_eq_false, and_self, true_and, and_true, if_true, if_false, ite_true, ite_false, zgd_t]
theorem r_tourX (c : MI h N) {x : Int64} {y : Int32} (hx : x < 0 ∨ lN (nTo N) ≤ x) : MR (sX6_tour [.ref 125, .long x, .int y] h) (some (.int 0)) 1 (MZ N h) := by
  obtain ⟨g, e1, w, e2⟩ := t_isRankX c hx
  have c1 := c.go w
  refine ⟨zsI g 125 0 1, ?_, w.tr (MZ.th c1 1), th_0⟩
  refine zsem_eq (Nat.le_of_ble_eq_true rfl) (zTo_of gX6_tour_0 ?_)
  simp only [c.1.1, e1, c1.1.1, p1_f c1.1, zmp_s, zlt_s, zcV_s, zcI_s, zcJ_s, zcA_s, zcD_s, zcF_s, zth_n, zth_t, zrt_s, zQ_l, zQ_r, false_or, or_false, true_or, or_true, false_and, and_false, not_false_eq_true, not_true_eq_false, and_self, true_and, and_true, if_true, if_false, ite_true, ite_false, zgd_t]
theorem r_tourY (c : MI h N) {k : Nat} {y : Int32} (hk : k < nTo N) (hy : y < 0 ∨ nI (N 0) ≤ y) : MR (sX6_tour [.ref 125, .long (lN k), .int y] h) (some (.int 0)) 1 (MZ N h) := by
  obtain ⟨g, e1, w⟩ := t_isRank c hk
  have c1 := c.go w.1
  refine ⟨zsI g 125 0 1, ?_, w.1.tr (MZ.th c1 1), th_0⟩
  refine zsem_eq (Nat.le_of_ble_eq_true rfl) (zTo_of gX6_tour_0 ?_)
  simp only [c.1.1, e1, i10, c1.1.1, r_isRoomX c1.1 c1.2.1 c.2.2.1.1 hy, p1_f c1.1, zmp_s, zlt_s, zcV_s, zcI_s, zcJ_s, zcA_s, zcD_s, zcF_s, zth_n, zth_t, zrt_s, zQ_l, zQ_r, false_or, or_false, true_or, or_true, false_and, and_false, not_false_eq_true, not_true_eq_false, and_self, true_and, and_true, if_true, if_false, ite_true, ite_false, zgd_t]
theorem full_walk (hF : WF N) (e : N 4 = N 0) : nset N = 2 ^ N 0 - 1 := by
  have h41 := hF.2.2.2.2.1
  have pc := hF.pc (N 4 - 1) (by omega)
  rw [show N 4 - 1 + 1 = N 4 by omega, ← nset_nsk] at pc
  have hl := hF.nset_lt
  refine Classical.byContradiction (fun ne => ?_)
  have : ∃ k, k < N 0 ∧ (nset N).testBit k = false := by
    refine Classical.byContradiction (fun no => ne ((full_iff hl).mpr (fun k hk => ?_)))
    cases q : (nset N).testBit k
    · exact absurd ⟨k, hk, q⟩ no
    · rfl
  obtain ⟨k, hk, q⟩ := this
  have h1 := npc_or (N 0) hk q
  have h2 := npc_le (nset N ||| 2 ^ k) (N 0)
  omega
theorem r_rank (c : MI h N) : MR (sX6_rank [.ref 125] h) (some (.long (nRk N))) 0 (MZ N h) := by
  have c1 := c.go (MZ.th c 0)
  have hF := c.2.2
  have hW := hF.1
  have h0 := hW.1
  have h4 := hW.2.2.1
  have h40 := hF.2.2.2.2.2.1
  have l4 := c1.2.1.at (i := 4) (by omega) (by omega)
  have m1 := c1.1
  have rr := r_rooms c1.1 c1.2.1
  unfold nRk
  by_cases z : N 4 = N 0
  · obtain ⟨g, e1, w⟩ := t_co c1
    have c2 := c1.go w.1
    have cl := nCo_lt hF
    have v : nCo N = 0 ∨ nCo N = 1 := by
      unfold nCo
      rw [full_walk hF z, nTT_full hW]
      split
      · exact Or.inr rfl
      · exact Or.inl rfl
    have e0 : (lg_cmp (lN (nCo N)) (1 : Int64) = 0) = (nCo N = 1) := by
      rw [lg0]
      show (lN _ = lN 1) = _
      rw [propext (pk_lEQ (by omega) (by omega))]
    have ta := r_toursAhead c2.1 c2.2.1 hF w.2.2.1 w.2.2.2
    refine ⟨g, ?_, (MZ.th c 0).tr w.1, by rw [w.2.1, th_0]⟩
    refine zsem_eq (Nat.le_of_ble_eq_true rfl) (zTo_of gX6_rank_0 ?_)
    simp only [c.1.1, m1.1, m1.2.2.2.1, m1.2.2.2.2.2.2.2.2.2.2.2.2.2.2.2.2.1, c_4, p_4, l4, show ¬ 149 ≤ 4 by omega, rr, nI_eq (show N 4 < 2 ^ 31 by omega) (show N 0 < 2 ^ 31 by omega), z, e1, e0, i10, c2.1.1, ta, zmp_s, zlt_s, zcV_s, zcI_s, zcJ_s, zcA_s, zcD_s, zcF_s, zth_n, zth_t, zrt_s, zQ_l, zQ_r, false_or, or_false, true_or, or_true, false_and, and_false, not_false_eq_true, not_true_eq_false, and_self, true_and, and_true, if_true, if_false, ite_true, ite_false, zgd_t]
    rcases v with v | v
    · simp only [v, Nat.lt_irrefl, false_or, or_false, true_or, or_true, false_and, and_false, not_false_eq_true, not_true_eq_false, and_self, true_and, and_true, if_true, if_false, ite_true, ite_false, zmp_s, zlt_s, zcV_s, zcI_s, zcJ_s, zcA_s, zcD_s, zcF_s, zth_n, zth_t, zrt_s, zQ_l, zQ_r, show ¬ 0 = 1 by omega]
    · simp only [v, Nat.lt_irrefl, false_or, or_false, true_or, or_true, false_and, and_false, not_false_eq_true, not_true_eq_false, and_self, true_and, and_true, if_true, if_false, ite_true, ite_false, zmp_s, zlt_s, zcV_s, zcI_s, zcJ_s, zcA_s, zcD_s, zcF_s, zth_n, zth_t, zrt_s, zQ_l, zQ_r, show ¬ 1 = 0 by omega, z]
  · refine ⟨zsI h 125 0 0, ?_, MZ.th c 0, th_0⟩
    rw [if_pos (Or.inl (by omega))]
    refine zsem_eq (Nat.le_of_ble_eq_true rfl) (zTo_of gX6_rank_0 ?_)
    simp only [c.1.1, m1.1, m1.2.2.2.1, m1.2.2.2.2.2.2.2.2.2.2.2.2.2.2.2.2.1, c_4, p_4, l4, show ¬ 149 ≤ 4 by omega, rr, nI_eq (show N 4 < 2 ^ 31 by omega) (show N 0 < 2 ^ 31 by omega), z, zmp_s, zlt_s, zcV_s, zcI_s, zcJ_s, zcA_s, zcD_s, zcF_s, zth_n, zth_t, zrt_s, zQ_l, zQ_r, false_or, or_false, true_or, or_true, false_and, and_false, not_false_eq_true, not_true_eq_false, and_self, true_and, and_true, if_true, if_false, ite_true, ite_false, zgd_t]
theorem r_longest (c : MI h N) : MR (sX6_longest [.ref 125] h) (some (.int (nI (nmost N (2 ^ N 2) (N 2))))) 0 (MZ N h) := by
  have c1 := c.go (MZ.th c 0)
  have hF := c.2.2
  have h0 := hF.1.1
  have hs := hF.2.2.1
  obtain ⟨g, e1, fr⟩ := r_longestFrom c1.1 c1.2.1 hF.1 hF.bit.1 hs hF.bit.2
  have l2 := c1.2.1.at (i := 2) (by omega) (by omega)
  have m1 := c1.1
  refine ⟨g, ?_, (MZ.th c 0).tr (MZ.fr c1 fr loA_q), by rw [fr_th fr loA_q, th_0]⟩
  refine zsem_eq (Nat.le_of_ble_eq_true rfl) (zTo_of gX6_longest_0 ?_)
  simp only [c.1.1, m1.1, m1.2.2.2.1, m1.2.2.2.2.2.2.2.2.2.2.2.2.2.2.2.2.1, c_2, p_2, l2, show ¬ 149 ≤ 2 by omega, nx_shl1 (show N 2 < 32 by omega), e1, zmp_s, zlt_s, zcV_s, zcI_s, zcJ_s, zcA_s, zcD_s, zcF_s, zth_n, zth_t, zrt_s, zQ_l, zQ_r, false_or, or_false, true_or, or_true, false_and, and_false, not_false_eq_true, not_true_eq_false, and_self, true_and, and_true, if_true, if_false, ite_true, ite_false, zgd_t]
theorem r_longestOn (c : MI h N) : MR (sX6_longestOn [.ref 125] h) (some (.int (nI (nmost N (nset N) (N (4 + N 4)))))) 0 (MZ N h) := by
  have c1 := c.go (MZ.th c 0)
  have hF := c.2.2
  have hW := hF.1
  obtain ⟨g, e1, fr⟩ := r_longestFrom c1.1 c1.2.1 hF.1 hF.nset_lt hF.last (last_bit hF)
  refine ⟨g, ?_, (MZ.th c 0).tr (MZ.fr c1 fr loA_q), by rw [fr_th fr loA_q, th_0]⟩
  refine zsem_eq (Nat.le_of_ble_eq_true rfl) (zTo_of gX6_longestOn_0 ?_)
  simp only [c.1.1, c1.1.1, r_walkSet c1.1 c1.2.1 hW.2.2.1 hF.walk32, r_lastRoom c1.1 c1.2.1 hW.2.2.1 hF.2.2.2.2.1, e1, zmp_s, zlt_s, zcV_s, zcI_s, zcJ_s, zcA_s, zcD_s, zcF_s, zth_n, zth_t, zrt_s, zQ_l, zQ_r, false_or, or_false, true_or, or_true, false_and, and_false, not_false_eq_true, not_true_eq_false, and_self, true_and, and_true, if_true, if_false, ite_true, ite_false, zgd_t]
/-- walks laid, by a question -/
def CX (h g : zm_H) (N : zLv) : Prop := MZ N h g ∧ zI g 125 0 = zI h 125 0 ∧ NXT g N (2 ^ N 0) ∧ CMS g (N 0) (nWW N (2 ^ N 2) (N 2)) ∧ zFr cmA h g
theorem t_comes (c : MI h N) : ∃ g, sX6_layComes [.ref 125] h = some (.inl none, g) ∧ CX h g N := by
  obtain ⟨g, e1, fr, X, Y⟩ := r_layComes c.1 c.2.1 c.2.2.1 c.2.2.2.2.1
  exact ⟨g, e1, MZ.fr c fr cmA_q, fr_th fr cmA_q, X, Y, fr⟩
theorem t_endingSet (c : MI h N) : ∃ g, sX6_endingSet [.ref 125] h = some (.inl (some (.int (nI (nEn N)))), g) ∧ CX h g N := by
  obtain ⟨g, e1, w⟩ := t_comes c
  have c1 := c.go w.1
  have hF := c.2.2
  have hW := hF.1
  have h0 := hW.1
  have hp := pow_le h0
  have h1 := hF.2.1
  have one := Nat.one_le_two_pow (n := N 0)
  have h3 := hF.2.2.2.1
  refine ⟨g, ?_, w⟩
  have l3 := c1.2.1.e3
  have m1 := c1.1
  obtain ⟨E3, hE3⟩ : ∃ x, x = eI (N 3) := ⟨_, rfl⟩
  have hmE : ∀ r, r < 2 ^ 31 → ∀ h, sX6_mayEnd [.ref 125, .int (nI r), .int E3] h = some (.inl (some (.int (zb (nme N r)))), h) := fun r hr h => by rw [hE3]; exact r_mayEnd hr (by omega) h
  rw [← hE3] at l3
  refine zsem_eq (Nat.le_of_ble_eq_true rfl) (zTo_of gX6_endingSet_0 ?_)
  simp only [c.1.1, e1, zmp_s, zlt_s, zcV_s, zcI_s, zcJ_s, zcA_s, zcD_s, zcF_s, zth_n, zth_t, zrt_s, zQ_l, zQ_r, false_or, or_false, true_or, or_true, false_and, and_false, not_false_eq_true, not_true_eq_false, and_self, true_and, and_true, if_true, if_false, ite_true, ite_false, zgd_t]
  have key : ∀ d k, k + d = N 0 → zTo vX6_endingSet rX6_endingSet (6, [some (.ref 125), some (.int (nI (nmask (fun r => decide (0 < nWW N (2 ^ N 2) (N 2) (2 ^ N 0 - 1) r) && nme N r) k))), some (.int (nI k))], [], g) (fun y => y = (.inl (some (.int (nI (nEn N)))), g)) := by
    intro d
    induction d with
    | zero =>
      intro k hk
      have hk : k = N 0 := by omega
      subst hk
      refine zTo_of gX6_endingSet_6 ?_
      simp only [m1.1, r_rooms c1.1 c1.2.1, nI_le (Nat.le_refl _) (show N 0 < 2 ^ 31 by omega), zmp_s, zlt_s, zcV_s, zcI_s, zcJ_s, zcA_s, zcD_s, zcF_s, zth_n, zth_t, zrt_s, zQ_l, zQ_r, false_or, or_false, true_or, or_true, false_and, and_false, not_false_eq_true, not_true_eq_false, and_self, true_and, and_true, if_true, if_false, ite_true, ite_false, zgd_t]
      rfl
    | succ d ih =>
      intro k hk
      have hkn : k < N 0 := by omega
      obtain ⟨f1, f2, f3, f4⟩ := nI_for hkn (by omega)
      have cv := w.2.2.2.1 (2 ^ N 0 - 1) k (by omega) hkn
      have cl := nWW_lt hW (S0 := 2 ^ N 2) (a0 := N 2) (S := 2 ^ N 0 - 1) hkn
      have nx := ih (k + 1) (by omega)
      rw [nmask_s] at nx
      refine zTo_of gX6_endingSet_6 ?_
      simp only [m1.1, r_rooms c1.1 c1.2.1, f1, r_whole c1.1 c1.2.1 h0, r_comesTo c1.1 (show 2 ^ N 0 - 1 < 2048 by omega) (show k < 11 by omega), cv, lgle0 (show nWW N (2 ^ N 2) (N 2) (2 ^ N 0 - 1) k < 2 ^ 63 by omega), m1.2.2.2.1, m1.2.2.2.2.2.2.2.2.2.2.2.2.2.2.2.2.1, c_3, p_3, l3, show ¬ 149 ≤ 3 by omega, hmE k (by omega), zb_0, f4, or_0, nx_shl1 (show k < 32 by omega), nx_or, zmp_s, zlt_s, zcV_s, zcI_s, zcJ_s, zcA_s, zcD_s, zcF_s, zth_n, zth_t, zrt_s, zQ_l, zQ_r, false_or, or_false, true_or, or_true, false_and, and_false, not_false_eq_true, not_true_eq_false, and_self, true_and, and_true, if_true, if_false, ite_true, ite_false, zgd_t]
      by_cases z : nWW N (2 ^ N 2) (N 2) (2 ^ N 0 - 1) k = 0
      · simp only [z, Nat.lt_irrefl, decide_false, Bool.false_and, Bool.false_eq_true, false_or, or_false, true_or, or_true, false_and, and_false, not_false_eq_true, not_true_eq_false, and_self, true_and, and_true, if_true, if_false, ite_true, ite_false, zmp_s, zlt_s, zcV_s, zcI_s, zcJ_s, zcA_s, zcD_s, zcF_s, zth_n, zth_t, zrt_s, zQ_l, zQ_r] at nx ⊢
        exact nx
      · simp only [z, show 0 < nWW N (2 ^ N 2) (N 2) (2 ^ N 0 - 1) k by omega, decide_true, Bool.true_and, false_or, or_false, true_or, or_true, false_and, and_false, not_false_eq_true, not_true_eq_false, and_self, true_and, and_true, if_true, if_false, ite_true, ite_false, zmp_s, zlt_s, zcV_s, zcI_s, zcJ_s, zcA_s, zcD_s, zcF_s, zth_n, zth_t, zrt_s, zQ_l, zQ_r] at nx ⊢
        cases q : nme N k
        · simp only [q, Bool.false_eq_true, false_or, or_false, true_or, or_true, false_and, and_false, not_false_eq_true, not_true_eq_false, and_self, true_and, and_true, if_true, if_false, ite_true, ite_false, zmp_s, zlt_s, zcV_s, zcI_s, zcJ_s, zcA_s, zcD_s, zcF_s, zth_n, zth_t, zrt_s, zQ_l, zQ_r] at nx ⊢
          exact nx
        · simp only [q, Bool.true_eq_false, false_or, or_false, true_or, or_true, false_and, and_false, not_false_eq_true, not_true_eq_false, and_self, true_and, and_true, if_true, if_false, ite_true, ite_false, zmp_s, zlt_s, zcV_s, zcI_s, zcJ_s, zcA_s, zcD_s, zcF_s, zth_n, zth_t, zrt_s, zQ_l, zQ_r] at nx ⊢
          exact nx
  exact key (N 0) 0 (by omega)
theorem r_endings (c : MI h N) : MR (sX6_endings [.ref 125] h) (some (.int (nI (nEn N)))) 0 (MZ N h) := by
  have c1 := c.go (MZ.th c 0)
  obtain ⟨g, e1, w⟩ := t_endingSet c1
  refine ⟨g, ?_, (MZ.th c 0).tr w.1, by rw [w.2.1, th_0]⟩
  refine zsem_eq (Nat.le_of_ble_eq_true rfl) (zTo_of gX6_endings_0 ?_)
  simp only [c.1.1, c1.1.1, e1, zmp_s, zlt_s, zcV_s, zcI_s, zcJ_s, zcA_s, zcD_s, zcF_s, zth_n, zth_t, zrt_s, zQ_l, zQ_r, false_or, or_false, true_or, or_true, false_and, and_false, not_false_eq_true, not_true_eq_false, and_self, true_and, and_true, if_true, if_false, ite_true, ite_false, zgd_t]
theorem wy_from (Y : WY h N) {r : Nat} (hr : r < N 0) : zJ h 128 (11 * 2 ^ r + r) = lN (nTT N (2 ^ r) r) := by
  rw [Y (2 ^ r) r (Nat.two_pow_pos _) (pw_lt hr) hr, nWy_1]
theorem r_starts (c : MI h N) : MR (sX6_starts [.ref 125] h) (some (.int (nI (nSt N)))) 0 (MZ N h) := by
  have c1 := c.go (MZ.th c 0)
  obtain ⟨g, e1, w⟩ := t_now c1
  have c2 := c1.go w.1
  have hW := c.2.2.1
  have h0 := hW.1
  refine ⟨g, ?_, (MZ.th c 0).tr w.1, by rw [w.2.1, th_0]⟩
  refine zsem_eq (Nat.le_of_ble_eq_true rfl) (zTo_of gX6_starts_0 ?_)
  simp only [c.1.1, c1.1.1, e1, zmp_s, zlt_s, zcV_s, zcI_s, zcJ_s, zcA_s, zcD_s, zcF_s, zth_n, zth_t, zrt_s, zQ_l, zQ_r, false_or, or_false, true_or, or_true, false_and, and_false, not_false_eq_true, not_true_eq_false, and_self, true_and, and_true, if_true, if_false, ite_true, ite_false, zgd_t]
  refine zTo_for (f := fun r => (10, [some (.ref 125), none, none, some (.int (nI (nmask (fun r => decide (0 < nTT N (2 ^ r) r)) r))), some (.int (nI r))], [], g)) (N 0) 0 (Nat.zero_le _) (fun r _ hr => ?_) (zTo_of gX6_starts_10 ?_)
  · obtain ⟨f1, f2, f3, f4⟩ := nI_for hr (by omega)
    have tl := nTT_lt hW (pw_lt hr) r
    simp only [gX6_starts_10, c2.1.1, r_rooms c2.1 c2.2.1, f1, f4, r_toursFromRoom c2.1 (show r < 11 by omega), wy_from w.2.2.2 hr, lgle0 (show nTT N (2 ^ r) r < 2 ^ 63 by omega), nx_shl1 (show r < 32 by omega), nx_or, or_0, nmask_s, decide_eq_true_eq, zmp_s, zlt_s, zcV_s, zcI_s, zcJ_s, zcA_s, zcD_s, zcF_s, zth_n, zth_t, zrt_s, zQ_l, zQ_r, false_or, or_false, true_or, or_true, false_and, and_false, not_false_eq_true, not_true_eq_false, and_self, true_and, and_true, if_true, if_false, ite_true, ite_false, zgd_t]
    by_cases z : nTT N (2 ^ r) r = 0
    · simp only [z, Nat.lt_irrefl, false_or, or_false, true_or, or_true, false_and, and_false, not_false_eq_true, not_true_eq_false, and_self, true_and, and_true, if_true, if_false, ite_true, ite_false]
    · simp only [z, show 0 < nTT N (2 ^ r) r by omega, false_or, or_false, true_or, or_true, false_and, and_false, not_false_eq_true, not_true_eq_false, and_self, true_and, and_true, if_true, if_false, ite_true, ite_false]
  · simp only [c2.1.1, r_rooms c2.1 c2.2.1, nI_le (Nat.le_refl _) (show N 0 < 2 ^ 31 by omega), zmp_s, zlt_s, zcV_s, zcI_s, zcJ_s, zcA_s, zcD_s, zcF_s, zth_n, zth_t, zrt_s, zQ_l, zQ_r, false_or, or_false, true_or, or_true, false_and, and_false, not_false_eq_true, not_true_eq_false, and_self, true_and, and_true, if_true, if_false, ite_true, ite_false, zgd_t]
    rfl
theorem r_toursFrom (c : MI h N) {r : Nat} (hr : r < N 0) : MR (sX6_toursFrom [.ref 125, .int (nI r)] h) (some (.long (lN (nTT N (2 ^ r) r)))) 0 (MZ N h) := by
  have c1 := c.go (MZ.th c 0)
  obtain ⟨g, e1, w⟩ := t_now c1
  have c2 := c1.go w.1
  have h0 := c.2.2.1.1
  refine ⟨g, ?_, (MZ.th c 0).tr w.1, by rw [w.2.1, th_0]⟩
  refine zsem_eq (Nat.le_of_ble_eq_true rfl) (zTo_of gX6_toursFrom_0 ?_)
  simp only [c.1.1, r_isRoom c.1 c.2.1 h0 hr, p1_t c.1, i10, c1.1.1, e1, c2.1.1, r_toursFromRoom c2.1 (show r < 11 by omega), wy_from w.2.2.2 hr, zmp_s, zlt_s, zcV_s, zcI_s, zcJ_s, zcA_s, zcD_s, zcF_s, zth_n, zth_t, zrt_s, zQ_l, zQ_r, false_or, or_false, true_or, or_true, false_and, and_false, not_false_eq_true, not_true_eq_false, and_self, true_and, and_true, if_true, if_false, ite_true, ite_false, zgd_t]
theorem r_toursFromX (c : MI h N) {x : Int32} (hx : x < 0 ∨ nI (N 0) ≤ x) : MR (sX6_toursFrom [.ref 125, .int x] h) (some (.long 0)) 1 (MZ N h) := by
  refine ⟨zsI h 125 0 1, ?_, MZ.th c 1, th_0⟩
  refine zsem_eq (Nat.le_of_ble_eq_true rfl) (zTo_of gX6_toursFrom_0 ?_)
  simp only [r_isRoomX c.1 c.2.1 c.2.2.1.1 hx, c.1.1, p1_f c.1, zmp_s, zlt_s, zcV_s, zcI_s, zcJ_s, zcA_s, zcD_s, zcF_s, zth_n, zth_t, zrt_s, zQ_l, zQ_r, false_or, or_false, true_or, or_true, false_and, and_false, not_false_eq_true, not_true_eq_false, and_self, true_and, and_true, if_true, if_false, ite_true, ite_false, zgd_t]
theorem r_toursTo (c : MI h N) {r : Nat} (hr : r < N 0) : MR (sX6_toursTo [.ref 125, .int (nI r)] h) (some (.long (lN (nTt N r)))) 0 (MZ N h) := by
  have c1 := c.go (MZ.th c 0)
  obtain ⟨g, e1, w⟩ := t_comes c1
  have c2 := c1.go w.1
  have h0 := c.2.2.1.1
  have hp := pow_le h0
  have one := Nat.one_le_two_pow (n := N 0)
  have cv := w.2.2.2.1 (2 ^ N 0 - 1) r (by omega) hr
  refine ⟨g, ?_, (MZ.th c 0).tr w.1, by rw [w.2.1, th_0]⟩
  refine zsem_eq (Nat.le_of_ble_eq_true rfl) (zTo_of gX6_toursTo_0 ?_)
  simp only [c.1.1, r_isRoom c.1 c.2.1 h0 hr, p1_t c.1, i10, c1.1.1, e1, c2.1.1, r_whole c2.1 c2.2.1 h0, r_comesTo c2.1 (show 2 ^ N 0 - 1 < 2048 by omega) (show r < 11 by omega), cv, zmp_s, zlt_s, zcV_s, zcI_s, zcJ_s, zcA_s, zcD_s, zcF_s, zth_n, zth_t, zrt_s, zQ_l, zQ_r, false_or, or_false, true_or, or_true, false_and, and_false, not_false_eq_true, not_true_eq_false, and_self, true_and, and_true, if_true, if_false, ite_true, ite_false, zgd_t]
  rfl
theorem r_toursToX (c : MI h N) {x : Int32} (hx : x < 0 ∨ nI (N 0) ≤ x) : MR (sX6_toursTo [.ref 125, .int x] h) (some (.long 0)) 1 (MZ N h) := by
  refine ⟨zsI h 125 0 1, ?_, MZ.th c 1, th_0⟩
  refine zsem_eq (Nat.le_of_ble_eq_true rfl) (zTo_of gX6_toursTo_0 ?_)
  simp only [r_isRoomX c.1 c.2.1 c.2.2.1.1 hx, c.1.1, p1_f c.1, zmp_s, zlt_s, zcV_s, zcI_s, zcJ_s, zcA_s, zcD_s, zcF_s, zth_n, zth_t, zrt_s, zQ_l, zQ_r, false_or, or_false, true_or, or_true, false_and, and_false, not_false_eq_true, not_true_eq_false, and_self, true_and, and_true, if_true, if_false, ite_true, ite_false, zgd_t]
end
end ZMJ
