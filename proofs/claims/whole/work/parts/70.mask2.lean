/-! THE MODEL: questions about tours. -/
section ZMH
section
variable {h : zm_H} {N : zLv}
theorem why_nnx (hF : WF N) {r : Nat} (hr : r < N 0) : (nWhy N r = 0) = (nnx N (nset N) (N (4 + N 4)) r = true) := by
  apply propext
  constructor
  · intro e; exact (why0 hF hr e).1
  · intro e
    unfold nnx at e
    simp only [Bool.and_eq_true, Bool.not_eq_true'] at e
    obtain ⟨e1, e2⟩ := e
    unfold nWhy
    rw [place_bit hF] at e2
    rw [if_neg (by rw [e2]; simp)]
    have : nany (fun d => ndgo N d (N (4 + N 4)) r && nopen N d (nkeys N (nset N)) (ncoins N (nset N))) (N 1) = true := by
      unfold nld at e1
      rw [nld_bit] at e1
      obtain ⟨k, k1, k2⟩ := nany_iff.mp e1
      refine nany_iff.mpr ⟨k, k1, ?_⟩
      rw [Bool.and_comm]; exact k2
    rw [if_pos this]
theorem r_exitSet (c : MI h N) : sX6_exitSet [.ref 125] h = some (.inl (some (.int (nI (nEx N)))), h) := by
  have h0 := c.2.2.1.1
  refine zsem_eq (Nat.le_of_ble_eq_true rfl) (zTo_of gX6_exitSet_0 ?_)
  have e : nI (nEx N) = nI (nmask (fun r => decide (nWhy N r = 0)) (N 0)) := by
    unfold nEx
    congr 1
    apply nat_ext; intro i
    rw [nmask_bit, nmask_bit]
    by_cases w : i < N 0
    · simp only [w, decide_true, Bool.true_and]
      have := why_nnx c.2.2 w
      cases q : nnx N (nset N) (N (4 + N 4)) i
      · rw [q] at this
        have : ¬ nWhy N i = 0 := by rw [this]; simp
        simp [this]
      · rw [q] at this
        have : nWhy N i = 0 := by rw [this]
        simp [this]
    · simp [w]
  rw [e]
  refine zTo_for (f := fun r => (4, [some (.ref 125), some (.int (nI (nmask (fun r => decide (nWhy N r = 0)) r))), some (.int (nI r))], [], h)) (N 0) 0 (Nat.zero_le _) (fun r _ hr => ?_) (zTo_of gX6_exitSet_4 ?_)
  · obtain ⟨f1, f2, f3, f4⟩ := nI_for hr (by omega)
    simp only [gX6_exitSet_4, c.1.1, r_rooms c.1 c.2.1, f1, f4, r_whyNot c hr, nI_eq0 (show nWhy N r < 2 ^ 31 by have := nWhy_lt N r; omega), or_0, nx_shl1 (show r < 32 by omega), nx_or, nmask_s, decide_eq_true_eq, zmp_s, zlt_s, zcV_s, zcI_s, zcJ_s, zcA_s, zcD_s, zcF_s, zth_n, zth_t, zrt_s, zQ_l, zQ_r, false_or, or_false, true_or, or_true, false_and, and_false, not_false_eq_true, not_true_eq_false, and_self, true_and, and_true, if_true, if_false, ite_true, ite_false, zgd_t]
    by_cases w : nWhy N r = 0
    · simp only [w, false_or, or_false, true_or, or_true, false_and, and_false, not_false_eq_true, not_true_eq_false, and_self, true_and, and_true, if_true, if_false, ite_true, ite_false]
    · simp only [w, false_or, or_false, true_or, or_true, false_and, and_false, not_false_eq_true, not_true_eq_false, and_self, true_and, and_true, if_true, if_false, ite_true, ite_false]
  · simp only [c.1.1, r_rooms c.1 c.2.1, nI_le (Nat.le_refl _) (show N 0 < 2 ^ 31 by omega), zmp_s, zlt_s, zcV_s, zcI_s, zcJ_s, zcA_s, zcD_s, zcF_s, zth_n, zth_t, zrt_s, zQ_l, zQ_r, false_or, or_false, true_or, or_true, false_and, and_false, not_false_eq_true, not_true_eq_false, and_self, true_and, and_true, if_true, if_false, ite_true, ite_false, zgd_t]
theorem r_exits (c : MI h N) : MR (sX6_exits [.ref 125] h) (some (.int (nI (nEx N)))) 0 (MZ N h) := by
  have c1 := c.go (MZ.th c 0)
  refine ⟨zsI h 125 0 0, ?_, MZ.th c 0, th_0⟩
  refine zsem_eq (Nat.le_of_ble_eq_true rfl) (zTo_of gX6_exits_0 ?_)
  simp only [c.1.1, c1.1.1, r_exitSet c1, zmp_s, zlt_s, zcV_s, zcI_s, zcJ_s, zcA_s, zcD_s, zcF_s, zth_n, zth_t, zrt_s, zQ_l, zQ_r, false_or, or_false, true_or, or_true, false_and, and_false, not_false_eq_true, not_true_eq_false, and_self, true_and, and_true, if_true, if_false, ite_true, ite_false, zgd_t]
/-- tours laid, by a question -/
def WX (h g : zm_H) (N : zLv) : Prop := MZ N h g ∧ zI g 125 0 = zI h 125 0 ∧ NXT g N (2 ^ N 0) ∧ WY g N
theorem t_now (c : MI h N) : ∃ g, sX6_toursNow [.ref 125] h = some (.inl (some (.long (lN (nTo N)))), g) ∧ WX h g N := by
  obtain ⟨g, e1, fr, X, Y⟩ := r_toursNow c.1 c.2.1 c.2.2.lc
  exact ⟨g, e1, MZ.fr c fr wyA_q, fr_th fr wyA_q, X, Y⟩
theorem r_tours (c : MI h N) : MR (sX6_tours [.ref 125] h) (some (.long (lN (nTo N)))) 0 (MZ N h) := by
  have c1 := c.go (MZ.th c 0)
  obtain ⟨g, e1, w⟩ := t_now c1
  refine ⟨g, ?_, (MZ.th c 0).tr w.1, by rw [w.2.1, th_0]⟩
  refine zsem_eq (Nat.le_of_ble_eq_true rfl) (zTo_of gX6_tours_0 ?_)
  simp only [c.1.1, c1.1.1, e1, zmp_s, zlt_s, zcV_s, zcI_s, zcJ_s, zcA_s, zcD_s, zcF_s, zth_n, zth_t, zrt_s, zQ_l, zQ_r, false_or, or_false, true_or, or_true, false_and, and_false, not_false_eq_true, not_true_eq_false, and_self, true_and, and_true, if_true, if_false, ite_true, ite_false, zgd_t]
theorem nset_pos (hF : WF N) : 0 < nset N := by
  have h41 := hF.2.2.2.2.1
  have : (nset N).testBit (nwk N 0) = true := by
    rw [nset_nsk, nsk_bit]; exact nany_iff.mpr ⟨0, by omega, by simp⟩
  rcases Nat.eq_zero_or_pos (nset N) with e | e
  · rw [e, Nat.zero_testBit] at this; cases this
  · exact e
theorem last_bit (hF : WF N) : (nset N).testBit (N (4 + N 4)) = true := by
  have h41 := hF.2.2.2.2.1
  rw [nset_nsk, nsk_bit]
  refine nany_iff.mpr ⟨N 4 - 1, by omega, ?_⟩
  unfold nwk
  rw [show 5 + (N 4 - 1) = 4 + N 4 by omega]
  simp
theorem wy_co (hF : WF N) (Y : WY h N) : zJ h 128 (11 * nset N + N (4 + N 4)) = lN (nCo N) := by
  rw [Y _ _ (nset_pos hF) hF.nset_lt hF.last]
  unfold nWy nCo
  rw [if_pos (last_bit hF)]
theorem t_co (c : MI h N) : ∃ g, sX6_completionsNow [.ref 125] h = some (.inl (some (.long (lN (nCo N)))), g) ∧ WX h g N := by
  obtain ⟨g, e1, w⟩ := t_now c
  have c1 := c.go w.1
  refine ⟨g, ?_, w⟩
  have hF := c.2.2
  have hW := hF.1
  have hp := pow_le hW.1
  have h0 := hW.1
  have hl := hF.last
  have hn := hF.nset_lt
  refine zsem_eq (Nat.le_of_ble_eq_true rfl) (zTo_of gX6_completionsNow_0 ?_)
  simp only [c.1.1, e1, c1.1.1, r_walkSet c1.1 c1.2.1 hW.2.2.1 hF.walk32, r_lastRoom c1.1 c1.2.1 hW.2.2.1 hF.2.2.2.2.1, r_waysOf c1.1 (show nset N < 2048 by omega) (show N (4 + N 4) < 11 by omega), wy_co hF w.2.2.2, zmp_s, zlt_s, zcV_s, zcI_s, zcJ_s, zcA_s, zcD_s, zcF_s, zth_n, zth_t, zrt_s, zQ_l, zQ_r, false_or, or_false, true_or, or_true, false_and, and_false, not_false_eq_true, not_true_eq_false, and_self, true_and, and_true, if_true, if_false, ite_true, ite_false, zgd_t]
theorem r_completions (c : MI h N) : MR (sX6_completions [.ref 125] h) (some (.long (lN (nCo N)))) 0 (MZ N h) := by
  have c1 := c.go (MZ.th c 0)
  obtain ⟨g, e1, w⟩ := t_co c1
  refine ⟨g, ?_, (MZ.th c 0).tr w.1, by rw [w.2.1, th_0]⟩
  refine zsem_eq (Nat.le_of_ble_eq_true rfl) (zTo_of gX6_completions_0 ?_)
  simp only [c.1.1, c1.1.1, e1, zmp_s, zlt_s, zcV_s, zcI_s, zcJ_s, zcA_s, zcD_s, zcF_s, zth_n, zth_t, zrt_s, zQ_l, zQ_r, false_or, or_false, true_or, or_true, false_and, and_false, not_false_eq_true, not_true_eq_false, and_self, true_and, and_true, if_true, if_false, ite_true, ite_false, zgd_t]
theorem wy_cb (hF : WF N) (Y : WY h N) {r : Nat} (x : nnx N (nset N) (N (4 + N 4)) r = true) : zJ h 128 (11 * (nset N ||| 2 ^ r) + r) = lN (nCb N r) := ways_cn hF.1 Y hF.nset_lt x
theorem r_completionsBy (c : MI h N) {r : Nat} (hr : r < N 0) : MR (sX6_completionsBy [.ref 125, .int (nI r)] h) (some (.long (lN (nCb N r)))) 0 (MZ N h) := by
  have c1 := c.go (MZ.th c 0)
  obtain ⟨g, e1, w⟩ := t_now c1
  have c2 := c1.go w.1
  have hF := c.2.2
  have hW := hF.1
  have hp := pow_le hW.1
  have h0 := hW.1
  have hn := hF.nset_lt
  have hw := why_nnx hF hr
  refine ⟨g, ?_, (MZ.th c 0).tr w.1, by rw [w.2.1, th_0]⟩
  refine zsem_eq (Nat.le_of_ble_eq_true rfl) (zTo_of gX6_completionsBy_0 ?_)
  simp only [r_isRoom c.1 c.2.1 h0 hr, c.1.1, p1_t c.1, i10, c1.1.1, e1, c2.1.1, r_whyNot c2 hr, nI_eq0 (show nWhy N r < 2 ^ 31 by have := nWhy_lt N r; omega), r_walkSet c2.1 c2.2.1 hW.2.2.1 hF.walk32, nx_shl1 (show r < 32 by omega), nx_or, r_waysOf c2.1 (show nset N ||| 2 ^ r < 2048 by have := or_lt2 hn hr; omega) (show r < 11 by omega), hw, zmp_s, zlt_s, zcV_s, zcI_s, zcJ_s, zcA_s, zcD_s, zcF_s, zth_n, zth_t, zrt_s, zQ_l, zQ_r, false_or, or_false, true_or, or_true, false_and, and_false, not_false_eq_true, not_true_eq_false, and_self, true_and, and_true, if_true, if_false, ite_true, ite_false, zgd_t]
  by_cases x : nnx N (nset N) (N (4 + N 4)) r = true
  · simp only [x, false_or, or_false, true_or, or_true, false_and, and_false, not_false_eq_true, not_true_eq_false, and_self, true_and, and_true, if_true, if_false, ite_true, ite_false, zmp_s, zlt_s, zcV_s, zcI_s, zcJ_s, zcA_s, zcD_s, zcF_s, zth_n, zth_t, zrt_s, zQ_l, zQ_r, wy_cb hF w.2.2.2 x]
  · have : nCb N r = 0 := by unfold nCb ncn; rw [if_neg x]
    simp only [x, false_or, or_false, true_or, or_true, false_and, and_false, not_false_eq_true, not_true_eq_false, and_self, true_and, and_true, if_true, if_false, ite_true, ite_false, zmp_s, zlt_s, zcV_s, zcI_s, zcJ_s, zcA_s, zcD_s, zcF_s, zth_n, zth_t, zrt_s, zQ_l, zQ_r, this]; rfl
theorem r_completionsByX (c : MI h N) {x : Int32} (hx : x < 0 ∨ nI (N 0) ≤ x) : MR (sX6_completionsBy [.ref 125, .int x] h) (some (.long 0)) 1 (MZ N h) := by
  refine ⟨zsI h 125 0 1, ?_, MZ.th c 1, th_0⟩
  refine zsem_eq (Nat.le_of_ble_eq_true rfl) (zTo_of gX6_completionsBy_0 ?_)
  simp only [r_isRoomX c.1 c.2.1 c.2.2.1.1 hx, c.1.1, p1_f c.1, zmp_s, zlt_s, zcV_s, zcI_s, zcJ_s, zcA_s, zcD_s, zcF_s, zth_n, zth_t, zrt_s, zQ_l, zQ_r, false_or, or_false, true_or, or_true, false_and, and_false, not_false_eq_true, not_true_eq_false, and_self, true_and, and_true, if_true, if_false, ite_true, ite_false, zgd_t]
theorem nEx_bit {r : Nat} (hr : r < N 0) : (nEx N).testBit r = nnx N (nset N) (N (4 + N 4)) r := by
  unfold nEx
  rw [nmask_bit]; simp [hr]
theorem r_good (c : MI h N) : MR (sX6_good [.ref 125] h) (some (.int (nI (nGo N)))) 0 (MZ N h) := by
  have c1 := c.go (MZ.th c 0)
  obtain ⟨g, e1, w⟩ := t_now c1
  have c2 := c1.go w.1
  have hF := c.2.2
  have hW := hF.1
  have hp := pow_le hW.1
  have h0 := hW.1
  have hn := hF.nset_lt
  have hex := nmask_lt (fun r => nnx N (nset N) (N (4 + N 4)) r) (N 0)
  refine ⟨g, ?_, (MZ.th c 0).tr w.1, by rw [w.2.1, th_0]⟩
  refine zsem_eq (Nat.le_of_ble_eq_true rfl) (zTo_of gX6_good_0 ?_)
  simp only [c.1.1, c1.1.1, e1, c2.1.1, r_exitSet c2, zmp_s, zlt_s, zcV_s, zcI_s, zcJ_s, zcA_s, zcD_s, zcF_s, zth_n, zth_t, zrt_s, zQ_l, zQ_r, false_or, or_false, true_or, or_true, false_and, and_false, not_false_eq_true, not_true_eq_false, and_self, true_and, and_true, if_true, if_false, ite_true, ite_false, zgd_t]
  refine zTo_for (f := fun r => (13, [some (.ref 125), none, none, some (.int (nI (nEx N))), some (.int (nI (nmask (fun r => decide (0 < nCb N r)) r))), some (.int (nI r))], [], g)) (N 0) 0 (Nat.zero_le _) (fun r _ hr => ?_) (zTo_of gX6_good_13 ?_)
  · obtain ⟨f1, f2, f3, f4⟩ := nI_for hr (by omega)
    have cl := nCb_lt hF r
    simp only [gX6_good_13, c2.1.1, r_rooms c2.1 c2.2.1, f1, f4, r_has (show nEx N < 2 ^ 31 by unfold nEx; omega) (show r < 32 by omega), nEx_bit hr, zb_0, r_walkSet c2.1 c2.2.1 hW.2.2.1 hF.walk32, nx_shl1 (show r < 32 by omega), nx_or, or_0, r_waysOf c2.1 (show nset N ||| 2 ^ r < 2048 by have := or_lt2 hn hr; omega) (show r < 11 by omega), nmask_s, decide_eq_true_eq, zmp_s, zlt_s, zcV_s, zcI_s, zcJ_s, zcA_s, zcD_s, zcF_s, zth_n, zth_t, zrt_s, zQ_l, zQ_r, false_or, or_false, true_or, or_true, false_and, and_false, not_false_eq_true, not_true_eq_false, and_self, true_and, and_true, if_true, if_false, ite_true, ite_false, zgd_t]
    by_cases x : nnx N (nset N) (N (4 + N 4)) r = true
    · simp only [x, Bool.true_eq_false, wy_cb hF w.2.2.2 x, lgle0 (show nCb N r < 2 ^ 63 by omega), false_or, or_false, true_or, or_true, false_and, and_false, not_false_eq_true, not_true_eq_false, and_self, true_and, and_true, if_true, if_false, ite_true, ite_false]
      by_cases z : nCb N r = 0
      · simp only [z, Nat.lt_irrefl, false_or, or_false, true_or, or_true, false_and, and_false, not_false_eq_true, not_true_eq_false, and_self, true_and, and_true, if_true, if_false, ite_true, ite_false]
      · simp only [z, show 0 < nCb N r by omega, false_or, or_false, true_or, or_true, false_and, and_false, not_false_eq_true, not_true_eq_false, and_self, true_and, and_true, if_true, if_false, ite_true, ite_false]
    · have z : nCb N r = 0 := by unfold nCb ncn; rw [if_neg x]
      have x : nnx N (nset N) (N (4 + N 4)) r = false := by simpa using x
      simp only [x, z, Nat.lt_irrefl, false_or, or_false, true_or, or_true, false_and, and_false, not_false_eq_true, not_true_eq_false, and_self, true_and, and_true, if_true, if_false, ite_true, ite_false]
  · simp only [c2.1.1, r_rooms c2.1 c2.2.1, nI_le (Nat.le_refl _) (show N 0 < 2 ^ 31 by omega), zmp_s, zlt_s, zcV_s, zcI_s, zcJ_s, zcA_s, zcD_s, zcF_s, zth_n, zth_t, zrt_s, zQ_l, zQ_r, false_or, or_false, true_or, or_true, false_and, and_false, not_false_eq_true, not_true_eq_false, and_self, true_and, and_true, if_true, if_false, ite_true, ite_false, zgd_t]
    rfl
/-- tours of a shorter walk are no fewer -/
theorem wp_mono (hF : WF N) {k : Nat} (hk : k + 1 < N 4) (h1 : nWp N (k + 1) = true) : nWp N k = true := by
  unfold nWp at h1 ⊢
  have h1 := of_decide_eq_true h1
  apply decide_eq_true
  have hs := hF.2.2.2.2.2.2.2.1 k hk
  have hl : nsk (nwk N) (k + 1) < 2 ^ N 0 := hF.set_lt (by omega)
  rw [nTT_eq hF.1 hl]
  have : 0 < zsu (ncn N (nsk (nwk N) (k + 1)) (nwk N k)) (N 0) := by
    refine zsu_pos (hF.wk hk) ?_
    unfold ncn
    rw [if_pos hs]
    exact h1
  omega
theorem wp_0 (hF : WF N) : (nWp N 0 = true) = (0 < nTo N) := by
  have h5 := hF.2.2.2.2.2.2.1
  unfold nWp nTo
  have e : nsk (nwk N) (0 + 1) = 2 ^ N 2 := by
    show 0 ||| 2 ^ nwk N 0 = _
    unfold nwk
    rw [Nat.zero_or, show 5 + 0 = 5 from rfl, h5]
  have e2 : nwk N 0 = N 2 := by unfold nwk; exact h5
  rw [e, e2]
  simp
theorem wp_none (hF : WF N) (h0 : nTo N = 0) : ∀ k, k < N 4 → nWp N k = false := by
  intro k
  induction k with
  | zero =>
    intro _
    cases q : nWp N 0
    · rfl
    · rw [wp_0 hF] at q; omega
  | succ k ih =>
    intro hk
    cases q : nWp N (k + 1)
    · rfl
    · have := wp_mono hF hk q
      rw [ih (by omega)] at this
      cases this
def nwl (N : zLv) (k : Nat) : Nat := match nlst (nWp N) k with
  | some j => j + 1
  | none => 0
theorem nwl_s (k : Nat) : nwl N (k + 1) = if nWp N k = true then k + 1 else nwl N k := by
  unfold nwl
  rw [show nlst (nWp N) (k + 1) = if nWp N k = true then some k else nlst (nWp N) k from rfl]
  cases nWp N k <;> rfl
theorem nlst_none {p : Nat → Bool} : ∀ {n : Nat}, (∀ k, k < n → p k = false) → nlst p n = none := by
  intro n
  induction n with
  | zero => intro _; rfl
  | succ n ih =>
    intro q
    unfold nlst
    rw [q n (by omega)]
    exact ih (fun k hk => q k (by omega))
theorem nlst_le {p : Nat → Bool} : ∀ {n k : Nat}, nlst p n = some k → k < n := by
  intro n
  induction n with
  | zero => intro k q; cases q
  | succ n ih =>
    intro k q
    unfold nlst at q
    cases w : p n
    · rw [w] at q; have := ih q; omega
    · rw [w] at q
      have q : some n = some k := q
      cases q; omega
theorem r_wrong (c : MI h N) : MR (sX6_wrong [.ref 125] h) (some (.int (nWr N))) 0 (MZ N h) := by
  have c1 := c.go (MZ.th c 0)
  obtain ⟨g, e1, w⟩ := t_now c1
  have c2 := c1.go w.1
  have hF := c.2.2
  have hW := hF.1
  have hp := pow_le hW.1
  have h0 := hW.1
  have h4 := hW.2.2.1
  have tl := nTo_lt hF
  refine ⟨g, ?_, (MZ.th c 0).tr w.1, by rw [w.2.1, th_0]⟩
  refine zsem_eq (Nat.le_of_ble_eq_true rfl) (zTo_of gX6_wrong_0 ?_)
  simp only [c.1.1, c1.1.1, e1, lgeq0 (show nTo N < 2 ^ 63 by omega), zmp_s, zlt_s, zcV_s, zcI_s, zcJ_s, zcA_s, zcD_s, zcF_s, zth_n, zth_t, zrt_s, zQ_l, zQ_r, false_or, or_false, true_or, or_true, false_and, and_false, not_false_eq_true, not_true_eq_false, and_self, true_and, and_true, if_true, if_false, ite_true, ite_false, zgd_t]
  by_cases z : nTo N = 0
  · simp only [z, false_or, or_false, true_or, or_true, false_and, and_false, not_false_eq_true, not_true_eq_false, and_self, true_and, and_true, if_true, if_false, ite_true, ite_false, zmp_s, zlt_s, zcV_s, zcI_s, zcJ_s, zcA_s, zcD_s, zcF_s, zth_n, zth_t, zrt_s, zQ_l, zQ_r]
    unfold nWr
    rw [nlst_none (wp_none hF z)]
  · simp only [z, false_or, or_false, true_or, or_true, false_and, and_false, not_false_eq_true, not_true_eq_false, and_self, true_and, and_true, if_true, if_false, ite_true, ite_false, zmp_s, zlt_s, zcV_s, zcI_s, zcJ_s, zcA_s, zcD_s, zcF_s, zth_n, zth_t, zrt_s, zQ_l, zQ_r]
    obtain ⟨m0, mL, _⟩ := c2
    have ww := fun k (hk : k < N 4) => r_walkedAt m0 mL (show k < 100 by omega)
    have l4 := mL.at (i := 4) (by omega) (by omega)
    have rw1 := fun {S a : Nat} (hS : S < 2048) (ha : a < 11) => r_waysOf m0 hS ha
    have Y := w.2.2.2
    obtain ⟨t0, t3, tq, t1, t2, t4, t5, t6, t7, t8, t9, t10, t21, t22, t23, t25, n6, n7, n8, n9, n10, n11, n12, n13, n14, n15, n16, n17, n18⟩ := m0
    have key : ∀ d k, k + d = N 4 → zTo vX6_wrong rX6_wrong (16, [some (.ref 125), some (.int (nI (nsk (nwk N) k))), some (.int (nI (nwl N k))), some (.int (nI k))], [], g) (fun y => y = (.inl (some (.int (nWr N))), g)) := by
      intro d
      induction d with
      | zero =>
        intro k hk
        have hk : k = N 4 := by omega
        refine zTo_of gX6_wrong_16 ?_
        have ex : nWr N = nI (N 4) - nI (nwl N (N 4)) := by
          unfold nWr nwl
          cases q : nlst (nWp N) (N 4) with
          | none =>
            have p0 : nWp N 0 = true := by rw [wp_0 hF]; omega
            exfalso
            have h41 := hF.2.2.2.2.1
            have : ∀ n, 0 < n → nlst (nWp N) n ≠ none := by
              intro n
              induction n with
              | zero => intro x; omega
              | succ n ih =>
                intro _ x
                unfold nlst at x
                cases u : nWp N n
                · rw [u] at x
                  by_cases n0 : n = 0
                  · rw [n0, p0] at u; cases u
                  · exact ih (by omega) x
                · rw [u] at x; cases x
            exact this (N 4) (by omega) q
          | some j =>
            have := nlst_le q
            show nI (N 4 - 1 - j) = nI (N 4) - nI (j + 1)
            rw [pk_sub (by omega)]
            congr 1; omega
        simp only [t0, t1, n6, c_4, p_4, l4, show ¬ 149 ≤ 4 by omega, hk, nI_le (Nat.le_refl _) (show N 4 < 2 ^ 31 by omega), ex, zmp_s, zlt_s, zcV_s, zcI_s, zcJ_s, zcA_s, zcD_s, zcF_s, zth_n, zth_t, zrt_s, zQ_l, zQ_r, false_or, or_false, true_or, or_true, false_and, and_false, not_false_eq_true, not_true_eq_false, and_self, true_and, and_true, if_true, if_false, ite_true, ite_false, zgd_t]
      | succ d ih =>
        intro k hk
        obtain ⟨f1, f2, f3, f4⟩ := nI_for (show k < N 4 by omega) (by omega)
        have w1 : sX6_walkedAt [.ref 125, .int (nI k)] g = some (.inl (some (.int (nI (nwk N k)))), g) := ww k (by omega)
        have y2 := hF.wk (show k < N 4 by omega)
        have hSl : nsk (nwk N) (k + 1) < 2 ^ N 0 := hF.set_lt (by omega)
        have hSe : nsk (nwk N) k ||| 2 ^ nwk N k = nsk (nwk N) (k + 1) := rfl
        have hb : (nsk (nwk N) (k + 1)).testBit (nwk N k) = true := by rw [nsk_bit]; exact nany_iff.mpr ⟨k, by omega, by simp⟩
        have S0 : 0 < nsk (nwk N) (k + 1) := by
          rcases Nat.eq_zero_or_pos (nsk (nwk N) (k + 1)) with e | e
          · rw [e, Nat.zero_testBit] at hb; cases hb
          · exact e
        have yv := Y _ _ S0 hSl y2
        unfold nWy at yv
        rw [if_pos hb] at yv
        have tl2 := nTT_lt hW hSl (nwk N k)
        have nx := ih (k + 1) (by omega)
        rw [nwl_s] at nx
        refine zTo_of gX6_wrong_16 ?_
        simp only [t0, t1, n6, c_4, p_4, l4, show ¬ 149 ≤ 4 by omega, f1, f4, w1, nx_shl1 (show nwk N k < 32 by omega), nx_or, hSe, rw1 (show nsk (nwk N) (k + 1) < 2048 by omega) (show nwk N k < 11 by omega), yv, lgle0 (show nTT N (nsk (nwk N) (k + 1)) (nwk N k) < 2 ^ 63 by omega), zmp_s, zlt_s, zcV_s, zcI_s, zcJ_s, zcA_s, zcD_s, zcF_s, zth_n, zth_t, zrt_s, zQ_l, zQ_r, false_or, or_false, true_or, or_true, false_and, and_false, not_false_eq_true, not_true_eq_false, and_self, true_and, and_true, if_true, if_false, ite_true, ite_false, zgd_t]
        by_cases z2 : nTT N (nsk (nwk N) (k + 1)) (nwk N k) = 0
        · have u : ¬ nWp N k = true := by unfold nWp; rw [z2]; simp
          rw [if_neg u] at nx
          simp only [z2, false_or, or_false, true_or, or_true, false_and, and_false, not_false_eq_true, not_true_eq_false, and_self, true_and, and_true, if_true, if_false, ite_true, ite_false, zmp_s, zlt_s, zcV_s, zcI_s, zcJ_s, zcA_s, zcD_s, zcF_s, zth_n, zth_t, zrt_s, zQ_l, zQ_r]
          exact nx
        · have u : nWp N k = true := by unfold nWp; exact decide_eq_true (by omega)
          rw [if_pos u] at nx
          simp only [z2, false_or, or_false, true_or, or_true, false_and, and_false, not_false_eq_true, not_true_eq_false, and_self, true_and, and_true, if_true, if_false, ite_true, ite_false, zmp_s, zlt_s, zcV_s, zcI_s, zcJ_s, zcA_s, zcD_s, zcF_s, zth_n, zth_t, zrt_s, zQ_l, zQ_r]
          exact nx
    exact key (N 4) 0 (by omega)
end
end ZMH
