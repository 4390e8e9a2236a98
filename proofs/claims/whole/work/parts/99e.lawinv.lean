/-! THE LAW: a round's frame. -/
section ZLI
def CPL (h : zm_H) (N : zLv) (P : List zLv) (K : Nat → Option zLv) (xs ys : List Int32) : Prop := CI h N ∧ HH h P ∧ SL h K ∧ BL h 1 2 500 xs ∧ BL h 3 4 77 ys
def MP (h : zm_H) (N : zLv) (P : List zLv) (K : Nat → Option zLv) (xs ys : List Int32) : Prop := MI h N ∧ HP h P ∧ KS h K ∧ MB h xs ∧ MO h ys
def cfA : Nat → Prop := fun c => c ≤ 124
def mfA : Nat → Prop := fun c => 125 ≤ c ∧ c ≤ 138
/-- the class's step -/
def CZ (h g : zm_H) (N : zLv) (P : List zLv) (K : Nat → Option zLv) (xs ys : List Int32) : Prop := zFr cfA h g ∧ zI g 0 10 = zI h 0 10 ∧ zI g 0 11 = zI h 0 11 ∧ CPL g N P K xs ys
/-- the model's step -/
def MS2 (h g : zm_H) (N : zLv) (P : List zLv) (K : Nat → Option zLv) (xs ys : List Int32) : Prop := zFr mfA h g ∧ (zI g 125 17 = zI h 125 17 ∧ zI g 125 18 = zI h 125 18) ∧ MP g N P K xs ys
section
variable {h g : zm_H} {N M : zLv} {P Q : List zLv} {K : Nat → Option zLv} {xs ys zs : List Int32}
theorem LI.cp (H : LI h N P K xs ys) : CPL h N P K xs ys := ⟨H.1, H.2.2.1, H.2.2.2.2.1, H.2.2.2.2.2.2.1, H.2.2.2.2.2.2.2.2.2.1⟩
theorem LI.mp (H : LI h N P K xs ys) : MP h N P K xs ys := ⟨H.2.1, H.2.2.2.1, H.2.2.2.2.2.1, H.2.2.2.2.2.2.2.1, H.2.2.2.2.2.2.2.2.2.2.1⟩
theorem LI.by (H : LI h N P K xs ys) : BY xs := H.2.2.2.2.2.2.2.2.1
theorem MP_fr {A : Nat → Prop} (fr : zFr A h g) (hA : ∀ c, 125 ≤ c → c ≤ 138 → ¬ A c) (m : MP h N P K xs ys) : MP g N P K xs ys := by
  obtain ⟨a, b, c, d, e⟩ := m
  have e125 : zI g 125 = zI h 125 := fr.I (hA _ (by omega) (by omega))
  refine ⟨⟨moS_fr fr a.1, ML_fr fr (hA _ (by omega) (by omega)) a.2.1, a.2.2⟩, HP_fr fr (hA _ (by omega) (by omega)) (by rw [e125]) b, ?_, ⟨by rw [e125]; exact d.1, d.2.1, fun i hi => by rw [fr.I (hA _ (by omega) (by omega))]; exact d.2.2 i hi⟩, ⟨by rw [e125]; exact e.1, e.2.1, fun i hi => by rw [fr.I (hA _ (by omega) (by omega))]; exact e.2.2 i hi⟩⟩
  intro s hs
  obtain ⟨x, y⟩ := c s hs
  exact ⟨by rw [fr.I (hA _ (by omega) (by omega))]; exact x, fun M hM => ⟨(y M hM).1, fun j hj => by rw [fr.I (hA _ (by omega) (by omega))]; exact (y M hM).2 j hj⟩⟩
theorem CPL_fr {A : Nat → Prop} (fr : zFr A h g) (hA : ∀ c, c ≤ 124 → ¬ A c) (m : CPL h N P K xs ys) : CPL g N P K xs ys := by
  obtain ⟨a, b, c, d, e⟩ := m
  exact ⟨a.fr fr (fun c hc => hA c (by omega)), HH_fr fr (fun c h1 h2 => hA c (by omega)) b, SL_fr fr (fun c h1 h2 => hA c (by omega)) c, BL_fr fr (hA _ (by omega)) (hA _ (by omega)) d, BL_fr fr (hA _ (by omega)) (hA _ (by omega)) e⟩
theorem CZ_rf (C : CPL h N P K xs ys) : CZ h h N P K xs ys := ⟨zFr.rf, rfl, rfl, C⟩
theorem CZ_q (C : CPL h N P K xs ys) (q : CQ N h g) : CZ h g N P K xs ys := by
  obtain ⟨a, b, c, d, e⟩ := C
  have nA : ∀ c, scA c → c ≤ 124 := fun c hc => by unfold scA at hc; omega
  exact ⟨q.1.mono nA, q.2.1, q.2.2.1, a.go q, HH_fr q.1 (fun c h1 h2 hc => by unfold scA at hc; omega) b, SL_fr q.1 (fun c h1 h2 hc => by unfold scA at hc; omega) c, BL_fr q.1 (by unfold scA; omega) (by unfold scA; omega) d, BL_fr q.1 (by unfold scA; omega) (by unfold scA; omega) e⟩
theorem CZ_t (C : CPL h N P K xs ys) (t : CT h g M Q) : CZ h g M Q K xs ys := by
  obtain ⟨a, b, c, d, e⟩ := C
  have nA : ∀ c, chA c → c ≤ 124 := fun c hc => by unfold chA at hc; omega
  exact ⟨t.1.mono nA, t.2.1, t.2.2.1, t.2.2.2.1, t.2.2.2.2, t.s c, BL_fr t.1 (by unfold chA; omega) (by unfold chA; omega) d, BL_fr t.1 (by unfold chA; omega) (by unfold chA; omega) e⟩
theorem MS2_z (C : MP h N P K xs ys) (q : MZ N h g) : MS2 h g N P K xs ys := by
  obtain ⟨a, b, c, d, e⟩ := C
  have j : ∀ j, j ≠ 0 → zI g 125 j = zI h 125 j := q.2.1
  refine ⟨q.1.mono (fun c hc => by unfold mqA at hc; unfold mfA; omega), ⟨j 17 (by omega), j 18 (by omega)⟩, a.go q, HP_q q b, ?_, ⟨by rw [j 11 (by omega)]; exact d.1, d.2.1, fun i hi => by rw [q.1.I (by unfold mqA; omega)]; exact d.2.2 i hi⟩, MO_q q e⟩
  intro s hs
  obtain ⟨x, y⟩ := c s hs
  exact ⟨by rw [q.1.I (by unfold mqA; omega)]; exact x, fun M hM => ⟨(y M hM).1, fun j hj => by rw [q.1.I (by unfold mqA; omega)]; exact (y M hM).2 j hj⟩⟩
theorem MS2_c (C : MP h N P K xs ys) (q : MC h M Q g) : MS2 h g M Q K xs ys := by
  obtain ⟨a, b, c, d, e⟩ := C
  obtain ⟨fr, j, mi, hp⟩ := q
  refine ⟨fr.mono (fun c hc => by unfold mcA at hc; unfold mfA; omega), ⟨j 17 (by omega) (by omega), j 18 (by omega) (by omega)⟩, mi, hp, ?_, ⟨by rw [j 11 (by omega) (by omega)]; exact d.1, d.2.1, fun i hi => by rw [fr.I (by unfold mcA; omega)]; exact d.2.2 i hi⟩, ⟨by rw [j 26 (by omega) (by omega)]; exact e.1, e.2.1, fun i hi => by rw [fr.I (by unfold mcA; omega)]; exact e.2.2 i hi⟩⟩
  intro s hs
  obtain ⟨x, y⟩ := c s hs
  exact ⟨by rw [fr.I (by unfold mcA; omega)]; exact x, fun M hM => ⟨(y M hM).1, fun j hj => by rw [fr.I (by unfold mcA; omega)]; exact (y M hM).2 j hj⟩⟩
theorem MS2_j (C : MP h N P K xs ys) (q : MJ h zs g) : MS2 h g N P K zs ys := by
  obtain ⟨a, b, c, d, e⟩ := C
  obtain ⟨fr, j, mb⟩ := q
  refine ⟨fr.mono (fun c hc => by unfold apA at hc; unfold mfA; omega), ⟨j 17 (by omega) (by omega), j 18 (by omega) (by omega)⟩, ⟨moS_fr fr a.1, ML_fr fr (by unfold apA; omega) a.2.1, a.2.2⟩, HP_fr fr (by unfold apA; omega) (j 24 (by omega) (by omega)) b, ?_, mb, ⟨by rw [j 26 (by omega) (by omega)]; exact e.1, e.2.1, fun i hi => by rw [fr.I (by unfold apA; omega)]; exact e.2.2 i hi⟩⟩
  intro s hs
  obtain ⟨x, y⟩ := c s hs
  exact ⟨by rw [fr.I (by unfold apA; omega)]; exact x, fun M hM => ⟨(y M hM).1, fun j hj => by rw [fr.I (by unfold apA; omega)]; exact (y M hM).2 j hj⟩⟩
theorem MS2_w (C : MP h N P K xs ys) (q : MW h N zs g) : MS2 h g N P K xs zs := by
  obtain ⟨a, b, c, d, e⟩ := C
  obtain ⟨fr, j, ml, mo⟩ := q
  have nA : ∀ c, wrA c → mfA c := fun c hc => by unfold wrA mqA at hc; unfold mfA; omega
  refine ⟨fr.mono nA, ⟨j 17 (by omega) (by omega), j 18 (by omega) (by omega)⟩, ⟨moS_fr fr a.1, ml, a.2.2⟩, HP_fr fr (by unfold wrA mqA; omega) (j 24 (by omega) (by omega)) b, ?_, ⟨by rw [j 11 (by omega) (by omega)]; exact d.1, d.2.1, fun i hi => by rw [fr.I (by unfold wrA mqA; omega)]; exact d.2.2 i hi⟩, mo⟩
  intro s hs
  obtain ⟨x, y⟩ := c s hs
  exact ⟨by rw [fr.I (by unfold wrA mqA; omega)]; exact x, fun M hM => ⟨(y M hM).1, fun j hj => by rw [fr.I (by unfold wrA mqA; omega)]; exact (y M hM).2 j hj⟩⟩
/-- a round through -/
theorem LI_fin {g1 g2 g3 : zm_H} {N' : zLv} {P' : List zLv} {K' : Nat → Option zLv} {xs' ys' : List Int32} (H : LI h N P K xs ys) (c : CZ h g1 N' P' K' xs' ys') (o : zFr (fun c => c = 139 ∨ c = 140) g1 g2) (m : MS2 g2 g3 N' P' K' xs' ys') (hb : BY xs') : LI g3 N' P' K' xs' ys' ∧ zN g3 = zN h := by
  obtain ⟨c1, c2, c3, c4⟩ := c
  obtain ⟨m1, ⟨m2, m3⟩, m4⟩ := m
  have H10 := H.2.2.2.2.2.2.2.2.2.2.2.1
  have H11 := H.2.2.2.2.2.2.2.2.2.2.2.2.1
  obtain ⟨h141, h139, h140⟩ := H.2.2.2.2.2.2.2.2.2.2.2.2.2
  have cc : CPL g3 N' P' K' xs' ys' := CPL_fr m1 (fun c hc q => by unfold mfA at q; omega) (CPL_fr o (fun c hc q => by omega) c4)
  obtain ⟨x1, x2, x3, x4, x5⟩ := cc
  obtain ⟨y1, y2, y3, y4, y5⟩ := m4
  have e0 : zI g3 0 = zI g1 0 := (m1.I (by unfold mfA; omega)).trans (o.I (by omega))
  have e125 : zI g2 125 = zI h 125 := (o.I (by omega)).trans (c1.I (by unfold cfA; omega))
  have nn : zN g3 = zN h := by rw [m1.1, o.1, c1.1]
  refine ⟨⟨x1, y1, x2, y2, x3, y3, x4, y4, hb, x5, y5, ?_, ?_, by rw [nn]; exact h141, ?_, ?_⟩, nn⟩
  · rw [e0, c2, m2, e125]; exact H10
  · rw [e0, c3, m3, e125]; exact H11
  · rw [m1.K, o.K, c1.K]; exact h139
  · rw [m1.K, o.K, c1.K]; exact h140
theorem LI_mid {g1 g2 : zm_H} {N' : zLv} {P' : List zLv} {K' : Nat → Option zLv} {xs' ys' : List Int32} (H : LI h N P K xs ys) (c : CZ h g1 N' P' K' xs' ys') (o : zFr (fun c => c = 139 ∨ c = 140) g1 g2) : MP g2 N P K xs ys := MP_fr o (fun c h1 h2 q => by omega) (MP_fr c.1 (fun c h1 h2 q => by unfold cfA at q; omega) H.mp)
end
/-- the law's locals -/
def lo5 (i : Nat) : List (Option Value) := [some (.ref 2000000), some (.ref 0), some (.ref 125), some (.ref 139), some (.ref 140), some (.int (nI i)), none, none, none, none]
/-- a round is right -/
def LG (scr : Nat × (Nat → Int32)) (h : zm_H) (i : Nat) (k : Int32) : Prop := ∃ h' N P K xs ys, zE vL_law scr rL_law (27, lo5 i, [.int k], h) = some (.inl (1719, lo5 (i + 6), [], h')) ∧ LI h' N P K xs ys ∧ zN h ≤ zN h' ∧ zN h' ≤ zN h + 1
theorem sidx {i n : Nat} (hi : i + 6 ≤ n) (hn : n ≤ 3072) : ∀ j, j ≤ 6 → ((nI i + nI j) < 0) = False ∧ (nI i + nI j).toNatClampNeg = i + j ∧ (j < 6 → (n ≤ i + j) = False) := by
  intro j hj
  have e : nI i + nI j = nI (i + j) := nI_add i j
  refine ⟨?_, ?_, fun h => eq_false (by omega)⟩
  · rw [e]; exact nI_lt0 (by omega)
  · rw [e]; exact nI_clamp (by omega)
theorem i_split {n : Nat} (hn : n < 2 ^ 31) (x : Int32) : (∃ r, r < n ∧ x = nI r) ∨ (x < 0 ∨ nI n ≤ x) := by
  by_cases h : x < 0 ∨ nI n ≤ x
  · exact Or.inr h
  · left
    have h1 : ¬ x < 0 := fun q => h (Or.inl q)
    have h2 : ¬ nI n ≤ x := fun q => h (Or.inr q)
    have a1 : 0 ≤ x.toInt := by
      refine Classical.byContradiction (fun q => h1 ?_)
      rw [Int32.lt_iff_toInt_lt]
      have : (0 : Int32).toInt = 0 := by decide
      omega
    have a2 : x.toInt < n := by
      refine Classical.byContradiction (fun q => h2 ?_)
      rw [Int32.le_iff_toInt_le, nI_toInt hn]
      omega
    refine ⟨x.toInt.toNat, by omega, ?_⟩
    apply Int32.toInt_inj.mp
    rw [nI_toInt (by omega)]
    omega
end ZLI
