/-! WHAT BOTH OBJECTS HOLD, AND THAT THEY DO AT THE START. -/
section ZSTA
/-- the law's invariant: the same level, history, slots, text, output and error -/
def LI (h : zm_H) (N : zLv) (P : List zLv) (K : Nat → Option zLv) (xs ys : List Int32) : Prop :=
  CI h N ∧ MI h N ∧ HH h P ∧ HP h P ∧ SL h K ∧ KS h K ∧ BL h 1 2 500 xs ∧ MB h xs ∧ BY xs ∧ BL h 3 4 77 ys ∧ MO h ys ∧ zI h 0 10 = zI h 125 17 ∧ zI h 0 11 = zI h 125 18 ∧ 141 ≤ zN h ∧ zK h 139 = (1, 1) ∧ zK h 140 = (4, 1)
/-- the heap behind the law's four makings, but for the model's level -/
def gMo (h : zm_H) : zm_H := cX6_12 (znew (cX5 (znew h 11 12)) 12 27)
def gEn (h : zm_H) : zm_H := znew (znew (gMo h) 1 1) 4 1
/-- one room -/
def N11 : zLv := fun i => if i = 0 then 1 else if i = 4 then 1 else 0
theorem WF_11 : WF N11 := by
  have z : ∀ i, i ≠ 0 → i ≠ 4 → N11 i = 0 := fun i h1 h2 => by unfold N11; rw [if_neg h1, if_neg h2]
  have e0 : N11 0 = 1 := rfl
  have e4 : N11 4 = 1 := rfl
  refine ⟨⟨by rw [e0]; omega, by rw [z 1 (by omega) (by omega)]; omega, by rw [e4]; omega, fun r hr => ?_, fun d hd => ?_, fun k hk => ?_⟩, by rw [e0]; omega, by rw [z 2 (by omega) (by omega), e0]; omega, by rw [z 3 (by omega) (by omega)]; omega, by rw [e4]; omega, by rw [e4, e0]; omega, by rw [z 5 (by omega) (by omega), z 2 (by omega) (by omega)], fun k hk => ?_, fun r hr => ?_⟩
  · rw [z _ (by omega) (by omega), z _ (by omega) (by omega)]; omega
  · rw [z 1 (by omega) (by omega)] at hd; omega
  · rw [e4] at hk
    rw [z _ (by omega) (by omega), e0]; omega
  · rw [e4] at hk; omega
  · rw [z _ (by omega) (by omega)]; decide
theorem all6 {P : Nat → Prop} (p0 : P 0) (p1 : P 1) (p2 : P 2) (p3 : P 3) (p4 : P 4) (p5 : P 5) : ∀ i, i < 6 → P i := fun i hi => match i, hi with
  | 0, _ => p0 | 1, _ => p1 | 2, _ => p2 | 3, _ => p3 | 4, _ => p4 | 5, _ => p5
theorem fr_new {A : Nat → Prop} {h g : zm_H} {kd l : Nat} (p : zFr A h g) : zFr A (znew h kd l) (znew g kd l) := by
  have hN : g.1 = h.1 := p.1
  have hK : g.2.1 = h.2.1 := p.2.1
  have hP : g.2.2.2.2.1 = h.2.2.2.2.1 := p.2.2.1
  refine ⟨by show g.1 + 1 = h.1 + 1; rw [hN], ?_, ?_, fun b hb => ?_⟩
  · show zrow g.2.1 g.1 (kd, l) = zrow h.2.1 h.1 (kd, l)
    rw [hN, hK]
  · show zrow g.2.2.2.2.1 g.1 _ = zrow h.2.2.2.2.1 h.1 _
    rw [hN, hP]
  · obtain ⟨e1, e2, e3⟩ := p.2.2.2 b hb
    refine ⟨?_, ?_, ?_⟩
    · show zrow g.2.2.1 g.1 _ b = zrow h.2.2.1 h.1 _ b
      rw [hN]
      by_cases w : b = h.1
      · rw [w, zrow_self, zrow_self]
      · rw [zrow_ne _ _ w, zrow_ne _ _ w]; exact e1
    · show zrow g.2.2.2.1 g.1 _ b = zrow h.2.2.2.1 h.1 _ b
      rw [hN]
      by_cases w : b = h.1
      · rw [w, zrow_self, zrow_self]
      · rw [zrow_ne _ _ w, zrow_ne _ _ w]; exact e2
    · show zrow g.2.2.2.2.2 g.1 _ b = zrow h.2.2.2.2.2 h.1 _ b
      rw [hN]
      by_cases w : b = h.1
      · rw [w, zrow_self, zrow_self]
      · rw [zrow_ne _ _ w, zrow_ne _ _ w]; exact e3
section
variable {k : Nat → Nat × Nat} {i : Nat → Nat → Int32} {j : Nat → Nat → Int64} {p : Nat → Nat → Option Nat} {d : Nat → Nat → UInt64}
set_option maxRecDepth 1000000 in
set_option maxHeartbeats 4000000 in
theorem st_lv5 : lvS (gEn (0, k, i, j, p, d)) 5 := ⟨rfl, rfl, rfl, rfl, rfl, rfl, rfl, rfl, rfl, rfl, rfl, rfl, rfl, rfl, rfl, rfl, rfl, rfl, rfl, rfl, rfl⟩
set_option maxRecDepth 1000000 in
set_option maxHeartbeats 4000000 in
theorem st_lv16 : lvS (gEn (0, k, i, j, p, d)) 16 := ⟨rfl, rfl, rfl, rfl, rfl, rfl, rfl, rfl, rfl, rfl, rfl, rfl, rfl, rfl, rfl, rfl, rfl, rfl, rfl, rfl, rfl⟩
set_option maxRecDepth 1000000 in
set_option maxHeartbeats 4000000 in
theorem st_lv29 : lvS (gEn (0, k, i, j, p, d)) 29 := ⟨rfl, rfl, rfl, rfl, rfl, rfl, rfl, rfl, rfl, rfl, rfl, rfl, rfl, rfl, rfl, rfl, rfl, rfl, rfl, rfl, rfl⟩
set_option maxRecDepth 1000000 in
set_option maxHeartbeats 4000000 in
theorem st_lv40 : lvS (gEn (0, k, i, j, p, d)) 40 := ⟨rfl, rfl, rfl, rfl, rfl, rfl, rfl, rfl, rfl, rfl, rfl, rfl, rfl, rfl, rfl, rfl, rfl, rfl, rfl, rfl, rfl⟩
set_option maxRecDepth 1000000 in
set_option maxHeartbeats 4000000 in
theorem st_lv51 : lvS (gEn (0, k, i, j, p, d)) 51 := ⟨rfl, rfl, rfl, rfl, rfl, rfl, rfl, rfl, rfl, rfl, rfl, rfl, rfl, rfl, rfl, rfl, rfl, rfl, rfl, rfl, rfl⟩
set_option maxRecDepth 1000000 in
set_option maxHeartbeats 4000000 in
theorem st_lv62 : lvS (gEn (0, k, i, j, p, d)) 62 := ⟨rfl, rfl, rfl, rfl, rfl, rfl, rfl, rfl, rfl, rfl, rfl, rfl, rfl, rfl, rfl, rfl, rfl, rfl, rfl, rfl, rfl⟩
set_option maxRecDepth 1000000 in
set_option maxHeartbeats 4000000 in
theorem st_lv73 : lvS (gEn (0, k, i, j, p, d)) 73 := ⟨rfl, rfl, rfl, rfl, rfl, rfl, rfl, rfl, rfl, rfl, rfl, rfl, rfl, rfl, rfl, rfl, rfl, rfl, rfl, rfl, rfl⟩
set_option maxRecDepth 1000000 in
set_option maxHeartbeats 4000000 in
theorem st_lv84 : lvS (gEn (0, k, i, j, p, d)) 84 := ⟨rfl, rfl, rfl, rfl, rfl, rfl, rfl, rfl, rfl, rfl, rfl, rfl, rfl, rfl, rfl, rfl, rfl, rfl, rfl, rfl, rfl⟩
set_option maxRecDepth 1000000 in
set_option maxHeartbeats 4000000 in
theorem st_lv96 : lvS (gEn (0, k, i, j, p, d)) 96 := ⟨rfl, rfl, rfl, rfl, rfl, rfl, rfl, rfl, rfl, rfl, rfl, rfl, rfl, rfl, rfl, rfl, rfl, rfl, rfl, rfl, rfl⟩
set_option maxRecDepth 1000000 in
set_option maxHeartbeats 4000000 in
theorem st_lv107 : lvS (gEn (0, k, i, j, p, d)) 107 := ⟨rfl, rfl, rfl, rfl, rfl, rfl, rfl, rfl, rfl, rfl, rfl, rfl, rfl, rfl, rfl, rfl, rfl, rfl, rfl, rfl, rfl⟩
set_option maxRecDepth 1000000 in
set_option maxHeartbeats 4000000 in
theorem st_hi : hiS (gEn (0, k, i, j, p, d)) := ⟨rfl, rfl, rfl, all6 rfl rfl rfl rfl rfl rfl, all6 st_lv29 st_lv40 st_lv51 st_lv62 st_lv73 st_lv84⟩
set_option maxRecDepth 1000000 in
set_option maxHeartbeats 4000000 in
theorem st_tb : tbS (gEn (0, k, i, j, p, d)) 119 := ⟨rfl, rfl, rfl, rfl, rfl, rfl, rfl, rfl, rfl⟩
set_option maxRecDepth 1000000 in
set_option maxHeartbeats 4000000 in
theorem st_kt : ktS (gEn (0, k, i, j, p, d)) := ⟨rfl, rfl, rfl, rfl, rfl, rfl, rfl, rfl, rfl, rfl, rfl, rfl, rfl, rfl, rfl, rfl, st_lv5, st_lv16, st_hi, st_lv96, st_lv107, rfl, rfl, rfl, rfl, st_tb, rfl⟩
set_option maxRecDepth 1000000 in
set_option maxHeartbeats 4000000 in
theorem st_mo : moS (gEn (0, k, i, j, p, d)) 126 := ⟨rfl, rfl, rfl, rfl, rfl, rfl, rfl, rfl, rfl, rfl, rfl, rfl, rfl, rfl, rfl, rfl, rfl, rfl, rfl, rfl, rfl, rfl, rfl, rfl, rfl, rfl, rfl, rfl, rfl⟩
set_option maxRecDepth 1000000 in
set_option maxHeartbeats 4000000 in
theorem st_mo0 : moS (gMo (0, k, i, j, p, d)) 126 := ⟨rfl, rfl, rfl, rfl, rfl, rfl, rfl, rfl, rfl, rfl, rfl, rfl, rfl, rfl, rfl, rfl, rfl, rfl, rfl, rfl, rfl, rfl, rfl, rfl, rfl, rfl, rfl, rfl, rfl⟩
set_option maxRecDepth 1000000 in
set_option maxHeartbeats 4000000 in
theorem st_i5_0 : zI (gEn (0, k, i, j, p, d)) 5 0 = 1 := rfl
set_option maxRecDepth 1000000 in
set_option maxHeartbeats 4000000 in
theorem st_i5_4 : zI (gEn (0, k, i, j, p, d)) 5 4 = 0 := rfl
set_option maxRecDepth 1000000 in
set_option maxHeartbeats 4000000 in
theorem st_i5_10 : zI (gEn (0, k, i, j, p, d)) 5 10 = 0 := rfl
set_option maxRecDepth 1000000 in
set_option maxHeartbeats 4000000 in
theorem st_i5_11 : zI (gEn (0, k, i, j, p, d)) 5 11 = -1 := rfl
set_option maxRecDepth 1000000 in
set_option maxHeartbeats 4000000 in
theorem st_i5_13 : zI (gEn (0, k, i, j, p, d)) 5 13 = 1 := rfl
set_option maxRecDepth 1000000 in
set_option maxHeartbeats 4000000 in
theorem st_i0_8 : zI (gEn (0, k, i, j, p, d)) 0 8 = 1 := rfl
set_option maxRecDepth 1000000 in
set_option maxHeartbeats 4000000 in
theorem st_i0_10 : zI (gEn (0, k, i, j, p, d)) 0 10 = 0 := rfl
set_option maxRecDepth 1000000 in
set_option maxHeartbeats 4000000 in
theorem st_i0_11 : zI (gEn (0, k, i, j, p, d)) 0 11 = -1 := rfl
set_option maxRecDepth 1000000 in
set_option maxHeartbeats 4000000 in
theorem st_i1_1 : zI (gEn (0, k, i, j, p, d)) 1 1 = 0 := rfl
set_option maxRecDepth 1000000 in
set_option maxHeartbeats 4000000 in
theorem st_i3_1 : zI (gEn (0, k, i, j, p, d)) 3 1 = 0 := rfl
set_option maxRecDepth 1000000 in
set_option maxHeartbeats 4000000 in
theorem st_i27_1 : zI (gEn (0, k, i, j, p, d)) 27 1 = 0 := rfl
set_option maxRecDepth 1000000 in
set_option maxHeartbeats 4000000 in
theorem st_i27_2 : zI (gEn (0, k, i, j, p, d)) 27 2 = 0 := rfl
set_option maxRecDepth 1000000 in
set_option maxHeartbeats 4000000 in
theorem st_i125_11 : zI (gEn (0, k, i, j, p, d)) 125 11 = 0 := rfl
set_option maxRecDepth 1000000 in
set_option maxHeartbeats 4000000 in
theorem st_i125_17 : zI (gEn (0, k, i, j, p, d)) 125 17 = 0 := rfl
set_option maxRecDepth 1000000 in
set_option maxHeartbeats 4000000 in
theorem st_i125_18 : zI (gEn (0, k, i, j, p, d)) 125 18 = -1 := rfl
set_option maxRecDepth 1000000 in
set_option maxHeartbeats 4000000 in
theorem st_i125_24 : zI (gEn (0, k, i, j, p, d)) 125 24 = 0 := rfl
set_option maxRecDepth 1000000 in
set_option maxHeartbeats 4000000 in
theorem st_i125_26 : zI (gEn (0, k, i, j, p, d)) 125 26 = 0 := rfl
set_option maxRecDepth 1000000 in
set_option maxHeartbeats 4000000 in
theorem st_r7 : zI (gEn (0, k, i, j, p, d)) 7 = fun _ => 0 := rfl
set_option maxRecDepth 1000000 in
set_option maxHeartbeats 4000000 in
theorem st_r8 : zI (gEn (0, k, i, j, p, d)) 8 = fun _ => 0 := rfl
set_option maxRecDepth 1000000 in
set_option maxHeartbeats 4000000 in
theorem st_r13 : zI (gEn (0, k, i, j, p, d)) 13 = fun _ => 0 := rfl
set_option maxRecDepth 1000000 in
set_option maxHeartbeats 4000000 in
theorem st_r14 : zI (gEn (0, k, i, j, p, d)) 14 = fun _ => 0 := rfl
set_option maxRecDepth 1000000 in
set_option maxHeartbeats 4000000 in
theorem st_r24 : zI (gEn (0, k, i, j, p, d)) 24 = fun _ => 0 := rfl
set_option maxRecDepth 1000000 in
set_option maxHeartbeats 4000000 in
theorem st_r118 : zI (gEn (0, k, i, j, p, d)) 118 = fun _ => 0 := rfl
set_option maxRecDepth 1000000 in
set_option maxHeartbeats 4000000 in
theorem st_r136 : zI (gEn (0, k, i, j, p, d)) 136 = fun _ => 0 := rfl
set_option maxRecDepth 1000000 in
set_option maxHeartbeats 4000000 in
theorem st_j6 : zJ (gEn (0, k, i, j, p, d)) 6 = fun _ => 0 := rfl
set_option maxRecDepth 1000000 in
set_option maxHeartbeats 4000000 in
theorem st_N : zN (gEn (0, k, i, j, p, d)) = 141 ∧ zK (gEn (0, k, i, j, p, d)) 139 = (1, 1) ∧ zK (gEn (0, k, i, j, p, d)) 140 = (4, 1) ∧ zN (gMo (0, k, i, j, p, d)) = 139 := ⟨rfl, rfl, rfl, rfl⟩
set_option maxRecDepth 1000000 in
set_option maxHeartbeats 4000000 in
theorem st_M : zN (znew (0, k, i, j, p, d) 11 12) = 1 ∧ zK (znew (0, k, i, j, p, d) 11 12) 0 = (11, 12) ∧ zN (cX5 (znew (0, k, i, j, p, d) 11 12)) = 125 ∧ zN (znew (cX5 (znew (0, k, i, j, p, d) 11 12)) 12 27) = 126 ∧ zK (znew (cX5 (znew (0, k, i, j, p, d) 11 12)) 12 27) 125 = (12, 27) := ⟨rfl, rfl, rfl, rfl, rfl⟩
end
theorem k_start {h0 : zm_H} (hN : zN h0 = 0) : ∃ g1 g2, sX5_init [.ref 0] (znew h0 11 12) = some (.inl none, g1) ∧ zN g1 = 125 ∧ sX6_init [.ref 125] (znew g1 12 27) = some (.inl none, g2) ∧ zN g2 = 139 ∧ LI (znew (znew g2 1 1) 4 1) N11 [] (fun _ => none) [] [] := by
  obtain ⟨n, k, i, j, p, d⟩ := h0
  have hN : n = 0 := hN
  subst hN
  obtain ⟨a1, a2, a3, a4, a5⟩ := st_M (k := k) (i := i) (j := j) (p := p) (d := d)
  obtain ⟨b1, b2, b3, b4⟩ := st_N (k := k) (i := i) (j := j) (p := p) (d := d)
  have s1 := k_X5 a2 a1
  obtain ⟨g, s2, fr, mL⟩ := k_X6 a5 a4 (st_mo0 (k := k) (i := i) (j := j) (p := p) (d := d))
  have fr2 : zFr (fun c => c = 126) (gMo (0, k, i, j, p, d)) (zsI g 126 0 1) := fr.tr (zFr.sI rfl)
  have F : zFr (fun c => c = 126) (gEn (0, k, i, j, p, d)) (znew (znew (zsI g 126 0 1) 1 1) 4 1) := fr_new (fr_new fr2)
  have n2 : zN (zsI g 126 0 1) = 139 := by rw [fr2.1]; exact b4
  have mL1 : ML (zsI g 126 0 1) 126 N11 := by
    have e := ML_put (i := 0) (x := 1) mL (by omega)
    intro i hi
    have := e i hi
    rw [show zput N00 0 1 = N11 from ?_] at this
    · exact this
    · funext c
      by_cases w : c = 0
      · subst w; rw [zput_self]; rfl
      · rw [zput_ne _ _ w]
        unfold N00 N11
        rw [if_neg w]
  have mL2 : ML (znew (znew (zsI g 126 0 1) 1 1) 4 1) 126 N11 := fun i hi => by
    have e : zI (znew (znew (zsI g 126 0 1) 1 1) 4 1) 126 = zI (zsI g 126 0 1) 126 := by
      have n2' : (zsI g 126 0 1).1 = 139 := n2
      have q1 : zI (znew (znew (zsI g 126 0 1) 1 1) 4 1) 126 = zI (znew (zsI g 126 0 1) 1 1) 126 := zrow_ne _ _ (by show 126 ≠ (zsI g 126 0 1).1 + 1; omega)
      have q2 : zI (znew (zsI g 126 0 1) 1 1) 126 = zI (zsI g 126 0 1) 126 := zrow_ne _ _ (by omega)
      rw [q1, q2]
    rw [e]; exact mL1 i hi
  have e5 := L5e
  have e16 := L16e
  have e0 : N11 0 = 1 := rfl
  have e4 : N11 4 = 1 := rfl
  have z : ∀ i, i ≠ 0 → i ≠ 4 → N11 i = 0 := fun i h1 h2 => by unfold N11; rw [if_neg h1, if_neg h2]
  have KE : KL (gEn (0, k, i, j, p, d)) 5 N11 := by
    refine ⟨by rw [st_i5_0]; rfl, by rw [st_i5_4]; rfl, by rw [st_i5_10]; rfl, by rw [st_i5_11]; exact eI_0.symm, by rw [st_i5_13]; rfl, fun r hr => ?_, fun r hr => ?_, fun r hr => ?_, fun r hr => ?_, fun r hr => ?_, fun r hr => ?_, fun r hr => ?_, fun r hr => ?_, fun r hr => ?_⟩
    · rw [st_j6, z _ (by omega) (by omega)]
      show (0 : Int64) = lN (pkn 0)
      decide +kernel
    · rw [st_r7, z _ (by omega) (by omega)]; rfl
    · rw [st_r8, z _ (by omega) (by omega)]; rfl
    · rw [z 1 (by omega) (by omega)] at hr; omega
    · rw [z 1 (by omega) (by omega)] at hr; omega
    · rw [z 1 (by omega) (by omega)] at hr; omega
    · rw [z 1 (by omega) (by omega)] at hr; omega
    · rw [z 1 (by omega) (by omega)] at hr; omega
    · rw [e4] at hr
      rw [st_r14, z _ (by omega) (by omega)]; rfl
  have no126 : ∀ c, c ≠ 126 → ¬ (fun c => c = 126) c := fun c h => h
  have cE : CI (gEn (0, k, i, j, p, d)) N11 := ⟨st_kt, KE, WF_11, Or.inl st_i0_8, fun i _ => by show zI _ 13 i = 0 ∨ _; rw [st_r13]; exact Or.inl rfl, fun i _ => by show zI _ 24 i = 0 ∨ _; rw [st_r24]; exact Or.inl rfl⟩
  refine ⟨_, _, s1, a3, s2, n2, ⟨?_, ⟨moS_fr F st_mo, mL2, WF_11⟩, ?_, ?_, ?_, ?_, ?_, ?_, ?_, ?_, ?_, ?_, ?_, ?_, ?_, ?_⟩⟩
  · exact cE.fr F (fun c hc => by omega)
  · exact HH_fr F (fun c h1 h2 => by omega) ⟨by show 0 ≤ 6; omega, 0, ⟨st_i27_1, st_i27_2, by omega, by show 0 ≤ 6; omega⟩, fun i hi => absurd hi (Nat.not_lt_zero i)⟩
  · exact HP_fr F (by omega) (by rw [F.I (by omega)]) ⟨by show 0 ≤ 6; omega, st_i125_24, fun i M hM => by cases hM⟩
  · exact SL_fr F (fun c h1 h2 => by omega) (fun s hs => ⟨by rw [st_r118]; rfl, fun M hM => by cases hM⟩)
  · intro s hs
    refine ⟨by rw [F.I (by omega), st_r136]; rfl, fun M hM => by cases hM⟩
  · exact BL_fr F (by omega) (by omega) ⟨st_i1_1, by show 0 ≤ 500; omega, fun i hi => absurd hi (Nat.not_lt_zero i)⟩
  · exact ⟨by rw [F.I (by omega), st_i125_11]; rfl, by show 0 ≤ 500; omega, fun i hi => absurd hi (Nat.not_lt_zero i)⟩
  · exact fun i hi => absurd hi (Nat.not_lt_zero i)
  · exact BL_fr F (by omega) (by omega) ⟨st_i3_1, by show 0 ≤ 77; omega, fun i hi => absurd hi (Nat.not_lt_zero i)⟩
  · exact ⟨by rw [F.I (by omega), st_i125_26]; rfl, by show 0 ≤ 200; omega, fun i hi => absurd hi (Nat.not_lt_zero i)⟩
  · rw [F.I (by omega), F.I (by omega), st_i0_10, st_i125_17]
  · rw [F.I (by omega), F.I (by omega), st_i0_11, st_i125_18]
  · rw [F.1, b1]; omega
  · rw [F.K]; exact b2
  · rw [F.K]; exact b3
end ZSTA
