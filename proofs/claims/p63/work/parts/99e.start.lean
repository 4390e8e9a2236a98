/-! THE NEW OBJECT. -/
section ZSTA
def gEn (h : zm_H) : zm_H := cX5 (znew h 11 12)
/-- one room -/
def N11 : zLv := fun i => if i = 0 then 1 else if i = 4 then 1 else 0
theorem WF_11 : WF N11 := by
  have z : ∀ i, i ≠ 0 → i ≠ 4 → N11 i = 0 := fun i h1 h2 => by unfold N11; rw [if_neg h1, if_neg h2]
  have e0 : N11 0 = 1 := rfl
  have e4 : N11 4 = 1 := rfl
  refine ⟨⟨by rw [e0]; omega, by rw [z 1 (by omega) (by omega)]; omega, by rw [e4]; omega, fun r hr => ?_, fun d hd => ?_, fun k hk => ?_⟩, by rw [e0]; omega, by rw [z 2 (by omega) (by omega), e0]; omega, by rw [z 3 (by omega) (by omega)]; omega, by rw [e4]; omega, by rw [e4, e0]; omega, by rw [z 5 (by omega) (by omega), z 2 (by omega) (by omega)], fun k hk => ?_, fun r hr => ?_⟩
  · rw [z _ (by omega) (by omega), z _ (by omega) (by omega)]; omega
  · rw [z 1 (by omega) (by omega)] at hd; omega
  · rw [e4] at hk
    rw [z _ (by omega) (by omega), e0]; omega
  · rw [e4] at hk; omega
  · rw [z _ (by omega) (by omega)]; decide
theorem all6 {P : Nat → Prop} (p0 : P 0) (p1 : P 1) (p2 : P 2) (p3 : P 3) (p4 : P 4) (p5 : P 5) : ∀ i, i < 6 → P i := fun i hi => match i, hi with
  | 0, _ => p0 | 1, _ => p1 | 2, _ => p2 | 3, _ => p3 | 4, _ => p4 | 5, _ => p5
section
variable {k : Nat → Nat × Nat} {i : Nat → Nat → Int32} {j : Nat → Nat → Int64} {p : Nat → Nat → Option Nat} {d : Nat → Nat → UInt64}
set_option maxRecDepth 1000000 in
set_option maxHeartbeats 4000000 in
theorem st_lv5 : lvS (gEn (0, k, i, j, p, d)) 5 := ⟨rfl, rfl, rfl, rfl, rfl, rfl, rfl, rfl, rfl, rfl, rfl, rfl, rfl, rfl, rfl, rfl, rfl, rfl, rfl, rfl, rfl⟩
set_option maxRecDepth 1000000 in
set_option maxHeartbeats 4000000 in
theorem st_lv16 : lvS (gEn (0, k, i, j, p, d)) 16 := ⟨rfl, rfl, rfl, rfl, rfl, rfl, rfl, rfl, rfl, rfl, rfl, rfl, rfl, rfl, rfl, rfl, rfl, rfl, rfl, rfl, rfl⟩
set_option maxRecDepth 1000000 in
set_option maxHeartbeats 4000000 in
theorem st_lv29 : lvS (gEn (0, k, i, j, p, d)) 29 := ⟨rfl, rfl, rfl, rfl, rfl, rfl, rfl, rfl, rfl, rfl, rfl, rfl, rfl, rfl, rfl, rfl, rfl, rfl, rfl, rfl, rfl⟩
set_option maxRecDepth 1000000 in
set_option maxHeartbeats 4000000 in
theorem st_lv40 : lvS (gEn (0, k, i, j, p, d)) 40 := ⟨rfl, rfl, rfl, rfl, rfl, rfl, rfl, rfl, rfl, rfl, rfl, rfl, rfl, rfl, rfl, rfl, rfl, rfl, rfl, rfl, rfl⟩
set_option maxRecDepth 1000000 in
set_option maxHeartbeats 4000000 in
theorem st_lv51 : lvS (gEn (0, k, i, j, p, d)) 51 := ⟨rfl, rfl, rfl, rfl, rfl, rfl, rfl, rfl, rfl, rfl, rfl, rfl, rfl, rfl, rfl, rfl, rfl, rfl, rfl, rfl, rfl⟩
set_option maxRecDepth 1000000 in
set_option maxHeartbeats 4000000 in
theorem st_lv62 : lvS (gEn (0, k, i, j, p, d)) 62 := ⟨rfl, rfl, rfl, rfl, rfl, rfl, rfl, rfl, rfl, rfl, rfl, rfl, rfl, rfl, rfl, rfl, rfl, rfl, rfl, rfl, rfl⟩
set_option maxRecDepth 1000000 in
set_option maxHeartbeats 4000000 in
theorem st_lv73 : lvS (gEn (0, k, i, j, p, d)) 73 := ⟨rfl, rfl, rfl, rfl, rfl, rfl, rfl, rfl, rfl, rfl, rfl, rfl, rfl, rfl, rfl, rfl, rfl, rfl, rfl, rfl, rfl⟩
set_option maxRecDepth 1000000 in
set_option maxHeartbeats 4000000 in
theorem st_lv84 : lvS (gEn (0, k, i, j, p, d)) 84 := ⟨rfl, rfl, rfl, rfl, rfl, rfl, rfl, rfl, rfl, rfl, rfl, rfl, rfl, rfl, rfl, rfl, rfl, rfl, rfl, rfl, rfl⟩
set_option maxRecDepth 1000000 in
set_option maxHeartbeats 4000000 in
theorem st_lv96 : lvS (gEn (0, k, i, j, p, d)) 96 := ⟨rfl, rfl, rfl, rfl, rfl, rfl, rfl, rfl, rfl, rfl, rfl, rfl, rfl, rfl, rfl, rfl, rfl, rfl, rfl, rfl, rfl⟩
set_option maxRecDepth 1000000 in
set_option maxHeartbeats 4000000 in
theorem st_lv107 : lvS (gEn (0, k, i, j, p, d)) 107 := ⟨rfl, rfl, rfl, rfl, rfl, rfl, rfl, rfl, rfl, rfl, rfl, rfl, rfl, rfl, rfl, rfl, rfl, rfl, rfl, rfl, rfl⟩
set_option maxRecDepth 1000000 in
set_option maxHeartbeats 4000000 in
theorem st_hi : hiS (gEn (0, k, i, j, p, d)) := ⟨rfl, rfl, rfl, all6 rfl rfl rfl rfl rfl rfl, all6 st_lv29 st_lv40 st_lv51 st_lv62 st_lv73 st_lv84⟩
set_option maxRecDepth 1000000 in
set_option maxHeartbeats 4000000 in
theorem st_tb : tbS (gEn (0, k, i, j, p, d)) 119 := ⟨rfl, rfl, rfl, rfl, rfl, rfl, rfl, rfl, rfl⟩
set_option maxRecDepth 1000000 in
set_option maxHeartbeats 4000000 in
theorem st_kt : ktS (gEn (0, k, i, j, p, d)) := ⟨rfl, rfl, rfl, rfl, rfl, rfl, rfl, rfl, rfl, rfl, rfl, rfl, rfl, rfl, rfl, rfl, st_lv5, st_lv16, st_hi, st_lv96, st_lv107, rfl, rfl, rfl, rfl, st_tb, rfl⟩
set_option maxRecDepth 1000000 in
set_option maxHeartbeats 4000000 in
theorem st_i5_0 : zI (gEn (0, k, i, j, p, d)) 5 0 = 1 := rfl
set_option maxRecDepth 1000000 in
set_option maxHeartbeats 4000000 in
theorem st_i5_4 : zI (gEn (0, k, i, j, p, d)) 5 4 = 0 := rfl
set_option maxRecDepth 1000000 in
set_option maxHeartbeats 4000000 in
theorem st_i5_10 : zI (gEn (0, k, i, j, p, d)) 5 10 = 0 := rfl
set_option maxRecDepth 1000000 in
set_option maxHeartbeats 4000000 in
theorem st_i5_11 : zI (gEn (0, k, i, j, p, d)) 5 11 = -1 := rfl
set_option maxRecDepth 1000000 in
set_option maxHeartbeats 4000000 in
theorem st_i5_13 : zI (gEn (0, k, i, j, p, d)) 5 13 = 1 := rfl
set_option maxRecDepth 1000000 in
set_option maxHeartbeats 4000000 in
theorem st_i0_8 : zI (gEn (0, k, i, j, p, d)) 0 8 = 1 := rfl
set_option maxRecDepth 1000000 in
set_option maxHeartbeats 4000000 in
theorem st_i0_10 : zI (gEn (0, k, i, j, p, d)) 0 10 = 0 := rfl
set_option maxRecDepth 1000000 in
set_option maxHeartbeats 4000000 in
theorem st_i0_11 : zI (gEn (0, k, i, j, p, d)) 0 11 = -1 := rfl
set_option maxRecDepth 1000000 in
set_option maxHeartbeats 4000000 in
theorem st_i1_1 : zI (gEn (0, k, i, j, p, d)) 1 1 = 0 := rfl
set_option maxRecDepth 1000000 in
set_option maxHeartbeats 4000000 in
theorem st_i3_1 : zI (gEn (0, k, i, j, p, d)) 3 1 = 0 := rfl
set_option maxRecDepth 1000000 in
set_option maxHeartbeats 4000000 in
theorem st_i27_1 : zI (gEn (0, k, i, j, p, d)) 27 1 = 0 := rfl
set_option maxRecDepth 1000000 in
set_option maxHeartbeats 4000000 in
theorem st_i27_2 : zI (gEn (0, k, i, j, p, d)) 27 2 = 0 := rfl
set_option maxRecDepth 1000000 in
set_option maxHeartbeats 4000000 in
theorem st_r7 : zI (gEn (0, k, i, j, p, d)) 7 = fun _ => 0 := rfl
set_option maxRecDepth 1000000 in
set_option maxHeartbeats 4000000 in
theorem st_r8 : zI (gEn (0, k, i, j, p, d)) 8 = fun _ => 0 := rfl
set_option maxRecDepth 1000000 in
set_option maxHeartbeats 4000000 in
theorem st_r13 : zI (gEn (0, k, i, j, p, d)) 13 = fun _ => 0 := rfl
set_option maxRecDepth 1000000 in
set_option maxHeartbeats 4000000 in
theorem st_r14 : zI (gEn (0, k, i, j, p, d)) 14 = fun _ => 0 := rfl
set_option maxRecDepth 1000000 in
set_option maxHeartbeats 4000000 in
theorem st_r24 : zI (gEn (0, k, i, j, p, d)) 24 = fun _ => 0 := rfl
set_option maxRecDepth 1000000 in
set_option maxHeartbeats 4000000 in
theorem st_r118 : zI (gEn (0, k, i, j, p, d)) 118 = fun _ => 0 := rfl
set_option maxRecDepth 1000000 in
set_option maxHeartbeats 4000000 in
theorem st_j6 : zJ (gEn (0, k, i, j, p, d)) 6 = fun _ => 0 := rfl
set_option maxRecDepth 1000000 in
set_option maxHeartbeats 4000000 in
theorem st_M : zN (znew (0, k, i, j, p, d) 11 12) = 1 ∧ zK (znew (0, k, i, j, p, d) 11 12) 0 = (11, 12) ∧ zN (gEn (0, k, i, j, p, d)) = 125 := ⟨rfl, rfl, rfl⟩
end
theorem k_start {h0 : zm_H} (hN : zN h0 = 0) : ∃ g, sX5_init [.ref 0] (znew h0 11 12) = some (.inl none, g) ∧ zN g = 125 ∧ CI g N11 ∧ HH g [] ∧ BL g 1 2 500 [] := by
  obtain ⟨n, k, i, j, p, d⟩ := h0
  have hN : n = 0 := hN
  subst hN
  obtain ⟨a1, a2, a3⟩ := st_M (k := k) (i := i) (j := j) (p := p) (d := d)
  have s1 := k_X5 a2 a1
  have e5 := L5e
  have e16 := L16e
  have e0 : N11 0 = 1 := rfl
  have e4 : N11 4 = 1 := rfl
  have z : ∀ i, i ≠ 0 → i ≠ 4 → N11 i = 0 := fun i h1 h2 => by unfold N11; rw [if_neg h1, if_neg h2]
  have KE : KL (gEn (0, k, i, j, p, d)) 5 N11 := by
    refine ⟨by rw [st_i5_0]; rfl, by rw [st_i5_4]; rfl, by rw [st_i5_10]; rfl, by rw [st_i5_11]; exact eI_0.symm, by rw [st_i5_13]; rfl, fun r hr => ?_, fun r hr => ?_, fun r hr => ?_, fun r hr => ?_, fun r hr => ?_, fun r hr => ?_, fun r hr => ?_, fun r hr => ?_, fun r hr => ?_⟩
    · rw [st_j6, z _ (by omega) (by omega)]
      show (0 : Int64) = lN (pkn 0)
      decide +kernel
    · rw [st_r7, z _ (by omega) (by omega)]; rfl
    · rw [st_r8, z _ (by omega) (by omega)]; rfl
    · rw [z 1 (by omega) (by omega)] at hr; omega
    · rw [z 1 (by omega) (by omega)] at hr; omega
    · rw [z 1 (by omega) (by omega)] at hr; omega
    · rw [z 1 (by omega) (by omega)] at hr; omega
    · rw [z 1 (by omega) (by omega)] at hr; omega
    · rw [e4] at hr
      rw [st_r14, z _ (by omega) (by omega)]; rfl
  have cE : CI (gEn (0, k, i, j, p, d)) N11 := ⟨st_kt, KE, WF_11, Or.inl st_i0_8, fun i _ => by show zI _ 13 i = 0 ∨ _; rw [st_r13]; exact Or.inl rfl, fun i _ => by show zI _ 24 i = 0 ∨ _; rw [st_r24]; exact Or.inl rfl⟩
  exact ⟨_, s1, a3, cE, ⟨by show 0 ≤ 6; omega, 0, ⟨st_i27_1, st_i27_2, by omega, by show 0 ≤ 6; omega⟩, fun i hi => absurd hi (Nat.not_lt_zero i)⟩, st_i1_1, by show 0 ≤ 500; omega, fun i hi => absurd hi (Nat.not_lt_zero i)⟩
end ZSTA
