/-! A LEVEL OF THE CLASS: single writes, frames. -/
section ZLM
/-- h2 is h but for the rows in A -/
def zFr (A : Nat → Prop) (h h2 : zm_H) : Prop := zN h2 = zN h ∧ zK h2 = zK h ∧ zP h2 = zP h ∧ ∀ b, ¬ A b → zI h2 b = zI h b ∧ zJ h2 b = zJ h b ∧ zD h2 b = zD h b
theorem zFr.rf {A : Nat → Prop} {h : zm_H} : zFr A h h := ⟨rfl, rfl, rfl, fun _ _ => ⟨rfl, rfl, rfl⟩⟩
theorem zFr.tr {A : Nat → Prop} {h h2 h3 : zm_H} (p : zFr A h h2) (q : zFr A h2 h3) : zFr A h h3 := ⟨q.1.trans p.1, q.2.1.trans p.2.1, q.2.2.1.trans p.2.2.1, fun b hb => ⟨(q.2.2.2 b hb).1.trans (p.2.2.2 b hb).1, (q.2.2.2 b hb).2.1.trans (p.2.2.2 b hb).2.1, (q.2.2.2 b hb).2.2.trans (p.2.2.2 b hb).2.2⟩⟩
theorem zFr.mono {A B : Nat → Prop} {h h2 : zm_H} (p : zFr A h h2) (k : ∀ b, A b → B b) : zFr B h h2 := ⟨p.1, p.2.1, p.2.2.1, fun b hb => p.2.2.2 b (fun q => hb (k b q))⟩
theorem zFr.sI {A : Nat → Prop} {h : zm_H} {a i : Nat} {x : Int32} (ha : A a) : zFr A h (zsI h a i x) := ⟨rfl, rfl, rfl, fun b hb => ⟨I_sIn (fun e => hb (e ▸ ha)), rfl, rfl⟩⟩
theorem zFr.rI {A : Nat → Prop} {h : zm_H} {a : Nat} {g : Nat → Int32} (ha : A a) : zFr A h (zrI h a g) := ⟨rfl, rfl, rfl, fun b hb => ⟨I_rIn (fun e => hb (e ▸ ha)), rfl, rfl⟩⟩
theorem zFr.sJ {A : Nat → Prop} {h : zm_H} {a i : Nat} {x : Int64} (ha : A a) : zFr A h (zsJ h a i x) := ⟨rfl, rfl, rfl, fun b hb => ⟨rfl, J_sJn (fun e => hb (e ▸ ha)), rfl⟩⟩
theorem zFr.rJ {A : Nat → Prop} {h : zm_H} {a : Nat} {g : Nat → Int64} (ha : A a) : zFr A h (zrJ h a g) := ⟨rfl, rfl, rfl, fun b hb => ⟨rfl, J_rJn (fun e => hb (e ▸ ha)), rfl⟩⟩
theorem zFr.I {A : Nat → Prop} {h h2 : zm_H} (p : zFr A h h2) {b : Nat} (hb : ¬ A b) : zI h2 b = zI h b := (p.2.2.2 b hb).1
theorem zFr.J {A : Nat → Prop} {h h2 : zm_H} (p : zFr A h h2) {b : Nat} (hb : ¬ A b) : zJ h2 b = zJ h b := (p.2.2.2 b hb).2.1
theorem zFr.K {A : Nat → Prop} {h h2 : zm_H} (p : zFr A h h2) : zK h2 = zK h := p.2.1
theorem zFr.P {A : Nat → Prop} {h h2 : zm_H} (p : zFr A h h2) : zP h2 = zP h := p.2.2.1
theorem lvS_kp {h h2 : zm_H} {a : Nat} (k : zK h2 = zK h) (p : zP h2 = zP h) (hS : lvS h a) : lvS h2 a := by
  unfold lvS; rw [k, p]; exact hS
theorem lvS_fr {A : Nat → Prop} {h h2 : zm_H} {a : Nat} (p : zFr A h h2) (hS : lvS h a) : lvS h2 a := lvS_kp p.K p.P hS
theorem KL_fr {A : Nat → Prop} {h h2 : zm_H} {a : Nat} {N : zLv} (p : zFr A h h2) (hA : ∀ i, i ≤ 9 → ¬ A (a + i)) (hL : KL h a N) : KL h2 a N := by
  unfold KL
  have e0 := p.I (hA 0 (by omega))
  rw [Nat.add_zero] at e0
  rw [e0, p.J (hA 1 (by omega)), p.I (hA 2 (by omega)), p.I (hA 3 (by omega)), p.I (hA 4 (by omega)), p.I (hA 5 (by omega)), p.I (hA 6 (by omega)), p.I (hA 7 (by omega)), p.I (hA 8 (by omega)), p.I (hA 9 (by omega))]
  exact hL
/-- a level's own rows -/
def lvA (a : Nat) : Nat → Prop := fun b => a ≤ b ∧ b ≤ a + 10
theorem KL_off {h h2 : zm_H} {a b : Nat} {N : zLv} (p : zFr (lvA b) h h2) (hab : a + 10 < b ∨ b + 10 < a) (hL : KL h a N) : KL h2 a N := KL_fr p (fun i hi q => by unfold lvA at q; omega) hL
/-- the doors' last row holds bits -/
def lvO (h : zm_H) (a : Nat) : Prop := ∀ i, i < 20 → zI h (a + 8) i = 0 ∨ zI h (a + 8) i = 1
theorem lvO_fr {A : Nat → Prop} {h h2 : zm_H} {a : Nat} (p : zFr A h h2) (hA : ¬ A (a + 8)) (ho : lvO h a) : lvO h2 a := by
  unfold lvO; rw [p.I hA]; exact ho
section
variable {h : zm_H} {a : Nat} {N : zLv}
-- GEN
theorem KL_name (hL : KL h a N) (hb : N 0 ≤ 11 ∧ N 4 ≤ 11) (i x : Nat) (hi : i < 11) : KL (zsJ h (a + 1) i (lN (pkn x))) a (zput N (18 + 3 * i) x) := by
  obtain ⟨l0, l1, l2, l3, l4, ln, lk, lc, lf, lt, ld, lb, lo, lw⟩ := hL
  refine ⟨?_, ?_, ?_, ?_, ?_, fun r hr => ?_, fun r hr => ?_, fun r hr => ?_, fun r hr => ?_, fun r hr => ?_, fun r hr => ?_, fun r hr => ?_, fun r hr => ?_, fun r hr => ?_⟩
  · rw [I_sJ, zput_ne _ _ (by omega)]; exact l0
  · rw [I_sJ, zput_ne _ _ (by omega)]; exact l1
  · rw [I_sJ, zput_ne _ _ (by omega)]; exact l2
  · rw [I_sJ, zput_ne _ _ (by omega)]; exact l3
  · rw [I_sJ, zput_ne _ _ (by omega)]; exact l4
  · rw [zput_ne _ _ (by omega)] at hr
    by_cases e : r = i
    · subst e; rw [J_sJs, zput_self, zput_self]
    · rw [J_sJs, zput_ne _ _ e, zput_ne _ _ (by omega)]; exact ln r hr
  · rw [zput_ne _ _ (by omega)] at hr; rw [I_sJ, zput_ne _ _ (by omega)]; exact lk r hr
  · rw [zput_ne _ _ (by omega)] at hr; rw [I_sJ, zput_ne _ _ (by omega)]; exact lc r hr
  · rw [zput_ne _ _ (by omega)] at hr; rw [I_sJ, zput_ne _ _ (by omega)]; exact lf r hr
  · rw [zput_ne _ _ (by omega)] at hr; rw [I_sJ, zput_ne _ _ (by omega)]; exact lt r hr
  · rw [zput_ne _ _ (by omega)] at hr; rw [I_sJ, zput_ne _ _ (by omega)]; exact ld r hr
  · rw [zput_ne _ _ (by omega)] at hr; rw [I_sJ, zput_ne _ _ (by omega)]; exact lb r hr
  · rw [zput_ne _ _ (by omega)] at hr; rw [I_sJ, zput_ne _ _ (by omega)]; exact lo r hr
  · rw [zput_ne _ _ (by omega)] at hr; rw [I_sJ, zput_ne _ _ (by omega)]; exact lw r hr
theorem KL_keys (hL : KL h a N) (hb : N 0 ≤ 11 ∧ N 4 ≤ 11) (i x : Nat) (hi : i < 11) : KL (zsI h (a + 2) i (nI x)) a (zput N (16 + 3 * i) x) := by
  obtain ⟨l0, l1, l2, l3, l4, ln, lk, lc, lf, lt, ld, lb, lo, lw⟩ := hL
  refine ⟨?_, ?_, ?_, ?_, ?_, fun r hr => ?_, fun r hr => ?_, fun r hr => ?_, fun r hr => ?_, fun r hr => ?_, fun r hr => ?_, fun r hr => ?_, fun r hr => ?_, fun r hr => ?_⟩
  · rw [I_sIn (by omega), zput_ne _ _ (by omega)]; exact l0
  · rw [I_sIn (by omega), zput_ne _ _ (by omega)]; exact l1
  · rw [I_sIn (by omega), zput_ne _ _ (by omega)]; exact l2
  · rw [I_sIn (by omega), zput_ne _ _ (by omega)]; exact l3
  · rw [I_sIn (by omega), zput_ne _ _ (by omega)]; exact l4
  · rw [zput_ne _ _ (by omega)] at hr; rw [J_sI, zput_ne _ _ (by omega)]; exact ln r hr
  · rw [zput_ne _ _ (by omega)] at hr
    by_cases e : r = i
    · subst e; rw [I_sIs, zput_self, zput_self]
    · rw [I_sIs, zput_ne _ _ e, zput_ne _ _ (by omega)]; exact lk r hr
  · rw [zput_ne _ _ (by omega)] at hr; rw [I_sIn (by omega), zput_ne _ _ (by omega)]; exact lc r hr
  · rw [zput_ne _ _ (by omega)] at hr; rw [I_sIn (by omega), zput_ne _ _ (by omega)]; exact lf r hr
  · rw [zput_ne _ _ (by omega)] at hr; rw [I_sIn (by omega), zput_ne _ _ (by omega)]; exact lt r hr
  · rw [zput_ne _ _ (by omega)] at hr; rw [I_sIn (by omega), zput_ne _ _ (by omega)]; exact ld r hr
  · rw [zput_ne _ _ (by omega)] at hr; rw [I_sIn (by omega), zput_ne _ _ (by omega)]; exact lb r hr
  · rw [zput_ne _ _ (by omega)] at hr; rw [I_sIn (by omega), zput_ne _ _ (by omega)]; exact lo r hr
  · rw [zput_ne _ _ (by omega)] at hr; rw [I_sIn (by omega), zput_ne _ _ (by omega)]; exact lw r hr
theorem KL_coins (hL : KL h a N) (hb : N 0 ≤ 11 ∧ N 4 ≤ 11) (i x : Nat) (hi : i < 11) : KL (zsI h (a + 3) i (nI x)) a (zput N (17 + 3 * i) x) := by
  obtain ⟨l0, l1, l2, l3, l4, ln, lk, lc, lf, lt, ld, lb, lo, lw⟩ := hL
  refine ⟨?_, ?_, ?_, ?_, ?_, fun r hr => ?_, fun r hr => ?_, fun r hr => ?_, fun r hr => ?_, fun r hr => ?_, fun r hr => ?_, fun r hr => ?_, fun r hr => ?_, fun r hr => ?_⟩
  · rw [I_sIn (by omega), zput_ne _ _ (by omega)]; exact l0
  · rw [I_sIn (by omega), zput_ne _ _ (by omega)]; exact l1
  · rw [I_sIn (by omega), zput_ne _ _ (by omega)]; exact l2
  · rw [I_sIn (by omega), zput_ne _ _ (by omega)]; exact l3
  · rw [I_sIn (by omega), zput_ne _ _ (by omega)]; exact l4
  · rw [zput_ne _ _ (by omega)] at hr; rw [J_sI, zput_ne _ _ (by omega)]; exact ln r hr
  · rw [zput_ne _ _ (by omega)] at hr; rw [I_sIn (by omega), zput_ne _ _ (by omega)]; exact lk r hr
  · rw [zput_ne _ _ (by omega)] at hr
    by_cases e : r = i
    · subst e; rw [I_sIs, zput_self, zput_self]
    · rw [I_sIs, zput_ne _ _ e, zput_ne _ _ (by omega)]; exact lc r hr
  · rw [zput_ne _ _ (by omega)] at hr; rw [I_sIn (by omega), zput_ne _ _ (by omega)]; exact lf r hr
  · rw [zput_ne _ _ (by omega)] at hr; rw [I_sIn (by omega), zput_ne _ _ (by omega)]; exact lt r hr
  · rw [zput_ne _ _ (by omega)] at hr; rw [I_sIn (by omega), zput_ne _ _ (by omega)]; exact ld r hr
  · rw [zput_ne _ _ (by omega)] at hr; rw [I_sIn (by omega), zput_ne _ _ (by omega)]; exact lb r hr
  · rw [zput_ne _ _ (by omega)] at hr; rw [I_sIn (by omega), zput_ne _ _ (by omega)]; exact lo r hr
  · rw [zput_ne _ _ (by omega)] at hr; rw [I_sIn (by omega), zput_ne _ _ (by omega)]; exact lw r hr
theorem KL_from (hL : KL h a N) (hb : N 0 ≤ 11 ∧ N 4 ≤ 11) (i x : Nat) : KL (zsI h (a + 4) i (nI x)) a (zput N (49 + 5 * i) x) := by
  obtain ⟨l0, l1, l2, l3, l4, ln, lk, lc, lf, lt, ld, lb, lo, lw⟩ := hL
  refine ⟨?_, ?_, ?_, ?_, ?_, fun r hr => ?_, fun r hr => ?_, fun r hr => ?_, fun r hr => ?_, fun r hr => ?_, fun r hr => ?_, fun r hr => ?_, fun r hr => ?_, fun r hr => ?_⟩
  · rw [I_sIn (by omega), zput_ne _ _ (by omega)]; exact l0
  · rw [I_sIn (by omega), zput_ne _ _ (by omega)]; exact l1
  · rw [I_sIn (by omega), zput_ne _ _ (by omega)]; exact l2
  · rw [I_sIn (by omega), zput_ne _ _ (by omega)]; exact l3
  · rw [I_sIn (by omega), zput_ne _ _ (by omega)]; exact l4
  · rw [zput_ne _ _ (by omega)] at hr; rw [J_sI, zput_ne _ _ (by omega)]; exact ln r hr
  · rw [zput_ne _ _ (by omega)] at hr; rw [I_sIn (by omega), zput_ne _ _ (by omega)]; exact lk r hr
  · rw [zput_ne _ _ (by omega)] at hr; rw [I_sIn (by omega), zput_ne _ _ (by omega)]; exact lc r hr
  · rw [zput_ne _ _ (by omega)] at hr
    by_cases e : r = i
    · subst e; rw [I_sIs, zput_self, zput_self]
    · rw [I_sIs, zput_ne _ _ e, zput_ne _ _ (by omega)]; exact lf r hr
  · rw [zput_ne _ _ (by omega)] at hr; rw [I_sIn (by omega), zput_ne _ _ (by omega)]; exact lt r hr
  · rw [zput_ne _ _ (by omega)] at hr; rw [I_sIn (by omega), zput_ne _ _ (by omega)]; exact ld r hr
  · rw [zput_ne _ _ (by omega)] at hr; rw [I_sIn (by omega), zput_ne _ _ (by omega)]; exact lb r hr
  · rw [zput_ne _ _ (by omega)] at hr; rw [I_sIn (by omega), zput_ne _ _ (by omega)]; exact lo r hr
  · rw [zput_ne _ _ (by omega)] at hr; rw [I_sIn (by omega), zput_ne _ _ (by omega)]; exact lw r hr
theorem KL_to (hL : KL h a N) (hb : N 0 ≤ 11 ∧ N 4 ≤ 11) (i x : Nat) : KL (zsI h (a + 5) i (nI x)) a (zput N (50 + 5 * i) x) := by
  obtain ⟨l0, l1, l2, l3, l4, ln, lk, lc, lf, lt, ld, lb, lo, lw⟩ := hL
  refine ⟨?_, ?_, ?_, ?_, ?_, fun r hr => ?_, fun r hr => ?_, fun r hr => ?_, fun r hr => ?_, fun r hr => ?_, fun r hr => ?_, fun r hr => ?_, fun r hr => ?_, fun r hr => ?_⟩
  · rw [I_sIn (by omega), zput_ne _ _ (by omega)]; exact l0
  · rw [I_sIn (by omega), zput_ne _ _ (by omega)]; exact l1
  · rw [I_sIn (by omega), zput_ne _ _ (by omega)]; exact l2
  · rw [I_sIn (by omega), zput_ne _ _ (by omega)]; exact l3
  · rw [I_sIn (by omega), zput_ne _ _ (by omega)]; exact l4
  · rw [zput_ne _ _ (by omega)] at hr; rw [J_sI, zput_ne _ _ (by omega)]; exact ln r hr
  · rw [zput_ne _ _ (by omega)] at hr; rw [I_sIn (by omega), zput_ne _ _ (by omega)]; exact lk r hr
  · rw [zput_ne _ _ (by omega)] at hr; rw [I_sIn (by omega), zput_ne _ _ (by omega)]; exact lc r hr
  · rw [zput_ne _ _ (by omega)] at hr; rw [I_sIn (by omega), zput_ne _ _ (by omega)]; exact lf r hr
  · rw [zput_ne _ _ (by omega)] at hr
    by_cases e : r = i
    · subst e; rw [I_sIs, zput_self, zput_self]
    · rw [I_sIs, zput_ne _ _ e, zput_ne _ _ (by omega)]; exact lt r hr
  · rw [zput_ne _ _ (by omega)] at hr; rw [I_sIn (by omega), zput_ne _ _ (by omega)]; exact ld r hr
  · rw [zput_ne _ _ (by omega)] at hr; rw [I_sIn (by omega), zput_ne _ _ (by omega)]; exact lb r hr
  · rw [zput_ne _ _ (by omega)] at hr; rw [I_sIn (by omega), zput_ne _ _ (by omega)]; exact lo r hr
  · rw [zput_ne _ _ (by omega)] at hr; rw [I_sIn (by omega), zput_ne _ _ (by omega)]; exact lw r hr
theorem KL_kind (hL : KL h a N) (hb : N 0 ≤ 11 ∧ N 4 ≤ 11) (i x : Nat) : KL (zsI h (a + 6) i (nI x)) a (zput N (51 + 5 * i) x) := by
  obtain ⟨l0, l1, l2, l3, l4, ln, lk, lc, lf, lt, ld, lb, lo, lw⟩ := hL
  refine ⟨?_, ?_, ?_, ?_, ?_, fun r hr => ?_, fun r hr => ?_, fun r hr => ?_, fun r hr => ?_, fun r hr => ?_, fun r hr => ?_, fun r hr => ?_, fun r hr => ?_, fun r hr => ?_⟩
  · rw [I_sIn (by omega), zput_ne _ _ (by omega)]; exact l0
  · rw [I_sIn (by omega), zput_ne _ _ (by omega)]; exact l1
  · rw [I_sIn (by omega), zput_ne _ _ (by omega)]; exact l2
  · rw [I_sIn (by omega), zput_ne _ _ (by omega)]; exact l3
  · rw [I_sIn (by omega), zput_ne _ _ (by omega)]; exact l4
  · rw [zput_ne _ _ (by omega)] at hr; rw [J_sI, zput_ne _ _ (by omega)]; exact ln r hr
  · rw [zput_ne _ _ (by omega)] at hr; rw [I_sIn (by omega), zput_ne _ _ (by omega)]; exact lk r hr
  · rw [zput_ne _ _ (by omega)] at hr; rw [I_sIn (by omega), zput_ne _ _ (by omega)]; exact lc r hr
  · rw [zput_ne _ _ (by omega)] at hr; rw [I_sIn (by omega), zput_ne _ _ (by omega)]; exact lf r hr
  · rw [zput_ne _ _ (by omega)] at hr; rw [I_sIn (by omega), zput_ne _ _ (by omega)]; exact lt r hr
  · rw [zput_ne _ _ (by omega)] at hr
    by_cases e : r = i
    · subst e; rw [I_sIs, zput_self, zput_self]
    · rw [I_sIs, zput_ne _ _ e, zput_ne _ _ (by omega)]; exact ld r hr
  · rw [zput_ne _ _ (by omega)] at hr; rw [I_sIn (by omega), zput_ne _ _ (by omega)]; exact lb r hr
  · rw [zput_ne _ _ (by omega)] at hr; rw [I_sIn (by omega), zput_ne _ _ (by omega)]; exact lo r hr
  · rw [zput_ne _ _ (by omega)] at hr; rw [I_sIn (by omega), zput_ne _ _ (by omega)]; exact lw r hr
theorem KL_num (hL : KL h a N) (hb : N 0 ≤ 11 ∧ N 4 ≤ 11) (i x : Nat) : KL (zsI h (a + 7) i (nI x)) a (zput N (52 + 5 * i) x) := by
  obtain ⟨l0, l1, l2, l3, l4, ln, lk, lc, lf, lt, ld, lb, lo, lw⟩ := hL
  refine ⟨?_, ?_, ?_, ?_, ?_, fun r hr => ?_, fun r hr => ?_, fun r hr => ?_, fun r hr => ?_, fun r hr => ?_, fun r hr => ?_, fun r hr => ?_, fun r hr => ?_, fun r hr => ?_⟩
  · rw [I_sIn (by omega), zput_ne _ _ (by omega)]; exact l0
  · rw [I_sIn (by omega), zput_ne _ _ (by omega)]; exact l1
  · rw [I_sIn (by omega), zput_ne _ _ (by omega)]; exact l2
  · rw [I_sIn (by omega), zput_ne _ _ (by omega)]; exact l3
  · rw [I_sIn (by omega), zput_ne _ _ (by omega)]; exact l4
  · rw [zput_ne _ _ (by omega)] at hr; rw [J_sI, zput_ne _ _ (by omega)]; exact ln r hr
  · rw [zput_ne _ _ (by omega)] at hr; rw [I_sIn (by omega), zput_ne _ _ (by omega)]; exact lk r hr
  · rw [zput_ne _ _ (by omega)] at hr; rw [I_sIn (by omega), zput_ne _ _ (by omega)]; exact lc r hr
  · rw [zput_ne _ _ (by omega)] at hr; rw [I_sIn (by omega), zput_ne _ _ (by omega)]; exact lf r hr
  · rw [zput_ne _ _ (by omega)] at hr; rw [I_sIn (by omega), zput_ne _ _ (by omega)]; exact lt r hr
  · rw [zput_ne _ _ (by omega)] at hr; rw [I_sIn (by omega), zput_ne _ _ (by omega)]; exact ld r hr
  · rw [zput_ne _ _ (by omega)] at hr
    by_cases e : r = i
    · subst e; rw [I_sIs, zput_self, zput_self]
    · rw [I_sIs, zput_ne _ _ e, zput_ne _ _ (by omega)]; exact lb r hr
  · rw [zput_ne _ _ (by omega)] at hr; rw [I_sIn (by omega), zput_ne _ _ (by omega)]; exact lo r hr
  · rw [zput_ne _ _ (by omega)] at hr; rw [I_sIn (by omega), zput_ne _ _ (by omega)]; exact lw r hr
theorem KL_ow (hL : KL h a N) (hb : N 0 ≤ 11 ∧ N 4 ≤ 11) (i x : Nat) : KL (zsI h (a + 8) i (nI x)) a (zput N (53 + 5 * i) x) := by
  obtain ⟨l0, l1, l2, l3, l4, ln, lk, lc, lf, lt, ld, lb, lo, lw⟩ := hL
  refine ⟨?_, ?_, ?_, ?_, ?_, fun r hr => ?_, fun r hr => ?_, fun r hr => ?_, fun r hr => ?_, fun r hr => ?_, fun r hr => ?_, fun r hr => ?_, fun r hr => ?_, fun r hr => ?_⟩
  · rw [I_sIn (by omega), zput_ne _ _ (by omega)]; exact l0
  · rw [I_sIn (by omega), zput_ne _ _ (by omega)]; exact l1
  · rw [I_sIn (by omega), zput_ne _ _ (by omega)]; exact l2
  · rw [I_sIn (by omega), zput_ne _ _ (by omega)]; exact l3
  · rw [I_sIn (by omega), zput_ne _ _ (by omega)]; exact l4
  · rw [zput_ne _ _ (by omega)] at hr; rw [J_sI, zput_ne _ _ (by omega)]; exact ln r hr
  · rw [zput_ne _ _ (by omega)] at hr; rw [I_sIn (by omega), zput_ne _ _ (by omega)]; exact lk r hr
  · rw [zput_ne _ _ (by omega)] at hr; rw [I_sIn (by omega), zput_ne _ _ (by omega)]; exact lc r hr
  · rw [zput_ne _ _ (by omega)] at hr; rw [I_sIn (by omega), zput_ne _ _ (by omega)]; exact lf r hr
  · rw [zput_ne _ _ (by omega)] at hr; rw [I_sIn (by omega), zput_ne _ _ (by omega)]; exact lt r hr
  · rw [zput_ne _ _ (by omega)] at hr; rw [I_sIn (by omega), zput_ne _ _ (by omega)]; exact ld r hr
  · rw [zput_ne _ _ (by omega)] at hr; rw [I_sIn (by omega), zput_ne _ _ (by omega)]; exact lb r hr
  · rw [zput_ne _ _ (by omega)] at hr
    by_cases e : r = i
    · subst e; rw [I_sIs, zput_self, zput_self]
    · rw [I_sIs, zput_ne _ _ e, zput_ne _ _ (by omega)]; exact lo r hr
  · rw [zput_ne _ _ (by omega)] at hr; rw [I_sIn (by omega), zput_ne _ _ (by omega)]; exact lw r hr
theorem KL_walk (hL : KL h a N) (hb : N 0 ≤ 11 ∧ N 4 ≤ 11) (i x : Nat) (hi : i < 11) : KL (zsI h (a + 9) i (nI x)) a (zput N (5 + i) x) := by
  obtain ⟨l0, l1, l2, l3, l4, ln, lk, lc, lf, lt, ld, lb, lo, lw⟩ := hL
  refine ⟨?_, ?_, ?_, ?_, ?_, fun r hr => ?_, fun r hr => ?_, fun r hr => ?_, fun r hr => ?_, fun r hr => ?_, fun r hr => ?_, fun r hr => ?_, fun r hr => ?_, fun r hr => ?_⟩
  · rw [I_sIn (by omega), zput_ne _ _ (by omega)]; exact l0
  · rw [I_sIn (by omega), zput_ne _ _ (by omega)]; exact l1
  · rw [I_sIn (by omega), zput_ne _ _ (by omega)]; exact l2
  · rw [I_sIn (by omega), zput_ne _ _ (by omega)]; exact l3
  · rw [I_sIn (by omega), zput_ne _ _ (by omega)]; exact l4
  · rw [zput_ne _ _ (by omega)] at hr; rw [J_sI, zput_ne _ _ (by omega)]; exact ln r hr
  · rw [zput_ne _ _ (by omega)] at hr; rw [I_sIn (by omega), zput_ne _ _ (by omega)]; exact lk r hr
  · rw [zput_ne _ _ (by omega)] at hr; rw [I_sIn (by omega), zput_ne _ _ (by omega)]; exact lc r hr
  · rw [zput_ne _ _ (by omega)] at hr; rw [I_sIn (by omega), zput_ne _ _ (by omega)]; exact lf r hr
  · rw [zput_ne _ _ (by omega)] at hr; rw [I_sIn (by omega), zput_ne _ _ (by omega)]; exact lt r hr
  · rw [zput_ne _ _ (by omega)] at hr; rw [I_sIn (by omega), zput_ne _ _ (by omega)]; exact ld r hr
  · rw [zput_ne _ _ (by omega)] at hr; rw [I_sIn (by omega), zput_ne _ _ (by omega)]; exact lb r hr
  · rw [zput_ne _ _ (by omega)] at hr; rw [I_sIn (by omega), zput_ne _ _ (by omega)]; exact lo r hr
  · rw [zput_ne _ _ (by omega)] at hr
    by_cases e : r = i
    · subst e; rw [I_sIs, zput_self, zput_self]
    · rw [I_sIs, zput_ne _ _ e, zput_ne _ _ (by omega)]; exact lw r hr
theorem KL_start (hL : KL h a N) (x : Nat) : KL (zsI h a 10 (nI x)) a (zput N 2 x) := by
  obtain ⟨l0, l1, l2, l3, l4, ln, lk, lc, lf, lt, ld, lb, lo, lw⟩ := hL
  refine ⟨?_, ?_, ?_, ?_, ?_, fun r hr => ?_, fun r hr => ?_, fun r hr => ?_, fun r hr => ?_, fun r hr => ?_, fun r hr => ?_, fun r hr => ?_, fun r hr => ?_, fun r hr => ?_⟩
  · rw [I_sIs, zput_ne _ _ (by omega), zput_ne _ _ (by omega)]; exact l0
  · rw [I_sIs, zput_ne _ _ (by omega), zput_ne _ _ (by omega)]; exact l1
  · rw [I_sIs, zput_self, zput_self]
  · rw [I_sIs, zput_ne _ _ (by omega), zput_ne _ _ (by omega)]; exact l3
  · rw [I_sIs, zput_ne _ _ (by omega), zput_ne _ _ (by omega)]; exact l4
  · rw [J_sI, zput_ne _ _ (by omega)]; exact ln r (by rwa [zput_ne _ _ (by omega)] at hr)
  · rw [I_sIn (by omega), zput_ne _ _ (by omega)]; exact lk r (by rwa [zput_ne _ _ (by omega)] at hr)
  · rw [I_sIn (by omega), zput_ne _ _ (by omega)]; exact lc r (by rwa [zput_ne _ _ (by omega)] at hr)
  · rw [I_sIn (by omega), zput_ne _ _ (by omega)]; exact lf r (by rwa [zput_ne _ _ (by omega)] at hr)
  · rw [I_sIn (by omega), zput_ne _ _ (by omega)]; exact lt r (by rwa [zput_ne _ _ (by omega)] at hr)
  · rw [I_sIn (by omega), zput_ne _ _ (by omega)]; exact ld r (by rwa [zput_ne _ _ (by omega)] at hr)
  · rw [I_sIn (by omega), zput_ne _ _ (by omega)]; exact lb r (by rwa [zput_ne _ _ (by omega)] at hr)
  · rw [I_sIn (by omega), zput_ne _ _ (by omega)]; exact lo r (by rwa [zput_ne _ _ (by omega)] at hr)
  · rw [I_sIn (by omega), zput_ne _ _ (by omega)]; exact lw r (by rwa [zput_ne _ _ (by omega)] at hr)
theorem KL_end (hL : KL h a N) (x : Nat) : KL (zsI h a 11 (eI x)) a (zput N 3 x) := by
  obtain ⟨l0, l1, l2, l3, l4, ln, lk, lc, lf, lt, ld, lb, lo, lw⟩ := hL
  refine ⟨?_, ?_, ?_, ?_, ?_, fun r hr => ?_, fun r hr => ?_, fun r hr => ?_, fun r hr => ?_, fun r hr => ?_, fun r hr => ?_, fun r hr => ?_, fun r hr => ?_, fun r hr => ?_⟩
  · rw [I_sIs, zput_ne _ _ (by omega), zput_ne _ _ (by omega)]; exact l0
  · rw [I_sIs, zput_ne _ _ (by omega), zput_ne _ _ (by omega)]; exact l1
  · rw [I_sIs, zput_ne _ _ (by omega), zput_ne _ _ (by omega)]; exact l2
  · rw [I_sIs, zput_self, zput_self]
  · rw [I_sIs, zput_ne _ _ (by omega), zput_ne _ _ (by omega)]; exact l4
  · rw [J_sI, zput_ne _ _ (by omega)]; exact ln r (by rwa [zput_ne _ _ (by omega)] at hr)
  · rw [I_sIn (by omega), zput_ne _ _ (by omega)]; exact lk r (by rwa [zput_ne _ _ (by omega)] at hr)
  · rw [I_sIn (by omega), zput_ne _ _ (by omega)]; exact lc r (by rwa [zput_ne _ _ (by omega)] at hr)
  · rw [I_sIn (by omega), zput_ne _ _ (by omega)]; exact lf r (by rwa [zput_ne _ _ (by omega)] at hr)
  · rw [I_sIn (by omega), zput_ne _ _ (by omega)]; exact lt r (by rwa [zput_ne _ _ (by omega)] at hr)
  · rw [I_sIn (by omega), zput_ne _ _ (by omega)]; exact ld r (by rwa [zput_ne _ _ (by omega)] at hr)
  · rw [I_sIn (by omega), zput_ne _ _ (by omega)]; exact lb r (by rwa [zput_ne _ _ (by omega)] at hr)
  · rw [I_sIn (by omega), zput_ne _ _ (by omega)]; exact lo r (by rwa [zput_ne _ _ (by omega)] at hr)
  · rw [I_sIn (by omega), zput_ne _ _ (by omega)]; exact lw r (by rwa [zput_ne _ _ (by omega)] at hr)
theorem KL_len (hL : KL h a N) (x : Nat) (hx : (∀ r, r < x → zI h (a + 9) r = nI (N (5 + r)))) : KL (zsI h a 13 (nI x)) a (zput N 4 x) := by
  obtain ⟨l0, l1, l2, l3, l4, ln, lk, lc, lf, lt, ld, lb, lo, lw⟩ := hL
  have hq := hx
  have qlw := hq
  refine ⟨?_, ?_, ?_, ?_, ?_, fun r hr => ?_, fun r hr => ?_, fun r hr => ?_, fun r hr => ?_, fun r hr => ?_, fun r hr => ?_, fun r hr => ?_, fun r hr => ?_, fun r hr => ?_⟩
  · rw [I_sIs, zput_ne _ _ (by omega), zput_ne _ _ (by omega)]; exact l0
  · rw [I_sIs, zput_ne _ _ (by omega), zput_ne _ _ (by omega)]; exact l1
  · rw [I_sIs, zput_ne _ _ (by omega), zput_ne _ _ (by omega)]; exact l2
  · rw [I_sIs, zput_ne _ _ (by omega), zput_ne _ _ (by omega)]; exact l3
  · rw [I_sIs, zput_self, zput_self]
  · rw [J_sI, zput_ne _ _ (by omega)]; exact ln r (by rwa [zput_ne _ _ (by omega)] at hr)
  · rw [I_sIn (by omega), zput_ne _ _ (by omega)]; exact lk r (by rwa [zput_ne _ _ (by omega)] at hr)
  · rw [I_sIn (by omega), zput_ne _ _ (by omega)]; exact lc r (by rwa [zput_ne _ _ (by omega)] at hr)
  · rw [I_sIn (by omega), zput_ne _ _ (by omega)]; exact lf r (by rwa [zput_ne _ _ (by omega)] at hr)
  · rw [I_sIn (by omega), zput_ne _ _ (by omega)]; exact lt r (by rwa [zput_ne _ _ (by omega)] at hr)
  · rw [I_sIn (by omega), zput_ne _ _ (by omega)]; exact ld r (by rwa [zput_ne _ _ (by omega)] at hr)
  · rw [I_sIn (by omega), zput_ne _ _ (by omega)]; exact lb r (by rwa [zput_ne _ _ (by omega)] at hr)
  · rw [I_sIn (by omega), zput_ne _ _ (by omega)]; exact lo r (by rwa [zput_ne _ _ (by omega)] at hr)
  · rw [zput_self] at hr; rw [I_sIn (by omega), zput_ne _ _ (by omega)]; exact qlw r hr
theorem KL_doors (hL : KL h a N) (x : Nat) (hx : (∀ r, r < x → zI h (a + 4) r = nI (N (49 + 5 * r))) ∧ (∀ r, r < x → zI h (a + 5) r = nI (N (50 + 5 * r))) ∧ (∀ r, r < x → zI h (a + 6) r = nI (N (51 + 5 * r))) ∧ (∀ r, r < x → zI h (a + 7) r = nI (N (52 + 5 * r))) ∧ (∀ r, r < x → zI h (a + 8) r = nI (N (53 + 5 * r)))) : KL (zsI h a 4 (nI x)) a (zput N 1 x) := by
  obtain ⟨l0, l1, l2, l3, l4, ln, lk, lc, lf, lt, ld, lb, lo, lw⟩ := hL
  have hq := hx
  obtain ⟨qlf, qlt, qld, qlb, qlo⟩ := hq
  refine ⟨?_, ?_, ?_, ?_, ?_, fun r hr => ?_, fun r hr => ?_, fun r hr => ?_, fun r hr => ?_, fun r hr => ?_, fun r hr => ?_, fun r hr => ?_, fun r hr => ?_, fun r hr => ?_⟩
  · rw [I_sIs, zput_ne _ _ (by omega), zput_ne _ _ (by omega)]; exact l0
  · rw [I_sIs, zput_self, zput_self]
  · rw [I_sIs, zput_ne _ _ (by omega), zput_ne _ _ (by omega)]; exact l2
  · rw [I_sIs, zput_ne _ _ (by omega), zput_ne _ _ (by omega)]; exact l3
  · rw [I_sIs, zput_ne _ _ (by omega), zput_ne _ _ (by omega)]; exact l4
  · rw [J_sI, zput_ne _ _ (by omega)]; exact ln r (by rwa [zput_ne _ _ (by omega)] at hr)
  · rw [I_sIn (by omega), zput_ne _ _ (by omega)]; exact lk r (by rwa [zput_ne _ _ (by omega)] at hr)
  · rw [I_sIn (by omega), zput_ne _ _ (by omega)]; exact lc r (by rwa [zput_ne _ _ (by omega)] at hr)
  · rw [zput_self] at hr; rw [I_sIn (by omega), zput_ne _ _ (by omega)]; exact qlf r hr
  · rw [zput_self] at hr; rw [I_sIn (by omega), zput_ne _ _ (by omega)]; exact qlt r hr
  · rw [zput_self] at hr; rw [I_sIn (by omega), zput_ne _ _ (by omega)]; exact qld r hr
  · rw [zput_self] at hr; rw [I_sIn (by omega), zput_ne _ _ (by omega)]; exact qlb r hr
  · rw [zput_self] at hr; rw [I_sIn (by omega), zput_ne _ _ (by omega)]; exact qlo r hr
  · rw [I_sIn (by omega), zput_ne _ _ (by omega)]; exact lw r (by rwa [zput_ne _ _ (by omega)] at hr)
theorem KL_rooms (hL : KL h a N) (x : Nat) (hx : (∀ r, r < x → zJ h (a + 1) r = lN (pkn (N (18 + 3 * r)))) ∧ (∀ r, r < x → zI h (a + 2) r = nI (N (16 + 3 * r))) ∧ (∀ r, r < x → zI h (a + 3) r = nI (N (17 + 3 * r)))) : KL (zsI h a 0 (nI x)) a (zput N 0 x) := by
  obtain ⟨l0, l1, l2, l3, l4, ln, lk, lc, lf, lt, ld, lb, lo, lw⟩ := hL
  have hq := hx
  obtain ⟨qln, qlk, qlc⟩ := hq
  refine ⟨?_, ?_, ?_, ?_, ?_, fun r hr => ?_, fun r hr => ?_, fun r hr => ?_, fun r hr => ?_, fun r hr => ?_, fun r hr => ?_, fun r hr => ?_, fun r hr => ?_, fun r hr => ?_⟩
  · rw [I_sIs, zput_self, zput_self]
  · rw [I_sIs, zput_ne _ _ (by omega), zput_ne _ _ (by omega)]; exact l1
  · rw [I_sIs, zput_ne _ _ (by omega), zput_ne _ _ (by omega)]; exact l2
  · rw [I_sIs, zput_ne _ _ (by omega), zput_ne _ _ (by omega)]; exact l3
  · rw [I_sIs, zput_ne _ _ (by omega), zput_ne _ _ (by omega)]; exact l4
  · rw [zput_self] at hr; rw [J_sI, zput_ne _ _ (by omega)]; exact qln r hr
  · rw [zput_self] at hr; rw [I_sIn (by omega), zput_ne _ _ (by omega)]; exact qlk r hr
  · rw [zput_self] at hr; rw [I_sIn (by omega), zput_ne _ _ (by omega)]; exact qlc r hr
  · rw [I_sIn (by omega), zput_ne _ _ (by omega)]; exact lf r (by rwa [zput_ne _ _ (by omega)] at hr)
  · rw [I_sIn (by omega), zput_ne _ _ (by omega)]; exact lt r (by rwa [zput_ne _ _ (by omega)] at hr)
  · rw [I_sIn (by omega), zput_ne _ _ (by omega)]; exact ld r (by rwa [zput_ne _ _ (by omega)] at hr)
  · rw [I_sIn (by omega), zput_ne _ _ (by omega)]; exact lb r (by rwa [zput_ne _ _ (by omega)] at hr)
  · rw [I_sIn (by omega), zput_ne _ _ (by omega)]; exact lo r (by rwa [zput_ne _ _ (by omega)] at hr)
  · rw [I_sIn (by omega), zput_ne _ _ (by omega)]; exact lw r (by rwa [zput_ne _ _ (by omega)] at hr)
theorem KL_len_dn (hL : KL h a N) (x : Nat) (hx : x ≤ N 4) : KL (zsI h a 13 (nI x)) a (zput N 4 x) := KL_len hL x (fun r hr => hL.2.2.2.2.2.2.2.2.2.2.2.2.2 r (by omega))
theorem KL_doors_dn (hL : KL h a N) (x : Nat) (hx : x ≤ N 1) : KL (zsI h a 4 (nI x)) a (zput N 1 x) := by
  have hL2 := hL
  obtain ⟨l0, l1, l2, l3, l4, ln, lk, lc, lf, lt, ld, lb, lo, lw⟩ := hL
  exact KL_doors hL2 x ⟨fun r hr => lf r (by omega), fun r hr => lt r (by omega), fun r hr => ld r (by omega), fun r hr => lb r (by omega), fun r hr => lo r (by omega)⟩
theorem KL_rooms_dn (hL : KL h a N) (x : Nat) (hx : x ≤ N 0) : KL (zsI h a 0 (nI x)) a (zput N 0 x) := by
  have hL2 := hL
  obtain ⟨l0, l1, l2, l3, l4, ln, lk, lc, lf, lt, ld, lb, lo, lw⟩ := hL
  exact KL_rooms hL2 x ⟨fun r hr => ln r (by omega), fun r hr => lk r (by omega), fun r hr => lc r (by omega)⟩
end
end ZLM

