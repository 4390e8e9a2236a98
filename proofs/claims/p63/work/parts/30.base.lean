/-! RUNS OF ROWS AS TREES: what must hold of an end; heaps read and written; numbers and bits. -/
section ZBASE
/-- every end of the run from t is in R, and there is one -/
def zTo (env : List (zm_M × zm_S)) (rows : List zm_R) (t : zm_T) (R : zm_O → Prop) : Prop := ∃ o, zRn env zsc0 rows t o ∧ R o
def zQ (env : List (zm_M × zm_S)) (rows : List zm_R) (R : zm_O → Prop) : Option (zm_T ⊕ zm_O) → Prop
  | some (.inl t) => zTo env rows t R
  | some (.inr o) => R o
  | none => False
def zW (o : Option zm_O) (R : zm_O → Prop) : Prop := ∃ x, o = some x ∧ R x
theorem zTo_of {env : List (zm_M × zm_S)} {rows : List zm_R} {t : zm_T} {R : zm_O → Prop} {x : Option (zm_T ⊕ zm_O)} (e : zE env zsc0 rows t = x) (h : zQ env rows R x) : zTo env rows t R := by
  match x, h with
  | some (.inl t2), h => obtain ⟨o, h1, h2⟩ := h; exact ⟨o, h1.head e, h2⟩
  | some (.inr o), h => exact ⟨o, zRn.done e, h⟩
theorem zQ_l {env : List (zm_M × zm_S)} {rows : List zm_R} {R : zm_O → Prop} {t : zm_T} : zQ env rows R (some (.inl t)) = zTo env rows t R := rfl
theorem zQ_r {env : List (zm_M × zm_S)} {rows : List zm_R} {R : zm_O → Prop} {o : zm_O} : zQ env rows R (some (.inr o)) = R o := rfl
theorem zsem_to {env : List (zm_M × zm_S)} {rows : List zm_R} {nL : Nat} {av : List Value} {h : zm_H} {R : zm_O → Prop} (hn : (zarg av).length ≤ nL) (q : zTo env rows (0, zlok nL av, [], h) R) : zW (zsem env rows nL av h) R := by
  obtain ⟨o, h1, h2⟩ := q
  exact ⟨o, zsem_of hn h1, h2⟩
theorem zW_eq {o : Option zm_O} {x : zm_O} : zW o (fun y => y = x) ↔ o = some x := by
  constructor
  · rintro ⟨y, h1, rfl⟩; exact h1
  · intro h; exact ⟨x, h, rfl⟩
theorem zsem_eq {env : List (zm_M × zm_S)} {rows : List zm_R} {nL : Nat} {av : List Value} {h : zm_H} {o : zm_O} (hn : (zarg av).length ≤ nL) (q : zTo env rows (0, zlok nL av, [], h) (fun y => y = o)) : zsem env rows nL av h = some o := zW_eq.mp (zsem_to hn q)
theorem zTo.mono {env : List (zm_M × zm_S)} {rows : List zm_R} {t : zm_T} {R R2 : zm_O → Prop} (h : zTo env rows t R) (k : ∀ o, R o → R2 o) : zTo env rows t R2 := by
  obtain ⟨o, h1, h2⟩ := h; exact ⟨o, h1, k o h2⟩
/-- a loop: n rounds, one after the other -/
theorem zTo_for {env : List (zm_M × zm_S)} {rows : List zm_R} {R : zm_O → Prop} {f : Nat → zm_T} (n : Nat) (i : Nat) (hi : i ≤ n) (hs : ∀ k, i ≤ k → k < n → zE env zsc0 rows (f k) = some (.inl (f (k + 1)))) (h : zTo env rows (f n) R) : zTo env rows (f i) R := by
  obtain ⟨d, rfl⟩ : ∃ d, n = i + d := ⟨n - i, by omega⟩
  clear hi
  induction d generalizing i with
  | zero => exact h
  | succ d ih =>
    refine zTo_of (hs i (Nat.le_refl _) (by omega)) (ih (i + 1) (fun k h1 h2 => hs k (by omega) (by omega)) ?_)
    rw [show i + 1 + d = i + (d + 1) by omega]; exact h
theorem zTo_inv {env : List (zm_M × zm_S)} {rows : List zm_R} {R : zm_O → Prop} {P : Nat → zm_T → Prop} (n : Nat) (i : Nat) (t : zm_T) (hi : i ≤ n) (h0 : P i t) (hs : ∀ k t, i ≤ k → k < n → P k t → ∃ t2, zE env zsc0 rows t = some (.inl t2) ∧ P (k + 1) t2) (h : ∀ t, P n t → zTo env rows t R) : zTo env rows t R := by
  obtain ⟨d, rfl⟩ : ∃ d, n = i + d := ⟨n - i, by omega⟩
  clear hi
  induction d generalizing i t with
  | zero => exact h t h0
  | succ d ih =>
    obtain ⟨t2, e, h2⟩ := hs i t (Nat.le_refl _) (by omega) h0
    refine zTo_of e (ih (i + 1) t2 h2 (fun k t h1 h3 => hs k t (by omega) (by omega)) (fun t ht => ?_))
    rw [show i + 1 + d = i + (d + 1) by omega] at ht; exact h t ht
/-- a loop by a measure that falls -/
theorem zTo_dn {env : List (zm_M × zm_S)} {rows : List zm_R} {R : zm_O → Prop} {P : Nat → zm_T → Prop} (hs : ∀ n t, P n t → (∀ m t2, m < n → P m t2 → zTo env rows t2 R) → zTo env rows t R) : ∀ n t, P n t → zTo env rows t R := by
  intro n
  induction n using Nat.strongRecOn with
  | _ n ih => intro t h; exact hs n t h (fun m t2 hm h2 => ih m hm t2 h2)
section
variable {X : Type}
theorem zgd_t {c : Prop} {k : Option X} [Decidable c] (h : c) : zgd c k = k := if_pos h
theorem zmp_s {q : Nat} {k : Nat → Option X} : zmp (some q) k = k q := rfl
theorem zlt_s {α : Type} {v : α} {k : α → Option X} : zlt v k = k v := rfl
theorem zcV_s {h : zm_H} {k : zm_H → Option X} : zcV (some (.inl none, h)) k = k h := rfl
theorem zcI_s {x : Int32} {h : zm_H} {k : Int32 → zm_H → Option X} : zcI (some (.inl (some (.int x)), h)) k = k x h := rfl
theorem zcJ_s {x : Int64} {h : zm_H} {k : Int64 → zm_H → Option X} : zcJ (some (.inl (some (.long x)), h)) k = k x h := rfl
theorem zcA_s {x : Nat} {h : zm_H} {k : Nat → zm_H → Option X} : zcA (some (.inl (some (.ref x)), h)) k = k x h := rfl
theorem zcD_s {x : UInt64} {h : zm_H} {k : UInt64 → zm_H → Option X} : zcD (some (.inl (some (.double x)), h)) k = k x h := rfl
theorem zcF_s {x : UInt32} {h : zm_H} {k : UInt32 → zm_H → Option X} : zcF (some (.inl (some (.float x)), h)) k = k x h := rfl
theorem zth_n {v : Option Value} {h : zm_H} {kx : Nat → zm_H → Option X} {k : Option X} : zthr (some (.inl v, h)) kx k = k := rfl
theorem zth_t {E : Nat} {h : zm_H} {kx : Nat → zm_H → Option X} {k : Option X} : zthr (some (.inr E, h)) kx k = kx E h := rfl
end
theorem zrt_s {o : zm_O} : zrt (some o) = some (.inr o) := rfl
-- heaps
section
variable {h : zm_H} {a b i j kd n : Nat} {x : Int32} {y : Int64} {z : UInt64} {q : Option Nat} {f : Nat → Int32} {g : Nat → Int64}
theorem K_sI : zK (zsI h a i x) = zK h := rfl
theorem K_sJ : zK (zsJ h a i y) = zK h := rfl
theorem K_sD : zK (zsD h a i z) = zK h := rfl
theorem K_sP : zK (zsP h a i q) = zK h := rfl
theorem K_rI : zK (zrI h a f) = zK h := rfl
theorem K_rJ : zK (zrJ h a g) = zK h := rfl
theorem P_sI : zP (zsI h a i x) = zP h := rfl
theorem P_sJ : zP (zsJ h a i y) = zP h := rfl
theorem P_sD : zP (zsD h a i z) = zP h := rfl
theorem P_rI : zP (zrI h a f) = zP h := rfl
theorem P_rJ : zP (zrJ h a g) = zP h := rfl
theorem N_sI : zN (zsI h a i x) = zN h := rfl
theorem N_sJ : zN (zsJ h a i y) = zN h := rfl
theorem N_sD : zN (zsD h a i z) = zN h := rfl
theorem N_sP : zN (zsP h a i q) = zN h := rfl
theorem N_rI : zN (zrI h a f) = zN h := rfl
theorem N_rJ : zN (zrJ h a g) = zN h := rfl
theorem J_sI : zJ (zsI h a i x) = zJ h := rfl
theorem J_sD : zJ (zsD h a i z) = zJ h := rfl
theorem J_sP : zJ (zsP h a i q) = zJ h := rfl
theorem J_rI : zJ (zrI h a f) = zJ h := rfl
theorem I_sJ : zI (zsJ h a i y) = zI h := rfl
theorem I_sD : zI (zsD h a i z) = zI h := rfl
theorem I_sP : zI (zsP h a i q) = zI h := rfl
theorem I_rJ : zI (zrJ h a g) = zI h := rfl
theorem D_sI : zD (zsI h a i x) = zD h := rfl
theorem D_sJ : zD (zsJ h a i y) = zD h := rfl
theorem D_sP : zD (zsP h a i q) = zD h := rfl
theorem D_rI : zD (zrI h a f) = zD h := rfl
theorem D_rJ : zD (zrJ h a g) = zD h := rfl
theorem I_sI : zI (zsI h a i x) b = if b = a then zput (zI h a) i x else zI h b := by
  show zrow _ _ _ b = _; unfold zrow; rfl
theorem I_rI : zI (zrI h a f) b = if b = a then f else zI h b := by
  show zrow _ _ _ b = _; unfold zrow; rfl
theorem J_sJ : zJ (zsJ h a i y) b = if b = a then zput (zJ h a) i y else zJ h b := by
  show zrow _ _ _ b = _; unfold zrow; rfl
theorem J_rJ : zJ (zrJ h a g) b = if b = a then g else zJ h b := by
  show zrow _ _ _ b = _; unfold zrow; rfl
theorem D_sD : zD (zsD h a i z) b = if b = a then zput (zD h a) i z else zD h b := by
  show zrow _ _ _ b = _; unfold zrow; rfl
theorem P_sP : zP (zsP h a i q) b = if b = a then zput (zP h a) i q else zP h b := by
  show zrow _ _ _ b = _; unfold zrow; rfl
theorem zput_i {α : Type} {f : Nat → α} {i j : Nat} {x : α} : zput f i x j = if j = i then x else f j := rfl
theorem I_sIs : zI (zsI h a i x) a = zput (zI h a) i x := zrow_self _ _ _
theorem I_rIs : zI (zrI h a f) a = f := zrow_self _ _ _
theorem J_sJs : zJ (zsJ h a i y) a = zput (zJ h a) i y := zrow_self _ _ _
theorem J_rJs : zJ (zrJ h a g) a = g := zrow_self _ _ _
theorem I_sIn (hb : b ≠ a) : zI (zsI h a i x) b = zI h b := zrow_ne _ _ hb
theorem I_rIn (hb : b ≠ a) : zI (zrI h a f) b = zI h b := zrow_ne _ _ hb
theorem J_sJn (hb : b ≠ a) : zJ (zsJ h a i y) b = zJ h b := zrow_ne _ _ hb
theorem J_rJn (hb : b ≠ a) : zJ (zrJ h a g) b = zJ h b := zrow_ne _ _ hb
end
-- numbers
theorem nI_m1 : (-1 : Int32) = nI 4294967295 := by decide +kernel
theorem nI_lit1 : (1 : Int32) = nI 1 := rfl
theorem nI_ix {k n : Nat} (h : k < n) (hk : k < 2 ^ 31) : ¬ (nI k < 0 ∨ n ≤ (nI k).toNatClampNeg) := by
  rw [nI_clamp hk]
  intro q
  rcases q with q | q
  · exact nI_pos hk q
  · omega
theorem nI_lt0 {n : Nat} (h : n < 2 ^ 31) : (nI n < 0) = False := eq_false (nI_pos h)
theorem nI_0le {n : Nat} (h : n < 2 ^ 31) : (0 ≤ nI n) = True := eq_true (nI_pos' h)
theorem nI_eq0 {n : Nat} (h : n < 2 ^ 31) : (nI n = 0) = (n = 0) := by
  apply propext
  rw [← nI_0, nI_eq h (by omega)]
theorem nx_or (a b : Nat) : nI a ||| nI b = nI (a ||| b) := by
  apply Int32.toBitVec_inj.1
  show BitVec.ofNat 32 a ||| BitVec.ofNat 32 b = BitVec.ofNat 32 (a ||| b)
  apply BitVec.eq_of_getLsbD_eq
  intro i hi
  simp [hi]
theorem nx_and (a b : Nat) : nI a &&& nI b = nI (a &&& b) := by
  apply Int32.toBitVec_inj.1
  show BitVec.ofNat 32 a &&& BitVec.ofNat 32 b = BitVec.ofNat 32 (a &&& b)
  apply BitVec.eq_of_getLsbD_eq
  intro i hi
  simp [hi]
theorem nx_xor (a b : Nat) : nI a ^^^ nI b = nI (a ^^^ b) := by
  apply Int32.toBitVec_inj.1
  show BitVec.ofNat 32 a ^^^ BitVec.ofNat 32 b = BitVec.ofNat 32 (a ^^^ b)
  apply BitVec.eq_of_getLsbD_eq
  intro i hi
  simp [hi]
theorem nx_sl : ∀ n, n < 32 → ((nI n &&& 31).toBitVec.smod 32).toNat = n := by decide +kernel
theorem nx_shr {a k : Nat} (ha : a < 2 ^ 31) (hk : k < 32) : nI a >>> (nI k &&& 31) = nI (a >>> k) := by
  rw [pk_shrN ha _ k (nx_sl k hk), Nat.shiftRight_eq_div_pow]
theorem nx_shl1 {k : Nat} (hk : k < 32) : (1 : Int32) <<< (nI k &&& 31) = nI (2 ^ k) := by
  have h := pk_shlN (n := 1) (nI k &&& 31) k (nx_sl k hk) (by
    rw [Nat.one_mul]; exact Nat.pow_lt_pow_right (by omega) hk)
  rw [Nat.one_mul] at h
  exact h
/-- a bit as a number -/
def zb (b : Bool) : Int32 := if b then 1 else 0
theorem zb_0 {b : Bool} : (zb b = 0) = (b = false) := by cases b <;> decide
theorem zb_1 {b : Bool} : (zb b = 1) = (b = true) := by cases b <;> decide
theorem zb_01 {b : Bool} : zb b = 0 ∨ zb b = 1 := by cases b <;> decide
theorem zb_t : zb true = 1 := rfl
theorem zb_f : zb false = 0 := rfl
theorem nx_bit {a k : Nat} (ha : a < 2 ^ 31) (hk : k < 32) : (nI a >>> (nI k &&& 31)) &&& 1 = zb (a.testBit k) := by
  rw [nx_shr ha hk]
  show nI (a >>> k) &&& nI 1 = _
  rw [nx_and, Nat.testBit_eq_decide_div_mod_eq, Nat.and_one_is_mod, Nat.shiftRight_eq_div_pow]
  generalize a / 2 ^ k = z
  unfold zb
  rcases Nat.mod_two_eq_zero_or_one z with q | q <;> rw [q] <;> rfl
/-- folds over 0 .. n-1 -/
def zfo {α : Type} (f : Nat → α → α) (a : α) : Nat → α
  | 0 => a
  | n + 1 => f n (zfo f a n)
theorem zfo_s {α : Type} {f : Nat → α → α} {a : α} {n : Nat} : zfo f a (n + 1) = f n (zfo f a n) := rfl
theorem zfo_0 {α : Type} {f : Nat → α → α} {a : α} : zfo f a 0 = a := rfl
theorem zfo_ind {α : Type} {f : Nat → α → α} {a : α} (P : α → Prop) (h0 : P a) (n : Nat) (hs : ∀ i x, i < n → P x → P (f i x)) : P (zfo f a n) := by
  induction n with
  | zero => exact h0
  | succ n ih => exact hs n _ (by omega) (ih (fun i x hi => hs i x (by omega)))
theorem zfo_congr {α : Type} {f g : Nat → α → α} {a : α} (n : Nat) (h : ∀ i x, i < n → f i x = g i x) : zfo f a n = zfo g a n := by
  induction n with
  | zero => rfl
  | succ n ih => rw [zfo_s, zfo_s, ih (fun i x hi => h i x (by omega)), h n _ (by omega)]
theorem or_lt {a b n : Nat} (ha : a < 2 ^ n) (hb : b < 2 ^ n) : a ||| b < 2 ^ n := Nat.or_lt_two_pow ha hb
end ZBASE

