/-! SUMS, BITS OF NATURALS, WALKS COUNTED FORWARDS AND BACKWARDS. -/
section ZSUM
/-- the sum over 0 .. n-1 -/
def zsu (f : Nat → Nat) : Nat → Nat
  | 0 => 0
  | n + 1 => zsu f n + f n
theorem zsu_s (f : Nat → Nat) (n : Nat) : zsu f (n + 1) = zsu f n + f n := rfl
theorem zsu_congr {f g : Nat → Nat} (n : Nat) (h : ∀ i, i < n → f i = g i) : zsu f n = zsu g n := by
  induction n with
  | zero => rfl
  | succ n ih => rw [zsu_s, zsu_s, ih (fun i hi => h i (by omega)), h n (by omega)]
theorem zsu_add (f g : Nat → Nat) (n : Nat) : zsu (fun i => f i + g i) n = zsu f n + zsu g n := by
  induction n with
  | zero => rfl
  | succ n ih => rw [zsu_s, zsu_s, zsu_s, ih]; omega
theorem zsu_mul (f : Nat → Nat) (c n : Nat) : zsu (fun i => c * f i) n = c * zsu f n := by
  induction n with
  | zero => rfl
  | succ n ih => rw [zsu_s, zsu_s, ih, Nat.mul_add]
theorem zsu_zero (n : Nat) : zsu (fun _ => 0) n = 0 := by
  induction n with
  | zero => rfl
  | succ n ih => rw [zsu_s, ih]
theorem zsu_0 {f : Nat → Nat} (n : Nat) (h : ∀ i, i < n → f i = 0) : zsu f n = 0 := (zsu_congr n h).trans (zsu_zero n)
theorem zsu_comm (f : Nat → Nat → Nat) (n m : Nat) : zsu (fun i => zsu (f i) m) n = zsu (fun j => zsu (fun i => f i j) n) m := by
  induction n with
  | zero => exact (zsu_zero m).symm
  | succ n ih => rw [zsu_s, ih, ← zsu_add]; rfl
theorem zsu_one {f : Nat → Nat} (n k : Nat) (hk : k < n) (h : ∀ i, i < n → i ≠ k → f i = 0) : zsu f n = f k := by
  induction n with
  | zero => omega
  | succ n ih =>
    rw [zsu_s]
    by_cases e : k = n
    · subst e
      rw [zsu_0 k (fun i hi => h i (by omega) (by omega))]; omega
    · rw [ih (by omega) (fun i hi => h i (by omega)), h n (by omega) (Ne.symm e)]; omega
theorem zsu_le {f g : Nat → Nat} (n : Nat) (h : ∀ i, i < n → f i ≤ g i) : zsu f n ≤ zsu g n := by
  induction n with
  | zero => exact Nat.le_refl _
  | succ n ih => rw [zsu_s, zsu_s]; have := h n (by omega); have := ih (fun i hi => h i (by omega)); omega
theorem zsu_const (c n : Nat) : zsu (fun _ => c) n = n * c := by
  induction n with
  | zero => simp [zsu]
  | succ n ih => rw [zsu_s, ih, Nat.succ_mul]
theorem zsu_bound {f : Nat → Nat} (n c : Nat) (h : ∀ i, i < n → f i ≤ c) : zsu f n ≤ n * c := by
  rw [← zsu_const]; exact zsu_le n h
theorem zsu_pos {f : Nat → Nat} {n k : Nat} (hk : k < n) (h : 0 < f k) : 0 < zsu f n := by
  induction n with
  | zero => omega
  | succ n ih =>
    rw [zsu_s]
    by_cases e : k = n
    · subst e; omega
    · have := ih (by omega); omega
theorem zsu_ex {f : Nat → Nat} {n : Nat} (h : 0 < zsu f n) : ∃ k, k < n ∧ 0 < f k := by
  induction n with
  | zero => exact absurd h (by simp [zsu])
  | succ n ih =>
    rw [zsu_s] at h
    by_cases e : 0 < f n
    · exact ⟨n, by omega, e⟩
    · obtain ⟨k, h1, h2⟩ := ih (by omega); exact ⟨k, by omega, h2⟩
-- bits
theorem tb_or (S b k : Nat) : (S ||| 2 ^ b).testBit k = (S.testBit k || decide (b = k)) := by rw [Nat.testBit_or, Nat.testBit_two_pow]
theorem tb_xor (S b k : Nat) : (S ^^^ 2 ^ b).testBit k = (S.testBit k ^^ decide (b = k)) := by rw [Nat.testBit_xor, Nat.testBit_two_pow]
theorem nat_ext {x y : Nat} (h : ∀ i, x.testBit i = y.testBit i) : x = y := Nat.eq_of_testBit_eq h
theorem or_gt {S b : Nat} (h : S.testBit b = false) : S < S ||| 2 ^ b := by
  have h1 : S ≤ S ||| 2 ^ b := Nat.left_le_or
  have h2 : S ≠ S ||| 2 ^ b := by
    intro e
    have := tb_or S b b
    rw [← e, h] at this
    simp at this
  omega
theorem or_lt2 {S b n : Nat} (hS : S < 2 ^ n) (hb : b < n) : S ||| 2 ^ b < 2 ^ n := Nat.or_lt_two_pow hS (Nat.pow_lt_pow_right (by omega) hb)
theorem xor_or {S b : Nat} (h : S.testBit b = true) : (S ^^^ 2 ^ b) ||| 2 ^ b = S := by
  apply nat_ext; intro i
  rw [tb_or, tb_xor]
  by_cases e : b = i
  · subst e; simp [h]
  · simp [e]
theorem or_xor {S b : Nat} (h : S.testBit b = false) : (S ||| 2 ^ b) ^^^ 2 ^ b = S := by
  apply nat_ext; intro i
  rw [tb_xor, tb_or]
  by_cases e : b = i
  · subst e; simp [h]
  · simp [e]
theorem xor_lt {S b : Nat} (h : S.testBit b = true) : S ^^^ 2 ^ b < S := by
  have h1 : (S ^^^ 2 ^ b).testBit b = false := by rw [tb_xor, h]; simp
  have := or_gt h1
  rwa [xor_or h] at this
theorem tb_big {S n k : Nat} (hS : S < 2 ^ n) (hk : n ≤ k) : S.testBit k = false := Nat.testBit_lt_two_pow (Nat.lt_of_lt_of_le hS (Nat.pow_le_pow_right (by omega) hk))
theorem tb_full (n k : Nat) : (2 ^ n - 1).testBit k = decide (k < n) := Nat.testBit_two_pow_sub_one n k
theorem tb_lt {S n : Nat} (h : ∀ k, n ≤ k → S.testBit k = false) : S < 2 ^ n := Nat.lt_pow_two_of_testBit S h
theorem full_iff {S n : Nat} (hS : S < 2 ^ n) : S = 2 ^ n - 1 ↔ ∀ k, k < n → S.testBit k = true := by
  constructor
  · intro e k hk; rw [e, tb_full]; simp [hk]
  · intro h
    apply nat_ext; intro i
    rw [tb_full]
    by_cases e : i < n
    · rw [h i e]; simp [e]
    · rw [tb_big hS (by omega)]; simp [e]
/-- bits among 0 .. n-1 -/
def npc (S n : Nat) : Nat := zsu (fun r => if S.testBit r then 1 else 0) n
theorem npc_le (S n : Nat) : npc S n ≤ n := by
  have := zsu_bound (f := fun r => if S.testBit r then 1 else 0) n 1 (fun i _ => by split <;> omega)
  unfold npc; omega
theorem npc_or {S b : Nat} (n : Nat) (hb : b < n) (h : S.testBit b = false) : npc (S ||| 2 ^ b) n = npc S n + 1 := by
  unfold npc
  have e : ∀ r, (if (S ||| 2 ^ b).testBit r then 1 else 0) = (if S.testBit r then 1 else 0) + (if r = b then 1 else 0) := by
    intro r
    rw [tb_or]
    by_cases q : b = r
    · subst q; simp [h]
    · have q2 : ¬ r = b := fun e => q e.symm
      simp [q, q2]
  rw [zsu_congr n (fun r _ => e r), zsu_add, zsu_one (f := fun r => if r = b then 1 else 0) n b hb (fun i _ hi => by simp [hi])]
  simp
theorem npc_full (n : Nat) : npc (2 ^ n - 1) n = n := by
  unfold npc
  rw [zsu_congr (g := fun _ => 1) n (fun i hi => by rw [tb_full]; simp [hi]), zsu_const]; omega
-- tours from here on
/-- ways to go on: base at the ends, nx the steps -/
def tT (nx : Nat → Nat → Nat → Bool) (ba : Nat → Nat → Nat) (n : Nat) : Nat → Nat → Nat → Nat
  | 0, _, _ => 0
  | f + 1, S, a => ba S a + zsu (fun b => if nx S a b then tT nx ba n f (S ||| 2 ^ b) b else 0) n
/-- a step goes to a room that is new -/
def nxok (nx : Nat → Nat → Nat → Bool) (n : Nat) : Prop := ∀ S a b, nx S a b = true → b < n ∧ S.testBit b = false
theorem tT_fuel {nx : Nat → Nat → Nat → Bool} {ba : Nat → Nat → Nat} {n : Nat} (hn : nxok nx n) : ∀ (f g S a : Nat), S < 2 ^ n → 2 ^ n - S ≤ f → 2 ^ n - S ≤ g → tT nx ba n f S a = tT nx ba n g S a := by
  intro f
  induction f with
  | zero => intro g S a h1 h2; omega
  | succ f ih =>
    intro g S a h1 h2 h3
    cases g with
    | zero => omega
    | succ g =>
      unfold tT
      congr 1
      refine zsu_congr n (fun b hb => ?_)
      by_cases e : nx S a b = true
      · rw [if_pos e, if_pos e]
        obtain ⟨e1, e2⟩ := hn S a b e
        have := or_gt e2
        exact ih g _ b (or_lt2 h1 e1) (by omega) (by omega)
      · rw [if_neg e, if_neg e]
def nT (nx : Nat → Nat → Nat → Bool) (ba : Nat → Nat → Nat) (n S a : Nat) : Nat := tT nx ba n (2 ^ n - S) S a
theorem nT_eq {nx : Nat → Nat → Nat → Bool} {ba : Nat → Nat → Nat} {n : Nat} (hn : nxok nx n) {S : Nat} (hS : S < 2 ^ n) (a : Nat) : nT nx ba n S a = ba S a + zsu (fun b => if nx S a b then nT nx ba n (S ||| 2 ^ b) b else 0) n := by
  unfold nT
  obtain ⟨m, hm⟩ : ∃ m, 2 ^ n - S = m + 1 := ⟨2 ^ n - S - 1, by omega⟩
  rw [hm]
  rw [tT]
  congr 1
  refine zsu_congr n (fun b hb => ?_)
  by_cases e : nx S a b = true
  · rw [if_pos e, if_pos e]
    obtain ⟨e1, e2⟩ := hn S a b e
    have := or_gt e2
    exact tT_fuel hn _ _ _ _ (or_lt2 hS e1) (by omega) (by omega)
  · rw [if_neg e, if_neg e]
/-- what satisfies the equation is it -/
theorem nT_uniq {nx : Nat → Nat → Nat → Bool} {ba : Nat → Nat → Nat} {n : Nat} (hn : nxok nx n) {g : Nat → Nat → Nat} (hg : ∀ S a, S < 2 ^ n → a < n → g S a = ba S a + zsu (fun b => if nx S a b then g (S ||| 2 ^ b) b else 0) n) : ∀ S a, S < 2 ^ n → a < n → g S a = nT nx ba n S a := by
  have key : ∀ m S a, S < 2 ^ n → a < n → 2 ^ n - S ≤ m → g S a = nT nx ba n S a := by
    intro m
    induction m with
    | zero => intro S a h1 _ h2; omega
    | succ m ih =>
      intro S a h1 h2 h3
      rw [hg S a h1 h2, nT_eq hn h1]
      congr 1
      refine zsu_congr n (fun b hb => ?_)
      by_cases e : nx S a b = true
      · rw [if_pos e, if_pos e]
        obtain ⟨e1, e2⟩ := hn S a b e
        have := or_gt e2
        exact ih _ b (or_lt2 h1 e1) hb (by omega)
      · rw [if_neg e, if_neg e]
  intro S a h1 h2
  exact key _ S a h1 h2 (Nat.le_refl _)
/-- walks to here from (S0, a0) -/
def tW (nx : Nat → Nat → Nat → Bool) (n S0 a0 : Nat) : Nat → Nat → Nat → Nat
  | 0, _, _ => 0
  | f + 1, S, b => (if S = S0 ∧ b = a0 then 1 else 0) + if S.testBit b then zsu (fun a => if nx (S ^^^ 2 ^ b) a b then tW nx n S0 a0 f (S ^^^ 2 ^ b) a else 0) n else 0
theorem tW_fuel {nx : Nat → Nat → Nat → Bool} {n S0 a0 : Nat} : ∀ (f g S b : Nat), S < f → S < g → tW nx n S0 a0 f S b = tW nx n S0 a0 g S b := by
  intro f
  induction f with
  | zero => intro g S b h1; omega
  | succ f ih =>
    intro g S b h1 h2
    cases g with
    | zero => omega
    | succ g =>
      unfold tW
      congr 1
      by_cases q : S.testBit b = true
      · rw [if_pos q, if_pos q]
        have := xor_lt q
        refine zsu_congr n (fun a ha => ?_)
        rw [ih g _ a (by omega) (by omega)]
      · rw [if_neg q, if_neg q]
def nW (nx : Nat → Nat → Nat → Bool) (n S0 a0 S b : Nat) : Nat := tW nx n S0 a0 (S + 1) S b
theorem nW_eq {nx : Nat → Nat → Nat → Bool} {n S0 a0 : Nat} (S b : Nat) : nW nx n S0 a0 S b = (if S = S0 ∧ b = a0 then 1 else 0) + if S.testBit b then zsu (fun a => if nx (S ^^^ 2 ^ b) a b then nW nx n S0 a0 (S ^^^ 2 ^ b) a else 0) n else 0 := by
  unfold nW
  rw [tW]
  congr 1
  by_cases q : S.testBit b = true
  · rw [if_pos q, if_pos q]
    have := xor_lt q
    refine zsu_congr n (fun a ha => ?_)
    rw [tW_fuel S ((S ^^^ 2 ^ b) + 1) _ a (by omega) (by omega)]
  · rw [if_neg q, if_neg q]
theorem nW_bit {nx : Nat → Nat → Nat → Bool} {n S0 a0 : Nat} (h0 : S0.testBit a0 = true) {S b : Nat} (h : 0 < nW nx n S0 a0 S b) : S.testBit b = true := by
  rw [nW_eq] at h
  by_cases q : S.testBit b = true
  · exact q
  · rw [if_neg q] at h
    split at h
    · rename_i e; rw [e.1, e.2]; exact h0
    · omega
/-- nothing below S0 -/
theorem nW_low {nx : Nat → Nat → Nat → Bool} {n S0 a0 : Nat} : ∀ (S b : Nat), S < S0 → nW nx n S0 a0 S b = 0 := by
  intro S
  induction S using Nat.strongRecOn with
  | _ S ih =>
    intro b h
    rw [nW_eq, if_neg (by omega)]
    by_cases q : S.testBit b = true
    · rw [if_pos q, zsu_0 n (fun a ha => ?_)]
      have := xor_lt q
      rw [ih _ this a (by omega)]
      split <;> rfl
    · rw [if_neg q]
theorem nW_start {nx : Nat → Nat → Nat → Bool} {n S0 a0 : Nat} (b : Nat) : nW nx n S0 a0 S0 b = if b = a0 then 1 else 0 := by
  rw [nW_eq]
  by_cases q : S0.testBit b = true
  · rw [if_pos q, zsu_0 n (fun a ha => ?_)]
    · simp
    · rw [nW_low _ _ (xor_lt q)]; split <;> rfl
  · rw [if_neg q]; simp
/-- all of S0 stays -/
theorem nW_sub {nx : Nat → Nat → Nat → Bool} {n S0 a0 : Nat} : ∀ (S b : Nat), 0 < nW nx n S0 a0 S b → ∀ k, S0.testBit k = true → S.testBit k = true := by
  intro S
  induction S using Nat.strongRecOn with
  | _ S ih =>
    intro b h k hk
    rw [nW_eq] at h
    by_cases e : S = S0 ∧ b = a0
    · rw [e.1]; exact hk
    · rw [if_neg e] at h
      by_cases q : S.testBit b = true
      · rw [if_pos q, Nat.zero_add] at h
        obtain ⟨a, h1, h2⟩ := zsu_ex h
        split at h2
        · have h3 := ih _ (xor_lt q) a h2 k hk
          rw [tb_xor] at h3
          by_cases e2 : b = k
          · rw [← e2]; exact q
          · simpa [e2] using h3
        · omega
      · rw [if_neg q] at h; omega
theorem nT_bound {nx : Nat → Nat → Nat → Bool} {ba : Nat → Nat → Nat} {n : Nat} (hn : nxok nx n) (hb : ∀ S a, ba S a ≤ 1) (hb2 : ∀ S a, S < 2 ^ n → S ≠ 2 ^ n - 1 → ba S a = 0) : ∀ m S a, S < 2 ^ n → 2 ^ n - S ≤ m → nT nx ba n S a ≤ n ^ (n - npc S n) := by
  intro m
  induction m with
  | zero => intro S a h1 h2; omega
  | succ m ih =>
    intro S a h1 h2
    rw [nT_eq hn h1]
    by_cases e : S = 2 ^ n - 1
    · rw [zsu_0 n (fun b hb => ?_)]
      · have := hb S a
        have h3 : 0 < n ^ (n - npc S n) := by
          rw [e, npc_full, Nat.sub_self, Nat.pow_zero]; omega
        omega
      · by_cases q : nx S a b = true
        · obtain ⟨e1, e2⟩ := hn S a b q
          rw [e, tb_full] at e2
          simp [e1] at e2
        · rw [if_neg q]
    · rw [hb2 S a h1 e, Nat.zero_add]
      by_cases q : ∃ b, nx S a b = true
      · obtain ⟨b0, q⟩ := q
        obtain ⟨e1, e2⟩ := hn S a b0 q
        have h5 := npc_or n e1 e2
        have h6 := npc_le (S ||| 2 ^ b0) n
        have h7 : n - npc S n = (n - npc S n - 1) + 1 := by omega
        rw [h7, Nat.pow_succ, Nat.mul_comm]
        refine zsu_bound n _ (fun b hb => ?_)
        by_cases q2 : nx S a b = true
        · rw [if_pos q2]
          obtain ⟨e3, e4⟩ := hn S a b q2
          have h8 := or_gt e4
          have h9 := ih (S ||| 2 ^ b) b (or_lt2 h1 e3) (by omega)
          rwa [npc_or n e3 e4, show n - (npc S n + 1) = n - npc S n - 1 by omega] at h9
        · rw [if_neg q2]; omega
      · rw [zsu_0 n (fun b hb => if_neg (fun q2 => q ⟨b, q2⟩))]; omega
theorem nW_bound {nx : Nat → Nat → Nat → Bool} {n S0 a0 : Nat} (hn : nxok nx n) : ∀ (S b : Nat), b < n → nW nx n S0 a0 S b ≤ (n + 1) ^ npc S n := by
  intro S
  induction S using Nat.strongRecOn with
  | _ S ih =>
    intro b hb
    rw [nW_eq]
    have h0 : 0 < (n + 1) ^ npc S n := Nat.pow_pos (by omega)
    by_cases q : S.testBit b = true
    · rw [if_pos q]
      have h1 : (S ^^^ 2 ^ b).testBit b = false := by rw [tb_xor, q]; simp
      have h2 := npc_or n hb h1
      rw [xor_or q] at h2
      have h3 : zsu (fun a => if nx (S ^^^ 2 ^ b) a b then nW nx n S0 a0 (S ^^^ 2 ^ b) a else 0) n ≤ n * (n + 1) ^ npc (S ^^^ 2 ^ b) n := zsu_bound n _ (fun a ha => by
        split
        · exact ih _ (xor_lt q) a ha
        · omega)
      rw [h2, Nat.pow_succ, Nat.mul_comm, Nat.add_mul]
      have h4 : 0 < (n + 1) ^ npc (S ^^^ 2 ^ b) n := Nat.pow_pos (by omega)
      split <;> omega
    · rw [if_neg q]
      split <;> omega
/-- every walk goes on to its ends: counted forwards is counted backwards -/
def fI (S0 a0 S b : Nat) : Nat := if S = S0 ∧ b = a0 then 1 else 0
def fP (nx : Nat → Nat → Nat → Bool) (n S0 a0 S b : Nat) : Nat := zsu (fun a => if nx (S ^^^ 2 ^ b) a b then nW nx n S0 a0 (S ^^^ 2 ^ b) a else 0) n
def fcu (nx : Nat → Nat → Nat → Bool) (n S0 a0 s S b : Nat) : Nat := if s ≤ S then fI S0 a0 S b + (if S.testBit b = true ∧ S ^^^ 2 ^ b < s then fP nx n S0 a0 S b else 0) else 0
theorem fcu_lo {nx : Nat → Nat → Nat → Bool} {n S0 a0 s S b : Nat} (h : S < s) : fcu nx n S0 a0 s S b = 0 := if_neg (by omega)
theorem fcu_in {nx : Nat → Nat → Nat → Bool} {n S0 a0 s S b : Nat} (h : s ≤ S) (t : S.testBit b = true) (w : S ^^^ 2 ^ b < s) : fcu nx n S0 a0 s S b = fI S0 a0 S b + fP nx n S0 a0 S b := by
  unfold fcu; rw [if_pos h, if_pos ⟨t, w⟩]
theorem fcu_no {nx : Nat → Nat → Nat → Bool} {n S0 a0 s S b : Nat} (h : s ≤ S) (t : ¬ (S.testBit b = true ∧ S ^^^ 2 ^ b < s)) : fcu nx n S0 a0 s S b = fI S0 a0 S b := by
  unfold fcu; rw [if_pos h, if_neg t, Nat.add_zero]
theorem nW_f {nx : Nat → Nat → Nat → Bool} {n S0 a0 : Nat} (S b : Nat) : nW nx n S0 a0 S b = fI S0 a0 S b + if S.testBit b = true then fP nx n S0 a0 S b else 0 := nW_eq S b
theorem flow_step {nx : Nat → Nat → Nat → Bool} {ba : Nat → Nat → Nat} {n S0 a0 : Nat} (hn : nxok nx n) {s : Nat} (hs : s < 2 ^ n) :
    zsu (fun S => zsu (fun b => fcu nx n S0 a0 s S b * nT nx ba n S b) n) (2 ^ n) = zsu (fun a => nW nx n S0 a0 s a * ba s a) n + zsu (fun S => zsu (fun b => fcu nx n S0 a0 (s + 1) S b * nT nx ba n S b) n) (2 ^ n) := by
  have pt : ∀ S b, fcu nx n S0 a0 s S b * nT nx ba n S b + (if S.testBit b = true ∧ S ^^^ 2 ^ b = s then zsu (fun a => if nx s a b then nW nx n S0 a0 s a else 0) n * nT nx ba n S b else 0)
      = fcu nx n S0 a0 (s + 1) S b * nT nx ba n S b + (if S = s then nW nx n S0 a0 s b * nT nx ba n s b else 0) := by
    intro S b
    rcases Nat.lt_trichotomy S s with q | q | q
    · have c : ¬ (S.testBit b = true ∧ S ^^^ 2 ^ b = s) := fun e => by have := xor_lt e.1; omega
      rw [fcu_lo q, fcu_lo (show S < s + 1 by omega), if_neg c, if_neg (show ¬ S = s by omega)]
    · subst q
      have c : ¬ (S.testBit b = true ∧ S ^^^ 2 ^ b = S) := fun e => by have := xor_lt e.1; omega
      rw [fcu_lo (show S < S + 1 by omega), if_neg c, if_pos rfl, nW_f S b]
      by_cases t : S.testBit b = true
      · rw [fcu_in (Nat.le_refl _) t (xor_lt t), if_pos t, Nat.zero_mul, Nat.zero_add, Nat.add_zero]
      · rw [fcu_no (Nat.le_refl _) (fun e => t e.1), if_neg t, Nat.zero_mul, Nat.zero_add, Nat.add_zero, Nat.add_zero]
    · rw [if_neg (show ¬ S = s by omega), Nat.add_zero]
      by_cases t : S.testBit b = true
      · rcases Nat.lt_trichotomy (S ^^^ 2 ^ b) s with w | w | w
        · rw [fcu_in (show s ≤ S by omega) t w, fcu_in (show s + 1 ≤ S by omega) t (by omega), if_neg (show ¬ (S.testBit b = true ∧ S ^^^ 2 ^ b = s) from fun e => by omega), Nat.add_zero]
        · rw [fcu_no (show s ≤ S by omega) (fun e => by omega), fcu_in (show s + 1 ≤ S by omega) t (by omega), if_pos ⟨t, w⟩, Nat.add_mul]
          unfold fP
          rw [w]
        · rw [fcu_no (show s ≤ S by omega) (fun e => by omega), fcu_no (show s + 1 ≤ S by omega) (fun e => by omega), if_neg (show ¬ (S.testBit b = true ∧ S ^^^ 2 ^ b = s) from fun e => by omega), Nat.add_zero]
      · rw [fcu_no (show s ≤ S by omega) (fun e => t e.1), fcu_no (show s + 1 ≤ S by omega) (fun e => t e.1), if_neg (show ¬ (S.testBit b = true ∧ S ^^^ 2 ^ b = s) from fun e => t e.1), Nat.add_zero]
  have sum : zsu (fun S => zsu (fun b => fcu nx n S0 a0 s S b * nT nx ba n S b) n) (2 ^ n) + zsu (fun S => zsu (fun b => if S.testBit b = true ∧ S ^^^ 2 ^ b = s then zsu (fun a => if nx s a b then nW nx n S0 a0 s a else 0) n * nT nx ba n S b else 0) n) (2 ^ n)
      = zsu (fun S => zsu (fun b => fcu nx n S0 a0 (s + 1) S b * nT nx ba n S b) n) (2 ^ n) + zsu (fun S => zsu (fun b => if S = s then nW nx n S0 a0 s b * nT nx ba n s b else 0) n) (2 ^ n) := by
    rw [← zsu_add, ← zsu_add]
    refine zsu_congr _ (fun S hS => ?_)
    rw [← zsu_add, ← zsu_add]
    exact zsu_congr _ (fun b hb => pt S b)
  have r1 : zsu (fun S => zsu (fun b => if S = s then nW nx n S0 a0 s b * nT nx ba n s b else 0) n) (2 ^ n) = zsu (fun b => nW nx n S0 a0 s b * nT nx ba n s b) n := by
    rw [zsu_one (2 ^ n) s hs (fun i hi hne => zsu_0 n (fun b hb => if_neg hne))]
    exact zsu_congr n (fun b hb => if_pos rfl)
  have r2 : zsu (fun S => zsu (fun b => if S.testBit b = true ∧ S ^^^ 2 ^ b = s then zsu (fun a => if nx s a b then nW nx n S0 a0 s a else 0) n * nT nx ba n S b else 0) n) (2 ^ n) = zsu (fun b => zsu (fun a => if nx s a b then nW nx n S0 a0 s a else 0) n * nT nx ba n (s ||| 2 ^ b) b) n := by
    rw [zsu_comm]
    refine zsu_congr n (fun b hb => ?_)
    by_cases t : s.testBit b = true
    · rw [zsu_0 (n := 2 ^ n) (fun S hS => if_neg (fun e => by
        have h1 : (S ^^^ 2 ^ b).testBit b = false := by rw [tb_xor, e.1]; simp
        rw [e.2, t] at h1; cases h1))]
      rw [zsu_0 n (fun a ha => if_neg (fun e => by
        have := (hn s a b e).2
        rw [t] at this; cases this)), Nat.zero_mul]
    · have t : s.testBit b = false := by simpa using t
      rw [zsu_one (2 ^ n) (s ||| 2 ^ b) (or_lt2 hs hb) (fun S hS hne => if_neg (fun e => hne (by rw [← e.2, xor_or e.1])))]
      rw [if_pos ⟨by rw [tb_or]; simp, or_xor t⟩]
  have r3 : zsu (fun b => nW nx n S0 a0 s b * nT nx ba n s b) n = zsu (fun a => nW nx n S0 a0 s a * ba s a) n + zsu (fun b => zsu (fun a => if nx s a b then nW nx n S0 a0 s a else 0) n * nT nx ba n (s ||| 2 ^ b) b) n := by
    have e1 : ∀ a, nW nx n S0 a0 s a * nT nx ba n s a = nW nx n S0 a0 s a * ba s a + zsu (fun b => if nx s a b then nW nx n S0 a0 s a * nT nx ba n (s ||| 2 ^ b) b else 0) n := by
      intro a
      rw [nT_eq hn hs a, Nat.mul_add, ← zsu_mul]
      congr 1
      refine zsu_congr n (fun b hb => ?_)
      split <;> simp
    rw [zsu_congr n (fun a _ => e1 a), zsu_add, zsu_comm]
    congr 1
    refine zsu_congr n (fun b hb => ?_)
    rw [Nat.mul_comm, ← zsu_mul]
    refine zsu_congr n (fun a ha => ?_)
    split
    · rw [Nat.mul_comm]
    · simp
  rw [r1, r2, r3] at sum
  omega
theorem flow {nx : Nat → Nat → Nat → Bool} {ba : Nat → Nat → Nat} {n S0 a0 : Nat} (hn : nxok nx n) (hS : S0 < 2 ^ n) (ha : a0 < n) : zsu (fun S => zsu (fun a => nW nx n S0 a0 S a * ba S a) n) (2 ^ n) = nT nx ba n S0 a0 := by
  have key : ∀ s, s ≤ 2 ^ n → zsu (fun S => zsu (fun a => nW nx n S0 a0 S a * ba S a) n) s + zsu (fun S => zsu (fun b => fcu nx n S0 a0 s S b * nT nx ba n S b) n) (2 ^ n) = nT nx ba n S0 a0 := by
    intro s
    induction s with
    | zero =>
      intro _
      have e : ∀ S b, fcu nx n S0 a0 0 S b * nT nx ba n S b = if S = S0 ∧ b = a0 then nT nx ba n S0 a0 else 0 := by
        intro S b
        rw [fcu_no (Nat.zero_le _) (fun e => by omega)]
        unfold fI
        by_cases q : S = S0 ∧ b = a0
        · rw [if_pos q, if_pos q, q.1, q.2, Nat.one_mul]
        · rw [if_neg q, if_neg q, Nat.zero_mul]
      show 0 + _ = _
      rw [Nat.zero_add, zsu_congr _ (fun S _ => zsu_congr n (fun b _ => e S b)), zsu_one (2 ^ n) S0 hS (fun S _ hne => zsu_0 n (fun b _ => if_neg (fun q => hne q.1))), zsu_one n a0 ha (fun b _ hne => if_neg (fun q => hne q.2)), if_pos ⟨rfl, rfl⟩]
    | succ s ih =>
      intro hs
      have h1 := ih (by omega)
      have h2 := flow_step (ba := ba) (S0 := S0) (a0 := a0) hn (s := s) (by omega)
      rw [zsu_s]
      omega
  have h := key (2 ^ n) (Nat.le_refl _)
  rw [zsu_0 (n := 2 ^ n) (f := fun S => zsu (fun b => fcu nx n S0 a0 (2 ^ n) S b * nT nx ba n S b) n) (fun S hS => zsu_0 n (fun b _ => by
    rw [fcu_lo hS, Nat.zero_mul])), Nat.add_zero] at h
  exact h
end ZSUM

