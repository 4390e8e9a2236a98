/-! THE TEXT: tokens, and what a text says, as functions of its bytes alone. -/
section ZPA
/-- bytes as numbers -/
def bv (xs : List Int32) (i : Nat) : Nat := (xs.getD i 0).toNatClampNeg
theorem BY.at {xs : List Int32} (hb : BY xs) {i : Nat} (hi : i < xs.length) : xs.getD i 0 = nI (bv xs i) ∧ bv xs i < 256 := by
  obtain ⟨k, hk, e⟩ := hb i hi
  unfold bv
  rw [e, nI_clamp (by omega)]
  exact ⟨rfl, hk⟩
/-- kinds of bytes: 1 letters, 2 digits, 3 others, 4 blanks -/
def btk (k : Nat) : Nat := if k = 32 ∨ k = 10 then 4 else if 97 ≤ k ∧ k ≤ 122 then 1 else if 48 ≤ k ∧ k ≤ 57 then 2 else 3
def ty (xs : List Int32) (i : Nat) : Nat := if i < xs.length then btk (bv xs i) else 0
theorem btk_le (k : Nat) : 1 ≤ btk k ∧ btk k ≤ 4 := by
  unfold btk
  split
  · omega
  · split
    · omega
    · split <;> omega
theorem ty_le (xs : List Int32) (i : Nat) : ty xs i ≤ 4 := by
  unfold ty
  split
  · exact (btk_le _).2
  · omega
theorem ty_0 {xs : List Int32} {i : Nat} : ty xs i = 0 ↔ xs.length ≤ i := by
  unfold ty
  by_cases h : i < xs.length
  · rw [if_pos h]
    have := (btk_le (bv xs i)).1
    omega
  · rw [if_neg h]; omega
theorem ty_in {xs : List Int32} {i : Nat} (h : ty xs i ≠ 0) : i < xs.length := by
  have := ty_0 (xs := xs) (i := i)
  omega
theorem ty_1 {xs : List Int32} {i : Nat} (h : ty xs i = 1) : 97 ≤ bv xs i ∧ bv xs i ≤ 122 := by
  have hi := ty_in (show ty xs i ≠ 0 by omega)
  unfold ty at h
  rw [if_pos hi] at h
  unfold btk at h
  split at h
  · omega
  · split at h
    · assumption
    · split at h <;> omega
theorem ty_2 {xs : List Int32} {i : Nat} (h : ty xs i = 2) : 48 ≤ bv xs i ∧ bv xs i ≤ 57 := by
  have hi := ty_in (show ty xs i ≠ 0 by omega)
  unfold ty at h
  rw [if_pos hi] at h
  unfold btk at h
  split at h
  · omega
  · split at h
    · omega
    · split at h
      · assumption
      · omega
/-- blanks skipped -/
def sk (xs : List Int32) : Nat → Nat → Nat
  | 0, p => p
  | f + 1, p => if ty xs p = 4 then sk xs f (p + 1) else p
/-- the end of a run of bytes of a kind -/
def te (xs : List Int32) (t : Nat) : Nat → Nat → Nat
  | 0, p => p
  | f + 1, p => if ty xs p = t then te xs t f (p + 1) else p
def skp (xs : List Int32) (p : Nat) : Nat := sk xs (xs.length - p) p
theorem skp_4 {xs : List Int32} {p : Nat} (h : ty xs p = 4) : skp xs p = skp xs (p + 1) := by
  have hi := ty_in (show ty xs p ≠ 0 by omega)
  unfold skp
  rw [show xs.length - p = xs.length - (p + 1) + 1 by omega, sk, if_pos h]
theorem skp_n {xs : List Int32} {p : Nat} (h : ty xs p ≠ 4) : skp xs p = p := by
  unfold skp
  cases e : xs.length - p with
  | zero => rfl
  | succ f => rw [sk, if_neg h]
theorem sk_le (xs : List Int32) : ∀ f p, p ≤ sk xs f p ∧ sk xs f p ≤ p + f := by
  intro f
  induction f with
  | zero => intro p; exact ⟨Nat.le_refl _, Nat.le_refl _⟩
  | succ f ih =>
    intro p
    rw [sk]
    split
    · have := ih (p + 1); omega
    · omega
theorem skp_le (xs : List Int32) (p : Nat) : p ≤ skp xs p := (sk_le xs _ p).1
theorem skp_hi {xs : List Int32} {p : Nat} (h : p ≤ xs.length) : skp xs p ≤ xs.length := by
  have := (sk_le xs (xs.length - p) p).2
  unfold skp; omega
theorem skp_ty (xs : List Int32) : ∀ d p, xs.length - p = d → ty xs (skp xs p) ≠ 4 := by
  intro d
  induction d with
  | zero =>
    intro p hp
    have : ty xs p = 0 := ty_0.mpr (by omega)
    rw [skp_n (by omega)]; omega
  | succ d ih =>
    intro p hp
    by_cases h : ty xs p = 4
    · rw [skp_4 h]; exact ih (p + 1) (by omega)
    · rw [skp_n h]; exact h
def tep (xs : List Int32) (t p : Nat) : Nat := te xs t (xs.length - p) p
theorem tep_t {xs : List Int32} {t p : Nat} (ht : t ≠ 0) (h : ty xs p = t) : tep xs t p = tep xs t (p + 1) := by
  have hi := ty_in (show ty xs p ≠ 0 by omega)
  unfold tep
  rw [show xs.length - p = xs.length - (p + 1) + 1 by omega, te, if_pos h]
theorem tep_n {xs : List Int32} {t p : Nat} (h : ty xs p ≠ t) : tep xs t p = p := by
  unfold tep
  cases e : xs.length - p with
  | zero => rfl
  | succ f => rw [te, if_neg h]
theorem te_le (xs : List Int32) (t : Nat) : ∀ f p, p ≤ te xs t f p ∧ te xs t f p ≤ p + f ∧ ∀ i, p ≤ i → i < te xs t f p → ty xs i = t := by
  intro f
  induction f with
  | zero => intro p; exact ⟨Nat.le_refl _, Nat.le_refl _, fun i h1 h2 => by rw [te] at h2; omega⟩
  | succ f ih =>
    intro p
    rw [te]
    split
    · rename_i h
      obtain ⟨i1, i2, i3⟩ := ih (p + 1)
      refine ⟨by omega, by omega, fun i h1 h2 => ?_⟩
      by_cases e : i = p
      · rw [e]; exact h
      · exact i3 i (by omega) h2
    · exact ⟨Nat.le_refl _, by omega, fun i h1 h2 => by omega⟩
theorem tep_le (xs : List Int32) (t p : Nat) : p ≤ tep xs t p ∧ ∀ i, p ≤ i → i < tep xs t p → ty xs i = t := ⟨(te_le xs t _ p).1, (te_le xs t _ p).2.2⟩
theorem tep_hi {xs : List Int32} {t p : Nat} (h : p ≤ xs.length) : tep xs t p ≤ xs.length := by
  have := (te_le xs t (xs.length - p) p).2.1
  unfold tep; omega
/-- the end of the token at s -/
def tkE (xs : List Int32) (s : Nat) : Nat := if ty xs s = 0 then s else if ty xs s = 3 then s + 1 else tep xs (ty xs s) s
/-- the next token -/
def nxt (xs : List Int32) (s : Nat) : Nat := skp xs (tkE xs s)
theorem tkE_le (xs : List Int32) (s : Nat) : s ≤ tkE xs s ∧ (ty xs s ≠ 0 → s < tkE xs s) := by
  unfold tkE
  by_cases h : ty xs s = 0
  · rw [if_pos h]; exact ⟨Nat.le_refl _, fun x => absurd h x⟩
  · rw [if_neg h]
    by_cases h3 : ty xs s = 3
    · rw [if_pos h3]; omega
    · rw [if_neg h3, tep_t h rfl]
      have := (tep_le xs (ty xs s) (s + 1)).1
      omega
theorem tkE_hi {xs : List Int32} {s : Nat} (h : s ≤ xs.length) : tkE xs s ≤ xs.length := by
  unfold tkE
  by_cases h0 : ty xs s = 0
  · rw [if_pos h0]; exact h
  · rw [if_neg h0]
    have := ty_in h0
    by_cases h3 : ty xs s = 3
    · rw [if_pos h3]; omega
    · rw [if_neg h3]; exact tep_hi h
theorem nxt_le (xs : List Int32) (s : Nat) : s ≤ nxt xs s ∧ (ty xs s ≠ 0 → s < nxt xs s) := by
  have := tkE_le xs s
  have := skp_le xs (tkE xs s)
  unfold nxt
  omega
theorem nxt_hi {xs : List Int32} {s : Nat} (h : s ≤ xs.length) : nxt xs s ≤ xs.length := skp_hi (tkE_hi h)
theorem nxt_ty (xs : List Int32) (s : Nat) : ty xs (nxt xs s) ≠ 4 := skp_ty xs _ _ rfl
/-- a number's value, up to a cap -/
def vb (C : Nat) (xs : List Int32) (s : Nat) : Nat → Nat
  | 0 => 0
  | k + 1 => Nat.min C (10 * vb C xs s k + (bv xs (s + k) - 48))
theorem vb_le (C : Nat) (xs : List Int32) (s k : Nat) : vb C xs s k ≤ C := by
  cases k with
  | zero => exact Nat.zero_le _
  | succ k => exact Nat.min_le_left _ _
theorem vb_cap (xs : List Int32) (s : Nat) : ∀ k, vb 1000 xs s k = Nat.min 1000 (vb 9999 xs s k) := by
  intro k
  induction k with
  | zero => rfl
  | succ k ih =>
    rw [vb, vb, ih]
    show min 1000 (10 * min 1000 (vb 9999 xs s k) + (bv xs (s + k) - 48)) = min 1000 (min 9999 (10 * vb 9999 xs s k + (bv xs (s + k) - 48)))
    omega
theorem vb_g (xs : List Int32) (s k : Nat) {g : Nat} (hg : g ≤ 999) : (vb 1000 xs s k ≤ g ↔ vb 9999 xs s k ≤ g) ∧ (vb 1000 xs s k ≤ g → vb 1000 xs s k = vb 9999 xs s k) := by
  have := vb_cap xs s k
  have e : Nat.min 1000 (vb 9999 xs s k) = min 1000 (vb 9999 xs s k) := rfl
  rw [e] at this
  omega
def tkL (xs : List Int32) (s : Nat) : Nat := tkE xs s - s
/-- a word's code -/
def wcd (xs : List Int32) (s : Nat) : Nat := nmd xs s (tkL xs s)
def isW (xs : List Int32) (s K : Nat) : Bool := decide (ty xs s = 1) && (decide (tkL xs s ≤ 6) && decide (wcd xs s = K))
def isS (xs : List Int32) (s c : Nat) : Bool := decide (ty xs s = 3) && decide (bv xs s = c)
/-- room, key, coins, door, toll, oneway, start, end -/
def kwd (c : Nat) : Bool := decide (c = 365647) || decide (c = 8179) || decide (c = 1896526) || decide (c = 90090) || decide (c = 404931) || decide (c = 222789013) || decide (c = 10492274) || decide (c = 4027)
def isN (xs : List Int32) (s : Nat) : Bool := decide (ty xs s = 1) && (decide (tkL xs s ≤ 6) && !kwd (wcd xs s))
theorem LT_tk {xs : List Int32} (hb : BY xs) {s : Nat} (h : ty xs s = 1) : LT xs s (tkL xs s) := by
  intro i hi
  unfold tkL tkE at hi
  rw [if_neg (by omega), if_neg (by omega)] at hi
  have t := (tep_le xs (ty xs s) s).2 (s + i) (by omega) (by omega)
  rw [h] at t
  have r := ty_1 t
  exact ⟨bv xs (s + i), r.1, r.2, (hb.at (ty_in (by omega))).1⟩
/-- results: an error with its place, or more -/
abbrev PR (A : Type) : Type := (Nat × Nat) ⊕ A
def pb {A B : Type} (u : PR A) (f : A → PR B) : PR B := match u with
  | .inl e => .inl e
  | .inr a => f a
def pTold (xs : List Int32) (N : zLv) (s : Nat) : PR Nat := if isN xs s = true then (match nRn N (wcd xs s) with
    | some r => .inr r
    | none => .inl (4, s)) else .inl (1, s)
def pFits (xs : List Int32) (g s : Nat) : PR Nat := if ty xs s = 2 then (if vb 1000 xs s (tkL xs s) ≤ g then .inr (vb 1000 xs s (tkL xs s)) else .inl (2, s)) else .inl (1, s)
def pSemi (xs : List Int32) (s : Nat) : PR Nat := if isS xs s 59 = true then .inr (nxt xs s) else .inl (1, s)
/-- keys told, behind the word key or a comma at s -/
def pKeys (xs : List Int32) : Nat → Nat → Nat → PR (Nat × Nat)
  | 0, _, s => .inl (0, s)
  | f + 1, ks, s => pb (pFits xs 7 (nxt xs s)) fun v => if ks.testBit v = true then .inl (3, nxt xs s) else
      if isS xs (nxt xs (nxt xs s)) 44 = true then pKeys xs f (ks ||| 2 ^ v) (nxt xs (nxt xs s)) else .inr (ks ||| 2 ^ v, nxt xs (nxt xs s))
def pKeyO (xs : List Int32) (s : Nat) : PR (Nat × Nat) := if isW xs s 8179 = true then pKeys xs 9 0 s else .inr (0, s)
def pCoin (xs : List Int32) (s : Nat) : PR (Nat × Nat) := if isW xs s 1896526 = true then pb (pFits xs 99 (nxt xs s)) (fun v => .inr (v, nxt xs (nxt xs s))) else .inr (0, s)
/-- a room more, with all that lies in it -/
def nRa (N : zLv) (c ks cs : Nat) : zLv := zput (zput (zput (zput N 0 (N 0 + 1)) (16 + 3 * N 0) ks) (17 + 3 * N 0) cs) (18 + 3 * N 0) c
def pRoom (xs : List Int32) (N : zLv) (s : Nat) : PR (zLv × Nat) := if 11 ≤ N 0 then .inl (5, s) else
  if isN xs (nxt xs s) = true then
    (if (nRn N (wcd xs (nxt xs s))).isSome = true then .inl (3, nxt xs s) else
      pb (pKeyO xs (nxt xs (nxt xs s))) fun k => pb (pCoin xs k.2) fun c => pb (pSemi xs c.2) fun w => .inr (nRa N (wcd xs (nxt xs s)) k.1 c.1, w))
  else .inl (1, nxt xs s)
def pDoor2 (xs : List Int32) (N : zLv) (f g k v w : Nat) : PR (zLv × Nat) :=
  pb (pSemi xs (if isW xs w 222789013 = true then nxt xs w else w)) fun y => .inr (nAo N f g k v (if isW xs w 222789013 = true then 1 else 0), y)
def pDoor1 (xs : List Int32) (N : zLv) (f g v : Nat) : PR (zLv × Nat) :=
  if isW xs v 8179 = true then pb (pFits xs 7 (nxt xs v)) (fun k => pDoor2 xs N f g 1 k (nxt xs (nxt xs v)))
  else if isW xs v 404931 = true then pb (pFits xs 999 (nxt xs v)) (fun k => pDoor2 xs N f g 2 k (nxt xs (nxt xs v)))
  else pDoor2 xs N f g 0 0 v
def pDoor (xs : List Int32) (N : zLv) (s : Nat) : PR (zLv × Nat) := if 20 ≤ N 1 then .inl (5, s) else
  pb (pTold xs N (nxt xs s)) fun f => pb (pTold xs N (nxt xs (nxt xs s))) fun g => if g = f then .inl (3, nxt xs (nxt xs s)) else pDoor1 xs N f g (nxt xs (nxt xs (nxt xs s)))
def pStart (xs : List Int32) (N : zLv) (fl : Bool) (s : Nat) : PR (zLv × Nat) := if fl = true then .inl (5, s) else
  pb (pTold xs N (nxt xs s)) fun r => pb (pSemi xs (nxt xs (nxt xs s))) fun y => .inr (zput N 2 r, y)
def pEnd (xs : List Int32) (N : zLv) (s : Nat) : PR (zLv × Nat) := if N 3 ≠ 0 then .inl (5, s) else
  pb (pTold xs N (nxt xs s)) fun r => pb (pSemi xs (nxt xs (nxt xs s))) fun y => .inr (zput N 3 (r + 1), y)
def pStmt (xs : List Int32) (N : zLv) (fl : Bool) (s : Nat) : PR ((zLv × Bool) × Nat) :=
  if isW xs s 365647 = true then pb (pRoom xs N s) (fun u => .inr ((u.1, fl), u.2))
  else if isW xs s 90090 = true then pb (pDoor xs N s) (fun u => .inr ((u.1, fl), u.2))
  else if isW xs s 10492274 = true then pb (pStart xs N fl s) (fun u => .inr ((u.1, true), u.2))
  else if isW xs s 4027 = true then pb (pEnd xs N s) (fun u => .inr ((u.1, fl), u.2))
  else .inl (1, s)
def pAll (xs : List Int32) : Nat → zLv → Bool → Nat → PR zLv
  | 0, N, _, _ => .inr N
  | f + 1, N, fl, s => pb (pStmt xs N fl s) fun u => if ty xs u.2 = 0 then .inr u.1.1 else pAll xs f u.1.1 u.1.2 u.2
-- a level under way
def PI (N : zLv) : Prop := N 0 ≤ 11 ∧ N 1 ≤ 20 ∧ N 4 = 1 ∧ (∀ r, r < N 0 → N (16 + 3 * r) < 256 ∧ N (17 + 3 * r) ≤ 99) ∧ (∀ d, d < N 1 → N (49 + 5 * d) < N 0 ∧ N (50 + 5 * d) < N 0 ∧ N (49 + 5 * d) ≠ N (50 + 5 * d) ∧ N (51 + 5 * d) ≤ 2 ∧ N (52 + 5 * d) ≤ 999 ∧ (N (51 + 5 * d) = 1 → N (52 + 5 * d) < 8) ∧ N (53 + 5 * d) ≤ 1) ∧ (N 2 = 0 ∨ N 2 < N 0) ∧ N 3 ≤ N 0 ∧ ∀ r, r < N 0 → N (18 + 3 * r) < 27 ^ 6
/-- the walk begins at the start -/
def fW (N : zLv) : zLv := zput N 5 (N 2)
theorem fW_ne {N : zLv} {i : Nat} (h : i ≠ 5) : fW N i = N i := zput_ne _ _ h
theorem fW_5 {N : zLv} : fW N 5 = N 2 := zput_self ..
theorem WF_fW {N : zLv} (h : PI N) (h1 : 1 ≤ N 0) : WF (fW N) := by
  obtain ⟨a0, a1, a4, ar, ad, a2, a3, an⟩ := h
  have e : ∀ i, i ≠ 5 → fW N i = N i := fun i hi => fW_ne hi
  have h2 : N 2 < N 0 := by omega
  refine ⟨⟨by rw [e 0 (by omega)]; exact a0, by rw [e 1 (by omega)]; exact a1, by rw [e 4 (by omega)]; omega, fun r hr => ?_, fun d hd => ?_, fun k hk => ?_⟩, by rw [e 0 (by omega)]; exact h1, by rw [e 2 (by omega), e 0 (by omega)]; exact h2, by rw [e 3 (by omega), e 0 (by omega)]; exact a3, by rw [e 4 (by omega)]; omega, by rw [e 4 (by omega), e 0 (by omega)]; omega, by rw [fW_5, e 2 (by omega)], fun k hk => ?_, fun r hr => ?_⟩
  · rw [e 0 (by omega)] at hr
    rw [e _ (by omega), e _ (by omega)]; exact ar r hr
  · rw [e 1 (by omega)] at hd
    rw [e _ (by omega), e 0 (by omega), e _ (by omega), e _ (by omega), e _ (by omega), e _ (by omega)]; exact ad d hd
  · rw [e 4 (by omega), a4] at hk
    have : k = 0 := by omega
    subst this
    rw [show 5 + 0 = 5 from rfl, fW_5, e 0 (by omega)]; exact h2
  · rw [e 4 (by omega), a4] at hk; omega
  · rw [e 0 (by omega)] at hr
    rw [e _ (by omega)]; exact an r hr
theorem PI_ra {N : zLv} {c ks cs : Nat} (h : PI N) (h0 : N 0 < 11) (hc : c < 27 ^ 6) (hk : ks < 256) (hs : cs ≤ 99) : PI (nRa N c ks cs) ∧ 1 ≤ nRa N c ks cs 0 := by
  obtain ⟨a0, a1, a4, ar, ad, a2, a3, an⟩ := h
  have e0 : nRa N c ks cs 0 = N 0 + 1 := by unfold nRa; rw [zput_ne _ _ (by omega), zput_ne _ _ (by omega), zput_ne _ _ (by omega), zput_self]
  have e : ∀ i, i ≠ 0 → ¬ (16 + 3 * N 0 ≤ i ∧ i ≤ 18 + 3 * N 0) → nRa N c ks cs i = N i := fun i h1 h2 => by unfold nRa; rw [zput_ne _ _ (by omega), zput_ne _ _ (by omega), zput_ne _ _ (by omega), zput_ne _ _ h1]
  have k0 : nRa N c ks cs (16 + 3 * N 0) = ks := by unfold nRa; rw [zput_ne _ _ (by omega), zput_ne _ _ (by omega), zput_self]
  have k1 : nRa N c ks cs (17 + 3 * N 0) = cs := by unfold nRa; rw [zput_ne _ _ (by omega), zput_self]
  have k2 : nRa N c ks cs (18 + 3 * N 0) = c := by unfold nRa; rw [zput_self]
  refine ⟨⟨by omega, by rw [e 1 (by omega) (by omega)]; exact a1, by rw [e 4 (by omega) (by omega)]; exact a4, fun r hr => ?_, fun d hd => ?_, by rw [e 2 (by omega) (by omega), e0]; omega, by rw [e 3 (by omega) (by omega), e0]; omega, fun r hr => ?_⟩, by omega⟩
  · by_cases w : r = N 0
    · subst w; rw [k0, k1]; exact ⟨hk, hs⟩
    · rw [e _ (by omega) (by omega), e _ (by omega) (by omega)]; exact ar r (by omega)
  · rw [e 1 (by omega) (by omega)] at hd
    obtain ⟨d1, d2, d3, d4, d5, d6, d7⟩ := ad d hd
    rw [e _ (by omega) (by omega), e0, e _ (by omega) (by omega), e _ (by omega) (by omega), e _ (by omega) (by omega), e _ (by omega) (by omega)]
    exact ⟨by omega, by omega, d3, d4, d5, d6, d7⟩
  · by_cases w : r = N 0
    · subst w; rw [k2]; exact hc
    · rw [e _ (by omega) (by omega)]; exact an r (by omega)
theorem PI_ao {N : zLv} {f g k v o : Nat} (h : PI N) (h1 : N 1 < 20) (hf : f < N 0) (hg : g < N 0) (hne : f ≠ g) (hk : k ≤ 2) (hv : v ≤ 999) (hkv : k = 1 → v < 8) (ho : o ≤ 1) : PI (nAo N f g k v o) := by
  obtain ⟨a0, a1, a4, ar, ad, a2, a3, an⟩ := h
  have e1 : nAo N f g k v o 1 = N 1 + 1 := by unfold nAo; rw [zput_ne _ _ (by omega), zput_ne _ _ (by omega), zput_ne _ _ (by omega), zput_ne _ _ (by omega), zput_ne _ _ (by omega), zput_self]
  have e : ∀ i, i ≠ 1 → ¬ (49 + 5 * N 1 ≤ i ∧ i ≤ 53 + 5 * N 1) → nAo N f g k v o i = N i := fun i h1 h2 => by unfold nAo; rw [zput_ne _ _ (by omega), zput_ne _ _ (by omega), zput_ne _ _ (by omega), zput_ne _ _ (by omega), zput_ne _ _ (by omega), zput_ne _ _ h1]
  have k0 : nAo N f g k v o (49 + 5 * N 1) = f := by unfold nAo; rw [zput_ne _ _ (by omega), zput_ne _ _ (by omega), zput_ne _ _ (by omega), zput_ne _ _ (by omega), zput_self]
  have k1 : nAo N f g k v o (50 + 5 * N 1) = g := by unfold nAo; rw [zput_ne _ _ (by omega), zput_ne _ _ (by omega), zput_ne _ _ (by omega), zput_self]
  have k2 : nAo N f g k v o (51 + 5 * N 1) = k := by unfold nAo; rw [zput_ne _ _ (by omega), zput_ne _ _ (by omega), zput_self]
  have k3 : nAo N f g k v o (52 + 5 * N 1) = v := by unfold nAo; rw [zput_ne _ _ (by omega), zput_self]
  have k4 : nAo N f g k v o (53 + 5 * N 1) = o := by unfold nAo; rw [zput_self]
  refine ⟨by rw [e 0 (by omega) (by omega)]; exact a0, by omega, by rw [e 4 (by omega) (by omega)]; exact a4, fun r hr => ?_, fun d hd => ?_, by rw [e 2 (by omega) (by omega), e 0 (by omega) (by omega)]; exact a2, by rw [e 3 (by omega) (by omega), e 0 (by omega) (by omega)]; exact a3, fun r hr => ?_⟩
  · rw [e 0 (by omega) (by omega)] at hr
    rw [e _ (by omega) (by omega), e _ (by omega) (by omega)]; exact ar r hr
  · rw [e 0 (by omega) (by omega)]
    by_cases w : d = N 1
    · subst w; rw [k0, k1, k2, k3, k4]; exact ⟨hf, hg, hne, hk, hv, hkv, ho⟩
    · rw [e _ (by omega) (by omega), e _ (by omega) (by omega), e _ (by omega) (by omega), e _ (by omega) (by omega), e _ (by omega) (by omega)]
      exact ad d (by omega)
  · rw [e 0 (by omega) (by omega)] at hr
    rw [e _ (by omega) (by omega)]; exact an r hr
theorem PI_2 {N : zLv} {r : Nat} (h : PI N) (hr : r < N 0) : PI (zput N 2 r) := by
  obtain ⟨a0, a1, a4, ar, ad, a2, a3, an⟩ := h
  have e : ∀ i, i ≠ 2 → zput N 2 r i = N i := fun i hi => zput_ne _ _ hi
  refine ⟨by rw [e 0 (by omega)]; exact a0, by rw [e 1 (by omega)]; exact a1, by rw [e 4 (by omega)]; exact a4, fun r hr => ?_, fun d hd => ?_, by rw [zput_self, e 0 (by omega)]; exact Or.inr hr, by rw [e 3 (by omega), e 0 (by omega)]; exact a3, fun r hr => ?_⟩
  · rw [e 0 (by omega)] at hr
    rw [e _ (by omega), e _ (by omega)]; exact ar r hr
  · rw [e 1 (by omega)] at hd
    rw [e _ (by omega), e 0 (by omega), e _ (by omega), e _ (by omega), e _ (by omega), e _ (by omega)]; exact ad d hd
  · rw [e 0 (by omega)] at hr
    rw [e _ (by omega)]; exact an r hr
theorem PI_3 {N : zLv} {x : Nat} (h : PI N) (hx : x ≤ N 0) : PI (zput N 3 x) := by
  obtain ⟨a0, a1, a4, ar, ad, a2, a3, an⟩ := h
  have e : ∀ i, i ≠ 3 → zput N 3 x i = N i := fun i hi => zput_ne _ _ hi
  refine ⟨by rw [e 0 (by omega)]; exact a0, by rw [e 1 (by omega)]; exact a1, by rw [e 4 (by omega)]; exact a4, fun r hr => ?_, fun d hd => ?_, by rw [e 2 (by omega), e 0 (by omega)]; exact a2, by rw [zput_self, e 0 (by omega)]; exact hx, fun r hr => ?_⟩
  · rw [e 0 (by omega)] at hr
    rw [e _ (by omega), e _ (by omega)]; exact ar r hr
  · rw [e 1 (by omega)] at hd
    rw [e _ (by omega), e 0 (by omega), e _ (by omega), e _ (by omega), e _ (by omega), e _ (by omega)]; exact ad d hd
  · rw [e 0 (by omega)] at hr
    rw [e _ (by omega)]; exact an r hr
end ZPA

