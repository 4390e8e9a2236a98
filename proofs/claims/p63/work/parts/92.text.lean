/-! A TEXT READ: statements of a text that was built. -/
section ZTX
/-- from s on the text is ys -/
def TX (xs : List Int32) (s : Nat) (ys : List Nat) : Prop := xs.drop s = ys.map nI ∧ (∀ y ∈ ys, y < 128) ∧ s ≤ xs.length
def bl (b : Bool) : List Nat := if b then [32] else []
def dn (n : Nat) : List Nat := if n < 10 then [48 + n] else [48 + n / 10, 48 + n % 10]
def cdw (w : List Nat) : Nat := w.foldl (fun a c => a * 27 + (c - 96)) 0
section
variable {xs : List Int32} {s : Nat} {ys : List Nat}
theorem TX_len (T : TX xs s ys) : s + ys.length = xs.length := by
  have := congrArg List.length T.1
  rw [List.length_drop, List.length_map] at this
  have := T.2.2
  omega
theorem TX_at (T : TX xs s ys) {k : Nat} (hk : k < ys.length) : bv xs (s + k) = ys.getD k 0 := by
  have e : xs[s + k]? = some (nI (ys.getD k 0)) := by
    rw [← List.getElem?_drop, T.1, List.getElem?_map, List.getD_eq_getElem?_getD, List.getElem?_eq_getElem hk]; rfl
  unfold bv
  rw [List.getD_eq_getElem?_getD, e]
  have m : ys.getD k 0 < 128 := by
    rw [List.getD_eq_getElem?_getD, List.getElem?_eq_getElem hk]
    exact T.2.1 _ (List.getElem_mem hk)
  show (nI (ys.getD k 0)).toNatClampNeg = _
  exact nI_clamp (by omega)
theorem TX_app {w zs : List Nat} (T : TX xs s (w ++ zs)) : TX xs (s + w.length) zs := by
  have L := TX_len T
  rw [List.length_append] at L
  refine ⟨?_, fun y hy => T.2.1 y (List.mem_append_right _ hy), by omega⟩
  rw [← List.drop_drop, T.1, List.map_append]
  conv => lhs; rw [show w.length = (w.map nI).length by rw [List.length_map]]
  exact List.drop_left
theorem TX_ty (T : TX xs s ys) {k : Nat} (hk : k < ys.length) : ty xs (s + k) = btk (ys.getD k 0) := by
  unfold ty
  have := TX_len T
  rw [if_pos (by omega), TX_at T hk]
theorem TX_e (T : TX xs s []) : ty xs s = 0 := by
  unfold ty
  have := TX_len T
  rw [if_neg (by rw [List.length_nil] at this; omega)]
theorem TX_h {c : Nat} {zs : List Nat} (T : TX xs s (c :: zs)) : ty xs s = btk c ∧ bv xs s = c := ⟨TX_ty (k := 0) T (by simp), TX_at (k := 0) T (by simp)⟩
theorem TX_t {c : Nat} {zs : List Nat} (T : TX xs s (c :: zs)) : TX xs (s + 1) zs := TX_app (w := [c]) T
theorem TX_run {t : Nat} (ht : t ≠ 0) : ∀ (w : List Nat) (s : Nat) {zs : List Nat}, TX xs s (w ++ zs) → (∀ c ∈ w, btk c = t) → (∀ c ∈ zs.head?, btk c ≠ t) → tep xs t s = s + w.length
  | [], s, zs, T, _, hz => by
    refine tep_n ?_
    cases zs with
    | nil => rw [TX_e T]; exact fun e => ht e.symm
    | cons c zs => rw [(TX_h T).1]; exact hz c rfl
  | c :: w, s, zs, T, hw, hz => by
    rw [tep_t ht (by rw [(TX_h T).1]; exact hw c (List.mem_cons_self ..)), TX_run ht w (s + 1) (TX_t T) (fun d hd => hw d (List.mem_cons_of_mem _ hd)) hz, List.length_cons]
    omega
theorem TX_skp {b : Bool} {zs : List Nat} (T : TX xs s (bl b ++ zs)) (hz : ∀ c ∈ zs.head?, btk c ≠ 4) : TX xs (skp xs s) zs := by
  have h0 : ∀ s, TX xs s zs → skp xs s = s := by
    intro s T
    refine skp_n ?_
    cases zs with
    | nil => rw [TX_e T]; decide
    | cons c zs => rw [(TX_h T).1]; exact hz c rfl
  cases b with
  | false =>
    have T : TX xs s zs := T
    rw [h0 s T]; exact T
  | true =>
    have T : TX xs s (32 :: zs) := T
    have T1 := TX_t T
    rw [skp_4 (by rw [(TX_h T).1]; decide), h0 _ T1]; exact T1
theorem nmd_w : ∀ (k : Nat) {w zs : List Nat}, TX xs s (w ++ zs) → k ≤ w.length → nmd xs s k = cdw (w.take k) := by
  intro k
  induction k with
  | zero => intro w zs _ _; rfl
  | succ k ih =>
    intro w zs T hk
    have e := TX_at T (k := k) (by rw [List.length_append]; omega)
    have e2 : (w ++ zs).getD k 0 = w[k] := by
      rw [List.getD_eq_getElem?_getD, List.getElem?_append_left (by omega), List.getElem?_eq_getElem (by omega)]; rfl
    rw [e2] at e
    unfold bv at e
    rw [nmd, ih T (by omega), e, List.take_succ_eq_append_getElem (by omega)]
    unfold cdw
    rw [List.foldl_append]; rfl
/-- a word -/
theorem tkW (w : List Nat) (b : Bool) {zs : List Nat} (T : TX xs s (w ++ (bl b ++ zs))) (h0 : w ≠ []) (h1 : ∀ c ∈ w, btk c = 1) (hz : ∀ c ∈ zs.head?, btk c ≠ 4) (hs : b = false → ∀ c ∈ zs.head?, btk c ≠ 1) : ty xs s = 1 ∧ tkL xs s = w.length ∧ wcd xs s = cdw w ∧ TX xs (nxt xs s) zs := by
  have t : ty xs s = 1 := by
    cases w with
    | nil => exact absurd rfl h0
    | cons c w => rw [(TX_h T).1]; exact h1 c (List.mem_cons_self ..)
  have e : tkE xs s = s + w.length := by
    unfold tkE
    rw [if_neg (by omega), if_neg (by omega), t]
    refine TX_run (by decide) w s T h1 ?_
    cases b with
    | false => exact hs rfl
    | true => intro c hc; cases hc; decide
  have l : tkL xs s = w.length := by unfold tkL; omega
  refine ⟨t, l, ?_, ?_⟩
  · unfold wcd
    rw [l, nmd_w w.length T (Nat.le_refl _), List.take_length]
  · unfold nxt
    rw [e]
    exact TX_skp (TX_app T) hz
/-- a number -/
theorem tkD {n : Nat} (hn : n < 100) (b : Bool) {zs : List Nat} (T : TX xs s (dn n ++ (bl b ++ zs))) (hz : ∀ c ∈ zs.head?, btk c ≠ 4) (hs : b = false → ∀ c ∈ zs.head?, btk c ≠ 2) : ty xs s = 2 ∧ vb 1000 xs s (tkL xs s) = n ∧ TX xs (nxt xs s) zs := by
  have d2 : ∀ c, 48 ≤ c ∧ c ≤ 57 → btk c = 2 := by
    intro c hc
    unfold btk
    rw [if_neg (by omega), if_neg (by omega), if_pos hc]
  have h1 : ∀ c ∈ dn n, btk c = 2 := by
    intro c hc
    refine d2 c ?_
    unfold dn at hc
    split at hc
    · simp at hc; omega
    · simp at hc; omega
  have h0 : 0 < (dn n).length := by unfold dn; split <;> simp
  have t : ty xs s = 2 := by
    have := TX_ty T (k := 0) (by rw [List.length_append]; omega)
    rw [show s + 0 = s from rfl] at this
    rw [this]
    have e : (dn n ++ (bl b ++ zs)).getD 0 0 ∈ dn n := by
      rw [List.getD_eq_getElem?_getD, List.getElem?_append_left h0, List.getElem?_eq_getElem h0]
      exact List.getElem_mem h0
    exact h1 _ e
  have e : tkE xs s = s + (dn n).length := by
    unfold tkE
    rw [if_neg (by omega), if_neg (by omega), t]
    refine TX_run (by decide) _ s T h1 ?_
    cases b with
    | false => exact hs rfl
    | true => intro c hc; cases hc; decide
  have l : tkL xs s = (dn n).length := by unfold tkL; omega
  refine ⟨t, ?_, ?_⟩
  · rw [l]
    by_cases c : n < 10
    · have ed : dn n = [48 + n] := if_pos c
      have a0 := TX_at T (k := 0) (by rw [List.length_append]; omega)
      rw [ed] at a0 ⊢
      show Nat.min 1000 (10 * 0 + (bv xs (s + 0) - 48)) = n
      rw [a0]
      show min 1000 (10 * 0 + (48 + n - 48)) = n
      omega
    · have ed : dn n = [48 + n / 10, 48 + n % 10] := if_neg c
      have l2 : (dn n).length = 2 := by rw [ed]; rfl
      have a0 := TX_at T (k := 0) (by rw [List.length_append]; omega)
      have a1 := TX_at T (k := 1) (by rw [List.length_append]; omega)
      rw [ed] at a0 a1 ⊢
      show Nat.min 1000 (10 * Nat.min 1000 (10 * 0 + (bv xs (s + 0) - 48)) + (bv xs (s + 1) - 48)) = n
      rw [a0, a1]
      show min 1000 (10 * min 1000 (10 * 0 + (48 + n / 10 - 48)) + (48 + n % 10 - 48)) = n
      omega
  · unfold nxt
    rw [e]
    exact TX_skp (TX_app T) hz
/-- a semicolon -/
theorem tkS {zs : List Nat} (T : TX xs s (59 :: zs)) (hz : ∀ c ∈ zs.head?, btk c ≠ 4) : isS xs s 59 = true ∧ ty xs s = 3 ∧ TX xs (nxt xs s) zs := by
  obtain ⟨t, v⟩ := TX_h T
  have t3 : ty xs s = 3 := by rw [t]; decide
  refine ⟨by unfold isS; rw [t3, v]; decide, t3, ?_⟩
  unfold nxt tkE
  rw [if_neg (by omega), if_pos t3]
  exact TX_skp (b := false) (TX_t T) hz
theorem isW_no {K : Nat} (h : ty xs s ≠ 1) : isW xs s K = false := by unfold isW; simp [h]
theorem isW_is {w : List Nat} {K : Nat} (h1 : ty xs s = 1) (h2 : tkL xs s = w.length) (h3 : wcd xs s = cdw w) (h4 : w.length ≤ 6) : isW xs s K = decide (cdw w = K) := by unfold isW; rw [h1, h2, h3]; simp [h4]
theorem isN_is {w : List Nat} (h1 : ty xs s = 1) (h2 : tkL xs s = w.length) (h3 : wcd xs s = cdw w) (h4 : w.length ≤ 6) : isN xs s = !kwd (cdw w) := by unfold isN; rw [h1, h2, h3]; simp [h4]
/-- a room's name -/
theorem tkR {r : Nat} (hr : r < 6) (b : Bool) {zs : List Nat} (T : TX xs s (114 :: (97 + r) :: (bl b ++ zs))) (hz : ∀ c ∈ zs.head?, btk c ≠ 4) (hs : b = false → ∀ c ∈ zs.head?, btk c ≠ 1) : isN xs s = true ∧ wcd xs s = 487 + r ∧ TX xs (nxt xs s) zs := by
  have e : cdw [114, 97 + r] = 487 + r := by
    show (0 * 27 + (114 - 96)) * 27 + (97 + r - 96) = 487 + r
    omega
  obtain ⟨a, b1, c, d⟩ := tkW [114, 97 + r] b T (by simp) (by
    intro c hc
    simp at hc
    unfold btk
    rcases hc with hc | hc
    · subst hc; decide
    · rw [if_neg (by omega), if_pos (by omega)]) hz hs
  refine ⟨?_, by rw [c, e], d⟩
  rw [isN_is a b1 c (by simp), e]
  unfold kwd
  have : ∀ K, 1000 < K → decide (487 + r = K) = false := fun K hK => by simp; omega
  rw [this _ (by omega), this _ (by omega), this _ (by omega), this _ (by omega), this _ (by omega), this _ (by omega), this _ (by omega), this _ (by omega)]; rfl
/-- names of the rooms: r and a letter -/
def NM (N : zLv) : Prop := ∀ r, r < N 0 → N (18 + 3 * r) = 487 + r
theorem nRn_is {N : zLv} {r : Nat} (h : NM N) (hr : r < N 0) : nRn N (487 + r) = some r := by
  unfold nRn
  rw [if_neg (by omega)]
  exact nfind_some.mpr ⟨hr, by rw [h r hr]; simp, fun j hj => by rw [h j (by omega)]; simp; omega⟩
theorem nRn_no {N : zLv} (h : NM N) : nRn N (487 + N 0) = none := by
  unfold nRn
  rw [if_neg (by omega)]
  exact nfind_none.mpr (fun j hj => by rw [h j hj]; simp; omega)
theorem pTold_is {N : zLv} {r : Nat} (h : NM N) (hr : r < N 0) (h1 : isN xs s = true) (h2 : wcd xs s = 487 + r) : pTold xs N s = .inr r := by
  unfold pTold
  rw [if_pos h1, h2, nRn_is h hr]
def hdn (zs : List Nat) (t : Nat) : Prop := ∀ c ∈ zs.head?, btk c ≠ t
theorem hd_c {c t : Nat} {zs : List Nat} (h : btk c ≠ t) : ∀ d ∈ (c :: zs).head?, btk d ≠ t := by
  intro d hd; cases hd; exact h
theorem dn_hd {n t : Nat} {zs : List Nat} (hn : n < 100) (ht : t ≠ 2) : ∀ d ∈ (dn n ++ zs).head?, btk d ≠ t := by
  have d2 : ∀ c, 48 ≤ c ∧ c ≤ 57 → btk c ≠ t := by
    intro c hc
    unfold btk
    rw [if_neg (by omega), if_neg (by omega), if_pos hc]; exact fun e => ht e.symm
  unfold dn
  split
  · exact hd_c (d2 _ (by omega))
  · exact hd_c (d2 _ (by omega))
def kp (ko : Option Nat) (zs : List Nat) : List Nat := match ko with
  | none => zs
  | some v => 32 :: 107 :: 101 :: 121 :: 32 :: (dn v ++ zs)
def cp (co : Option Nat) (zs : List Nat) : List Nat := match co with
  | none => zs
  | some v => 32 :: 99 :: 111 :: 105 :: 110 :: 115 :: 32 :: (dn v ++ zs)
def rtx (r : Nat) (ko co : Option Nat) (zs : List Nat) : List Nat := 114 :: 111 :: 111 :: 109 :: 32 :: 114 :: (97 + r) :: kp ko (cp co (59 :: zs))
def cq (co : Option Nat) (zs : List Nat) : List Nat := match co with
  | none => 59 :: zs
  | some v => 99 :: 111 :: 105 :: 110 :: 115 :: 32 :: (dn v ++ 59 :: zs)
def kv (ko : Option Nat) : Nat := match ko with
  | none => 0
  | some v => 2 ^ v
/-- the semicolon that ends a statement -/
theorem p_semi {zs : List Nat} (T : TX xs s (59 :: zs)) (hz : ∀ c ∈ zs.head?, btk c ≠ 4) : ∃ s2, pSemi xs s = .inr s2 ∧ TX xs s2 zs := by
  obtain ⟨a, b, c⟩ := tkS T hz
  exact ⟨_, by unfold pSemi; rw [if_pos a], c⟩
theorem p_coin {co : Option Nat} {zs : List Nat} (T : TX xs s (cq co zs)) (hv : ∀ v, co = some v → v < 100) (hz : ∀ c ∈ zs.head?, btk c ≠ 4) : ∃ s2, pCoin xs s = .inr (co.getD 0, s2) ∧ TX xs s2 (59 :: zs) := by
  cases co with
  | none =>
    have T : TX xs s (59 :: zs) := T
    have := tkS T hz
    refine ⟨s, ?_, T⟩
    unfold pCoin
    rw [isW_no (by omega)]; rfl
  | some v =>
    have hv := hv v rfl
    have T : TX xs s ([99, 111, 105, 110, 115] ++ (bl true ++ (dn v ++ (bl false ++ 59 :: zs)))) := T
    obtain ⟨a, b, c, d⟩ := tkW _ _ T (by decide) (by decide) (dn_hd hv (by decide)) (by intro h; cases h)
    obtain ⟨e, f, g⟩ := tkD hv _ d (hd_c (by decide)) (fun _ => hd_c (by decide))
    refine ⟨_, ?_, g⟩
    unfold pCoin
    rw [isW_is a b c (by decide), show decide (cdw [99, 111, 105, 110, 115] = 1896526) = true by decide +kernel, if_pos rfl]
    unfold pFits
    rw [if_pos e, f, if_pos (by omega)]; rfl
theorem p_key {v : Nat} {b : Bool} {zs : List Nat} (T : TX xs s (107 :: 101 :: 121 :: 32 :: (dn v ++ (bl b ++ zs)))) (hv : v < 8) (hz : ∀ c ∈ zs.head?, btk c ≠ 4) (hs : b = false → ∀ c ∈ zs.head?, btk c ≠ 2) (hk : ∀ s2, TX xs s2 zs → isS xs s2 44 = false) : ∃ s2, pKeyO xs s = .inr (2 ^ v, s2) ∧ TX xs s2 zs := by
  have T : TX xs s ([107, 101, 121] ++ (bl true ++ (dn v ++ (bl b ++ zs)))) := T
  obtain ⟨a, b1, c, d⟩ := tkW _ _ T (by decide) (by decide) (dn_hd (by omega) (by decide)) (by intro h; cases h)
  obtain ⟨e, f, g⟩ := tkD (by omega) _ d hz hs
  refine ⟨_, ?_, g⟩
  unfold pKeyO
  rw [isW_is a b1 c (by decide), show decide (cdw [107, 101, 121] = 8179) = true by decide +kernel, if_pos rfl]
  rw [show (9 : Nat) = 8 + 1 from rfl, pKeys]
  unfold pFits
  rw [if_pos e, f, if_pos (by omega)]
  show (if (0 : Nat).testBit v = true then _ else _) = _
  rw [Nat.zero_testBit, if_neg (by decide), hk _ g, if_neg (by decide), Nat.zero_or]
theorem p_room {N : zLv} {fl : Bool} {r : Nat} {ko co : Option Nat} {zs : List Nat} (T : TX xs s (rtx r ko co zs)) (hN : NM N) (hr : r = N 0) (h6 : r < 6) (hk : ∀ v, ko = some v → v < 8) (hc : ∀ v, co = some v → v < 100) (hz : ∀ c ∈ zs.head?, btk c ≠ 4) :
    ∃ s2, pStmt xs N fl s = .inr ((nRa N (487 + r) (kv ko) (co.getD 0), fl), s2) ∧ TX xs s2 zs := by
  have T : TX xs s ([114, 111, 111, 109] ++ (bl true ++ (114 :: (97 + r) :: kp ko (cp co (59 :: zs))))) := T
  obtain ⟨a, b, c, d⟩ := tkW _ _ T (by decide) (by decide) (hd_c (by decide)) (by intro h; cases h)
  have w1 : isW xs s 365647 = true := by rw [isW_is a b c (by decide)]; decide +kernel
  obtain ⟨nb, zs2, ez, hz4, hz1⟩ : ∃ (nb : Bool) (zs2 : List Nat), kp ko (cp co (59 :: zs)) = bl nb ++ zs2 ∧ (∀ c ∈ zs2.head?, btk c ≠ 4) ∧ (nb = false → ∀ c ∈ zs2.head?, btk c ≠ 1) := by
    cases ko with
    | some v => exact ⟨true, _, rfl, hd_c (by decide), by intro h; cases h⟩
    | none =>
      cases co with
      | some v => exact ⟨true, _, rfl, hd_c (by decide), by intro h; cases h⟩
      | none => exact ⟨false, _, rfl, hd_c (by decide), fun _ => hd_c (by decide)⟩
  have d' := d
  rw [ez] at d'
  obtain ⟨n1, n2, n3⟩ := tkR h6 nb d' hz4 hz1
  obtain ⟨s3, k1, k2⟩ : ∃ s3, pKeyO xs (nxt xs (nxt xs s)) = .inr ((kv ko), s3) ∧ TX xs s3 (cq co zs) := by
    cases ko with
    | some v =>
      have e2 : bl nb ++ zs2 = bl true ++ (107 :: 101 :: 121 :: 32 :: (dn v ++ cp co (59 :: zs))) := ez.symm
      cases nb with
      | false =>
        have : zs2 = 32 :: (107 :: 101 :: 121 :: 32 :: (dn v ++ cp co (59 :: zs))) := e2
        exact absurd rfl (hz4 32 (by rw [this]; rfl))
      | true =>
        have : zs2 = 107 :: 101 :: 121 :: 32 :: (dn v ++ cp co (59 :: zs)) := by
          have := e2
          injection this
        rw [this] at n3
        cases co with
        | none => exact p_key (b := false) n3 (hk v rfl) (hd_c (by decide)) (fun _ => hd_c (by decide)) (fun s2 T2 => by unfold isS; rw [(TX_h T2).2]; simp)
        | some u => exact p_key (b := true) n3 (hk v rfl) (hd_c (by decide)) (by intro h; cases h) (fun s2 T2 => by unfold isS; rw [(TX_h T2).2]; simp)
    | none =>
      refine ⟨nxt xs (nxt xs s), ?_, ?_⟩
      · cases co with
        | none =>
          cases nb with
          | true =>
            have : 59 :: zs = 32 :: zs2 := ez
            injection this with q _
            exact absurd q (by decide)
          | false =>
            have : 59 :: zs = zs2 := ez
            rw [← this] at n3
            have := tkS n3 hz
            unfold pKeyO
            rw [isW_no (by omega)]; rfl
        | some u =>
          cases nb with
          | false =>
            have : 32 :: (99 :: 111 :: 105 :: 110 :: 115 :: 32 :: (dn u ++ 59 :: zs)) = zs2 := ez
            exact absurd rfl (hz4 32 (by rw [← this]; rfl))
          | true =>
            have : 32 :: (99 :: 111 :: 105 :: 110 :: 115 :: 32 :: (dn u ++ 59 :: zs)) = 32 :: zs2 := ez
            injection this with _ q
            rw [← q] at n3
            have T3 : TX xs (nxt xs (nxt xs s)) ([99, 111, 105, 110, 115] ++ (bl true ++ (dn u ++ (bl false ++ 59 :: zs)))) := n3
            obtain ⟨a, b, c, d⟩ := tkW _ _ T3 (by decide) (by decide) (dn_hd (hc u rfl) (by decide)) (by intro h; cases h)
            unfold pKeyO
            rw [isW_is a b c (by decide), show decide (cdw [99, 111, 105, 110, 115] = 8179) = false by decide +kernel]; rfl
      · cases co with
        | none =>
          cases nb with
          | true =>
            have : 59 :: zs = 32 :: zs2 := ez
            injection this with q _
            exact absurd q (by decide)
          | false =>
            have : 59 :: zs = zs2 := ez
            have n3 := n3
            rw [← this] at n3; exact n3
        | some u =>
          cases nb with
          | false =>
            have : 32 :: (99 :: 111 :: 105 :: 110 :: 115 :: 32 :: (dn u ++ 59 :: zs)) = zs2 := ez
            exact absurd rfl (hz4 32 (by rw [← this]; rfl))
          | true =>
            have : 32 :: (99 :: 111 :: 105 :: 110 :: 115 :: 32 :: (dn u ++ 59 :: zs)) = 32 :: zs2 := ez
            injection this with _ q
            rw [← q] at n3; exact n3
  obtain ⟨s4, c1, c2⟩ := p_coin k2 hc hz
  obtain ⟨s5, e1, e2⟩ := p_semi c2 hz
  refine ⟨s5, ?_, e2⟩
  unfold pStmt
  rw [if_pos w1]
  unfold pRoom
  rw [if_neg (by omega), if_pos n1, n2, hr, nRn_no hN]
  rw [← hr, k1]
  show pb (pb (pCoin xs s3) _) _ = _
  rw [c1]
  show pb (pb (pSemi xs s4) _) _ = _
  rw [e1]; rfl
/-- a door's lock: nothing, a key, a toll -/
def lkp (kd v : Nat) (zs : List Nat) : List Nat := if kd = 1 then 32 :: 107 :: 101 :: 121 :: 32 :: (dn v ++ zs) else if kd = 2 then 32 :: 116 :: 111 :: 108 :: 108 :: 32 :: (dn v ++ zs) else zs
def owp (o : Nat) (zs : List Nat) : List Nat := if o = 1 then 32 :: 111 :: 110 :: 101 :: 119 :: 97 :: 121 :: zs else zs
def dtx (f g kd v o : Nat) (zs : List Nat) : List Nat := 100 :: 111 :: 111 :: 114 :: 32 :: 114 :: (97 + f) :: 32 :: 114 :: (97 + g) :: lkp kd v (owp o (59 :: zs))
theorem p_ow {N : zLv} {f g k v o : Nat} {zs : List Nat} (ho : o ≤ 1) (T : TX xs s (if o = 1 then 111 :: 110 :: 101 :: 119 :: 97 :: 121 :: 59 :: zs else 59 :: zs)) (hz : ∀ c ∈ zs.head?, btk c ≠ 4) : ∃ s2, pDoor2 xs N f g k v s = .inr (nAo N f g k v o, s2) ∧ TX xs s2 zs := by
  by_cases e : o = 1
  · rw [if_pos e] at T
    have T : TX xs s ([111, 110, 101, 119, 97, 121] ++ (bl false ++ (59 :: zs))) := T
    obtain ⟨a, b, c, d⟩ := tkW _ _ T (by decide) (by decide) (hd_c (by decide)) (fun _ => hd_c (by decide))
    have w : isW xs s 222789013 = true := by rw [isW_is a b c (by decide)]; decide +kernel
    obtain ⟨s5, e1, e2⟩ := p_semi d hz
    refine ⟨s5, ?_, e2⟩
    unfold pDoor2
    rw [w, if_pos rfl, if_pos rfl, e1, e]; rfl
  · rw [if_neg e] at T
    have t := tkS T hz
    have w : isW xs s 222789013 = false := isW_no (by omega)
    obtain ⟨s5, e1, e2⟩ := p_semi T hz
    refine ⟨s5, ?_, e2⟩
    have o0 : o = 0 := by omega
    unfold pDoor2
    rw [w, if_neg (by decide), if_neg (by decide), e1, o0]; rfl
theorem ow_hd {o : Nat} {zs : List Nat} : ∃ (nb : Bool), owp o (59 :: zs) = bl nb ++ (if o = 1 then 111 :: 110 :: 101 :: 119 :: 97 :: 121 :: 59 :: zs else 59 :: zs) ∧ (nb = false → o ≠ 1) := by
  by_cases e : o = 1
  · exact ⟨true, by unfold owp; rw [if_pos e, if_pos e]; rfl, by intro h; cases h⟩
  · exact ⟨false, by unfold owp; rw [if_neg e, if_neg e]; rfl, fun _ => e⟩
theorem ow_n {o t : Nat} {zs : List Nat} (ht : t ≠ 3) (ht1 : o = 1 → t ≠ 1) : ∀ c ∈ (if o = 1 then 111 :: 110 :: 101 :: 119 :: 97 :: 121 :: 59 :: zs else 59 :: zs).head?, btk c ≠ t := by
  by_cases e : o = 1
  · rw [if_pos e]; exact hd_c (fun q => ht1 e (by rw [← q]; decide))
  · rw [if_neg e]; exact hd_c (fun q => ht (by rw [← q]; decide))
theorem p_lock {N : zLv} {f g kd v o : Nat} {zs : List Nat} (ho : o ≤ 1) (hk : kd ≤ 2) (hv : v < 100) (hv1 : kd = 1 → v < 8) (hv0 : kd = 0 → v = 0) (hz : ∀ c ∈ zs.head?, btk c ≠ 4) :
    ∃ (nb : Bool) (ys : List Nat), lkp kd v (owp o (59 :: zs)) = bl nb ++ ys ∧ (∀ c ∈ ys.head?, btk c ≠ 4) ∧ (nb = false → ∀ c ∈ ys.head?, btk c ≠ 1) ∧ ∀ s, TX xs s ys → ∃ s2, pDoor1 xs N f g s = .inr (nAo N f g kd v o, s2) ∧ TX xs s2 zs := by
  obtain ⟨ob, oe, on⟩ := ow_hd (o := o) (zs := zs)
  by_cases k1 : kd = 1
  · refine ⟨true, 107 :: 101 :: 121 :: 32 :: (dn v ++ owp o (59 :: zs)), by unfold lkp; rw [if_pos k1]; rfl, hd_c (by decide), (by intro h; cases h), fun s T => ?_⟩
    rw [oe] at T
    have T : TX xs s ([107, 101, 121] ++ (bl true ++ (dn v ++ (bl ob ++ _)))) := T
    obtain ⟨a, b1, c, d⟩ := tkW _ _ T (by decide) (by decide) (dn_hd hv (by decide)) (by intro h; cases h)
    obtain ⟨e, q, r⟩ := tkD hv _ d (ow_n (by decide) (fun _ => by decide)) (fun h => ow_n (by decide) (fun _ => by decide))
    obtain ⟨s2, u1, u2⟩ := p_ow (N := N) (f := f) (g := g) (k := 1) (v := v) ho r hz
    refine ⟨s2, ?_, u2⟩
    unfold pDoor1
    rw [isW_is a b1 c (by decide), show decide (cdw [107, 101, 121] = 8179) = true by decide +kernel, if_pos rfl]
    unfold pFits
    rw [if_pos e, q, if_pos (by have := hv1 k1; omega), k1]
    exact u1
  · by_cases k2 : kd = 2
    · refine ⟨true, 116 :: 111 :: 108 :: 108 :: 32 :: (dn v ++ owp o (59 :: zs)), by unfold lkp; rw [if_neg k1, if_pos k2]; rfl, hd_c (by decide), (by intro h; cases h), fun s T => ?_⟩
      rw [oe] at T
      have T : TX xs s ([116, 111, 108, 108] ++ (bl true ++ (dn v ++ (bl ob ++ _)))) := T
      obtain ⟨a, b1, c, d⟩ := tkW _ _ T (by decide) (by decide) (dn_hd hv (by decide)) (by intro h; cases h)
      obtain ⟨e, q, r⟩ := tkD hv _ d (ow_n (by decide) (fun _ => by decide)) (fun h => ow_n (by decide) (fun _ => by decide))
      obtain ⟨s2, u1, u2⟩ := p_ow (N := N) (f := f) (g := g) (k := 2) (v := v) ho r hz
      refine ⟨s2, ?_, u2⟩
      unfold pDoor1
      rw [isW_is a b1 c (by decide), show decide (cdw [116, 111, 108, 108] = 8179) = false by decide +kernel, if_neg (by decide)]
      rw [isW_is a b1 c (by decide), show decide (cdw [116, 111, 108, 108] = 404931) = true by decide +kernel, if_pos rfl]
      unfold pFits
      rw [if_pos e, q, if_pos (by omega), k2]
      exact u1
    · have k0 : kd = 0 := by omega
      refine ⟨ob, _, by unfold lkp; rw [if_neg k1, if_neg k2]; exact oe, ow_n (by decide) (fun _ => by decide), fun h => ow_n (by decide) (fun q => absurd q (on h)), fun s T => ?_⟩
      obtain ⟨s2, u1, u2⟩ := p_ow (N := N) (f := f) (g := g) (k := 0) (v := 0) ho T hz
      refine ⟨s2, ?_, u2⟩
      have w : isW xs s 8179 = false ∧ isW xs s 404931 = false := by
        by_cases e : o = 1
        · rw [if_pos e] at T
          have T : TX xs s ([111, 110, 101, 119, 97, 121] ++ (bl false ++ (59 :: zs))) := T
          obtain ⟨a, b, c, d⟩ := tkW _ _ T (by decide) (by decide) (hd_c (by decide)) (fun _ => hd_c (by decide))
          exact ⟨by rw [isW_is a b c (by decide)]; decide +kernel, by rw [isW_is a b c (by decide)]; decide +kernel⟩
        · rw [if_neg e] at T
          have t := tkS T hz
          exact ⟨isW_no (by omega), isW_no (by omega)⟩
      unfold pDoor1
      rw [w.1, if_neg (by decide), w.2, if_neg (by decide), u1, k0, hv0 k0]
theorem p_door {N : zLv} {fl : Bool} {f g kd v o : Nat} {zs : List Nat} (T : TX xs s (dtx f g kd v o zs)) (hN : NM N) (h6 : N 0 ≤ 6) (hf : f < N 0) (hg : g < N 0) (hne : f ≠ g) (h1 : N 1 < 20) (ho : o ≤ 1) (hk : kd ≤ 2) (hv : v < 100) (hv1 : kd = 1 → v < 8) (hv0 : kd = 0 → v = 0) (hz : ∀ c ∈ zs.head?, btk c ≠ 4) :
    ∃ s2, pStmt xs N fl s = .inr ((nAo N f g kd v o, fl), s2) ∧ TX xs s2 zs := by
  obtain ⟨nb, ys, le, l4, l1, lp⟩ := p_lock (xs := xs) (N := N) (f := f) (g := g) ho hk hv hv1 hv0 hz
  have T : TX xs s ([100, 111, 111, 114] ++ (bl true ++ (114 :: (97 + f) :: (bl true ++ (114 :: (97 + g) :: lkp kd v (owp o (59 :: zs))))))) := T
  obtain ⟨a, b, c, d⟩ := tkW _ _ T (by decide) (by decide) (hd_c (by decide)) (by intro h; cases h)
  have w1 : isW xs s 365647 = false := by rw [isW_is a b c (by decide)]; decide +kernel
  have w2 : isW xs s 90090 = true := by rw [isW_is a b c (by decide)]; decide +kernel
  obtain ⟨n1, n2, n3⟩ := tkR (by omega) true d (hd_c (by decide)) (by intro h; cases h)
  rw [le] at n3
  obtain ⟨m1, m2, m3⟩ := tkR (by omega) nb n3 l4 l1
  obtain ⟨s2, u1, u2⟩ := lp _ m3
  refine ⟨s2, ?_, u2⟩
  unfold pStmt
  rw [w1, if_neg (by decide), w2, if_pos rfl]
  unfold pDoor
  rw [if_neg (by omega), pTold_is hN hf n1 n2]
  show pb (pb (pTold xs N (nxt xs (nxt xs s))) _) _ = _
  rw [pTold_is hN hg m1 m2]
  show pb (if g = f then _ else _) _ = _
  rw [if_neg (fun q => hne q.symm), u1]; rfl
def stx (r : Nat) (zs : List Nat) : List Nat := 115 :: 116 :: 97 :: 114 :: 116 :: 32 :: 114 :: (97 + r) :: 59 :: zs
def etx (r : Nat) (zs : List Nat) : List Nat := 101 :: 110 :: 100 :: 32 :: 114 :: (97 + r) :: 59 :: zs
theorem p_start {N : zLv} {r : Nat} {zs : List Nat} (T : TX xs s (stx r zs)) (hN : NM N) (h6 : N 0 ≤ 6) (hr : r < N 0) (hz : ∀ c ∈ zs.head?, btk c ≠ 4) : ∃ s2, pStmt xs N false s = .inr ((zput N 2 r, true), s2) ∧ TX xs s2 zs := by
  have T : TX xs s ([115, 116, 97, 114, 116] ++ (bl true ++ (114 :: (97 + r) :: (bl false ++ (59 :: zs))))) := T
  obtain ⟨a, b, c, d⟩ := tkW _ _ T (by decide) (by decide) (hd_c (by decide)) (by intro h; cases h)
  have w1 : isW xs s 365647 = false := by rw [isW_is a b c (by decide)]; decide +kernel
  have w2 : isW xs s 90090 = false := by rw [isW_is a b c (by decide)]; decide +kernel
  have w3 : isW xs s 10492274 = true := by rw [isW_is a b c (by decide)]; decide +kernel
  obtain ⟨n1, n2, n3⟩ := tkR (by omega) false d (hd_c (by decide)) (fun _ => hd_c (by decide))
  obtain ⟨s5, e1, e2⟩ := p_semi n3 hz
  refine ⟨s5, ?_, e2⟩
  unfold pStmt
  rw [w1, if_neg (by decide), w2, if_neg (by decide), w3, if_pos rfl]
  unfold pStart
  rw [if_neg (by decide), pTold_is hN hr n1 n2]
  show pb (pb (pSemi xs (nxt xs (nxt xs s))) _) _ = _
  rw [e1]; rfl
theorem p_end {N : zLv} {fl : Bool} {r : Nat} {zs : List Nat} (T : TX xs s (etx r zs)) (hN : NM N) (h6 : N 0 ≤ 6) (hr : r < N 0) (h3 : N 3 = 0) (hz : ∀ c ∈ zs.head?, btk c ≠ 4) : ∃ s2, pStmt xs N fl s = .inr ((zput N 3 (r + 1), fl), s2) ∧ TX xs s2 zs := by
  have T : TX xs s ([101, 110, 100] ++ (bl true ++ (114 :: (97 + r) :: (bl false ++ (59 :: zs))))) := T
  obtain ⟨a, b, c, d⟩ := tkW _ _ T (by decide) (by decide) (hd_c (by decide)) (by intro h; cases h)
  have w1 : isW xs s 365647 = false := by rw [isW_is a b c (by decide)]; decide +kernel
  have w2 : isW xs s 90090 = false := by rw [isW_is a b c (by decide)]; decide +kernel
  have w3 : isW xs s 10492274 = false := by rw [isW_is a b c (by decide)]; decide +kernel
  have w4 : isW xs s 4027 = true := by rw [isW_is a b c (by decide)]; decide +kernel
  obtain ⟨n1, n2, n3⟩ := tkR (by omega) false d (hd_c (by decide)) (fun _ => hd_c (by decide))
  obtain ⟨s5, e1, e2⟩ := p_semi n3 hz
  refine ⟨s5, ?_, e2⟩
  unfold pStmt
  rw [w1, if_neg (by decide), w2, if_neg (by decide), w3, if_neg (by decide), w4, if_pos rfl]
  unfold pEnd
  rw [if_neg (by omega), pTold_is hN hr n1 n2]
  show pb (pb (pSemi xs (nxt xs (nxt xs s))) _) _ = _
  rw [e1]; rfl
end
end ZTX
