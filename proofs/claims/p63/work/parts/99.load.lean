/-! THE LAW'S LEVEL: its text built, told, read. -/
section ZLD
/-- runs with cut loops -/
def zTJ (env : List (zm_M × zm_S)) (rows : List zm_R) (J : Nat → Option Nat) (k : Nat) (t : zm_T) (R : zm_O → Prop) : Prop := ∃ o, zRJ env zsc0 rows J k t o ∧ R o
def zQJ (env : List (zm_M × zm_S)) (rows : List zm_R) (J : Nat → Option Nat) (k : Nat) (R : zm_O → Prop) : Option (zm_T ⊕ zm_O) → Prop
  | none => False
  | some (.inl t) => (J t.1 = none ∧ zTJ env rows J k t R) ∨ ∃ k2 hd, k = k2 + 1 ∧ J t.1 = some hd ∧ zTJ env rows J k2 (hd, t.2) R
  | some (.inr o) => R o
section
variable {env : List (zm_M × zm_S)} {rows : List zm_R} {J : Nat → Option Nat} {k : Nat} {R : zm_O → Prop}
theorem zTJ_of {t : zm_T} {x : Option (zm_T ⊕ zm_O)} (e : zE env zsc0 rows t = x) (h : zQJ env rows J k R x) : zTJ env rows J k t R := by
  match x, h with
  | some (.inl t2), h =>
    rcases h with ⟨j, o, h1, h2⟩ | ⟨k2, hd, rfl, j, o, h1, h2⟩
    · exact ⟨o, zRJ.head e j h1, h2⟩
    · exact ⟨o, zRJ.back e j h1, h2⟩
  | some (.inr o), h => exact ⟨o, zRJ.done e, h⟩
theorem zQJ_l {t : zm_T} (j : J t.1 = none) (h : zTJ env rows J k t R) : zQJ env rows J k R (some (.inl t)) := Or.inl ⟨j, h⟩
theorem zQJ_b {t : zm_T} {hd : Nat} (j : J t.1 = some hd) (h : zTJ env rows J k (hd, t.2) R) : zQJ env rows J (k + 1) R (some (.inl t)) := Or.inr ⟨k, hd, rfl, j, h⟩
theorem zQJ_r {o : zm_O} (h : R o) : zQJ env rows J k R (some (.inr o)) := h
end
/-- given texts -/
def kn (k : Nat) : List Nat := [[114, 111, 111, 109, 32, 114], [32, 107, 101, 121, 32], [32, 99, 111, 105, 110, 115, 32], [59], [100, 111, 111, 114, 32, 114], [32, 114], [32, 116, 111, 108, 108, 32], [32, 111, 110, 101, 119, 97, 121], [115, 116, 97, 114, 116, 32, 114], [101, 110, 100, 32, 114]].getD k []
theorem kn_kb : ∀ k, k < 10 → (kn k).map nI = kb k := by decide +kernel
theorem dn_dg (n : Nat) : (dn n).map nI = dg n := by unfold dn dg; split <;> rfl
/-- a builder whose text is T but for ys at the end -/
def BX (h : zm_H) (b : Nat) (T : List Int32) (ys : List Nat) : Prop := ∃ A, SB h b A ∧ A ++ ys.map nI = T ∧ T.length ≤ 479
section
variable {h : zm_H} {b : Nat} {T : List Int32} {ys : List Nat}
theorem BX.K (B : BX h b T ys) : zK h b = (12, 4) := by
  obtain ⟨A, ⟨⟨q, cap, S⟩, -⟩, -⟩ := B
  exact S.1
theorem BX.len {w : List Nat} {A : List Int32} (e : A ++ (w ++ ys).map nI = T) (l : T.length ≤ 479) : A.length + w.length + ys.length ≤ 479 := by
  have := congrArg List.length e
  rw [List.length_append, List.length_map, List.length_append] at this
  omega
theorem x_str {k : Nat} (hk : k < 10) (B : BX h b T (kn k ++ ys)) : ∃ g, sJ4_append_15ec4 [.ref b, .ref (1000000 + k)] h = some (.inl (some (.ref b)), g) ∧ zUp h g ∧ BX g b T ys := by
  obtain ⟨A, S, e, l⟩ := B
  have L := BX.len e l
  have e2 := kn_kb k hk
  have e3 := congrArg List.length e2
  rw [List.length_map] at e3
  obtain ⟨g, s, u, S2⟩ := b_str S hk (by omega)
  refine ⟨g, s, u, A ++ kb k, S2, ?_, l⟩
  rw [← e2, ← e, List.map_append, List.append_assoc]
theorem x_chr {v : Nat} (hv : v < 128) (B : BX h b T (v :: ys)) : ∃ g, sJ4_append_cf468 [.ref b, .int (nI v)] h = some (.inl (some (.ref b)), g) ∧ zUp h g ∧ BX g b T ys := by
  obtain ⟨A, S, e, l⟩ := B
  have L := BX.len (w := [v]) e l
  obtain ⟨g, s, u, S2⟩ := b_chr S hv (by have : [v].length = 1 := rfl; omega)
  refine ⟨g, s, u, A ++ [nI v], S2, ?_, l⟩
  rw [← e, List.append_assoc]; rfl
theorem x_num {n : Nat} (hn : n < 100) (B : BX h b T (dn n ++ ys)) : ∃ g, sJ4_append_bf812 [.ref b, .int (nI n)] h = some (.inl (some (.ref b)), g) ∧ zUp h g ∧ BX g b T ys := by
  obtain ⟨A, S, e, l⟩ := B
  have L := BX.len e l
  have w : 1 ≤ (dn n).length := by unfold dn; split <;> simp
  obtain ⟨g, s, u, S2⟩ := b_num S hn (by omega)
  refine ⟨g, s, u, A ++ dg n, S2, ?_, l⟩
  rw [← dn_dg, ← e, List.map_append, List.append_assoc]
end
-- what is drawn
section
variable (sc : Nat × (Nat → Int32)) (n : Nat)
def lKo (r : Nat) : Option Nat := if dwN sc (1 + r) 2 = 0 then some (dwN sc (7 + r) 4) else none
def lCo (r : Nat) : Option Nat := if dwN sc (13 + r) 2 = 0 then some (dwN sc (19 + r) 20) else none
def lKd (d : Nat) : Nat := if dwN sc (50 + d) 5 = 1 then 1 else if dwN sc (50 + d) 5 = 2 then 2 else 0
def lVd (d : Nat) : Nat := if dwN sc (50 + d) 5 = 1 then dwN sc (62 + d) 4 else if dwN sc (50 + d) 5 = 2 then dwN sc (62 + d) 30 else 0
def lOw (d : Nat) : Nat := if dwN sc (74 + d) 4 = 0 then 1 else 0
def lFr (d : Nat) : Nat := dwN sc (26 + d) n
def lTo (d : Nat) : Nat := dwN sc (38 + d) n
def RTX : Nat → Nat → List Nat → List Nat
  | 0, _, zs => zs
  | m + 1, r, zs => rtx r (lKo sc r) (lCo sc r) (RTX m (r + 1) zs)
def DTX : Nat → Nat → List Nat → List Nat
  | 0, _, zs => zs
  | m + 1, d, zs => if lFr sc n d = lTo sc n d then DTX m (d + 1) zs else dtx (lFr sc n d) (lTo sc n d) (lKd sc d) (lVd sc d) (lOw sc d) (DTX m (d + 1) zs)
def lCt : Nat → Nat → Nat
  | 0, _ => 0
  | m + 1, d => (if lFr sc n d = lTo sc n d then 0 else 1) + lCt m (d + 1)
def ETX : List Nat := if dwN sc 88 4 = 0 then etx (dwN sc 89 n) [] else []
def STX : List Nat := if dwN sc 86 3 = 0 then stx (dwN sc 87 n) (ETX sc n) else ETX sc n
def lMy : Nat := if n = 1 then 0 else dwN sc 25 12
def LTX : List Nat := RTX sc n 0 (DTX sc n (lMy sc n) 0 (STX sc n))
end
section
variable {sc : Nat × (Nat → Int32)} {n : Nat}
theorem lKo_lt {r v : Nat} (h : lKo sc r = some v) : v < 4 := by
  unfold lKo at h
  split at h
  · injection h with h; rw [← h]; exact dwN_lt (by omega)
  · cases h
theorem lCo_lt {r v : Nat} (h : lCo sc r = some v) : v < 20 := by
  unfold lCo at h
  split at h
  · injection h with h; rw [← h]; exact dwN_lt (by omega)
  · cases h
theorem lVd_lt (d : Nat) : lVd sc d < 30 ∧ (lKd sc d = 1 → lVd sc d < 4) ∧ (lKd sc d = 0 → lVd sc d = 0) ∧ lKd sc d ≤ 2 ∧ lOw sc d ≤ 1 := by
  have a := dwN_lt (sc := sc) (k := 62 + d) (n := 4) (by omega)
  have b := dwN_lt (sc := sc) (k := 62 + d) (n := 30) (by omega)
  unfold lVd lKd lOw
  by_cases e1 : dwN sc (50 + d) 5 = 1
  · rw [if_pos e1, if_pos e1]; refine ⟨by omega, fun _ => a, fun h => by omega, by omega, ?_⟩; split <;> omega
  · rw [if_neg e1, if_neg e1]
    by_cases e2 : dwN sc (50 + d) 5 = 2
    · rw [if_pos e2, if_pos e2]; refine ⟨b, fun h => by omega, fun h => by omega, by omega, ?_⟩; split <;> omega
    · rw [if_neg e2, if_neg e2]; refine ⟨by omega, fun h => by omega, fun h => rfl, by omega, ?_⟩; split <;> omega
-- lengths
theorem dn_len (v : Nat) : (dn v).length ≤ 2 := by unfold dn; split <;> simp
theorem rtx_len (r : Nat) (zs : List Nat) : (rtx r (lKo sc r) (lCo sc r) zs).length ≤ 24 + zs.length := by
  unfold rtx kp cp
  cases lKo sc r with
  | none =>
    cases lCo sc r with
    | none => simp only [List.length_cons]; omega
    | some v => simp only [List.length_cons, List.length_append]; have := dn_len v; omega
  | some u =>
    cases lCo sc r with
    | none => simp only [List.length_cons, List.length_append]; have := dn_len u; omega
    | some v => simp only [List.length_cons, List.length_append]; have := dn_len v; have := dn_len u; omega
theorem dtx_len (f g kd v o : Nat) (zs : List Nat) : (dtx f g kd v o zs).length ≤ 26 + zs.length := by
  have ow : (owp o (59 :: zs)).length ≤ 8 + zs.length := by
    unfold owp
    split
    · simp only [List.length_cons]; omega
    · simp only [List.length_cons]; omega
  unfold dtx lkp
  have := dn_len v
  split
  · simp only [List.length_cons, List.length_append]; omega
  · split
    · simp only [List.length_cons, List.length_append]; omega
    · simp only [List.length_cons]; omega
theorem RTX_len : ∀ m r zs, (RTX sc m r zs).length ≤ 24 * m + zs.length := by
  intro m
  induction m with
  | zero => intro r zs; show zs.length ≤ _; omega
  | succ m ih =>
    intro r zs
    have := rtx_len (sc := sc) r (RTX sc m (r + 1) zs)
    have := ih (r + 1) zs
    show (rtx r (lKo sc r) (lCo sc r) (RTX sc m (r + 1) zs)).length ≤ _
    omega
theorem DTX_len : ∀ m d zs, (DTX sc n m d zs).length ≤ 26 * m + zs.length := by
  intro m
  induction m with
  | zero => intro r zs; show zs.length ≤ _; omega
  | succ m ih =>
    intro d zs
    have := ih (d + 1) zs
    unfold DTX
    split
    · omega
    · have := dtx_len (lFr sc n d) (lTo sc n d) (lKd sc d) (lVd sc d) (lOw sc d) (DTX sc n m (d + 1) zs)
      omega
theorem lMy_lt : lMy sc n ≤ 11 := by
  unfold lMy
  split
  · omega
  · have := dwN_lt (sc := sc) (k := 25) (n := 12) (by omega); omega
theorem LTX_len (h6 : n ≤ 6) : (LTX sc n).length ≤ 479 := by
  have e : (ETX sc n).length ≤ 7 := by
    unfold ETX etx
    split
    · simp only [List.length_cons, List.length_nil]; omega
    · simp
  have s : (STX sc n).length ≤ 16 := by
    unfold STX stx
    split
    · simp only [List.length_cons]; omega
    · omega
  have d := DTX_len (sc := sc) (n := n) (lMy sc n) 0 (STX sc n)
  have r := RTX_len (sc := sc) n 0 (DTX sc n (lMy sc n) 0 (STX sc n))
  have := lMy_lt (sc := sc) (n := n)
  unfold LTX
  omega
-- all below 128
theorem dn_128 {v : Nat} (hv : v < 100) : ∀ y ∈ dn v, y < 128 := by
  intro y hy
  unfold dn at hy
  split at hy
  · simp at hy; omega
  · simp at hy; omega
def L128 (zs : List Nat) : Prop := ∀ y ∈ zs, y < 128
theorem L_c {c : Nat} {zs : List Nat} (h : c < 128) (z : L128 zs) : L128 (c :: zs) := by
  intro y hy
  rcases List.mem_cons.mp hy with hy | hy
  · rw [hy]; exact h
  · exact z y hy
theorem L_d {v : Nat} {zs : List Nat} (h : v < 100) (z : L128 zs) : L128 (dn v ++ zs) := by
  intro y hy
  rcases List.mem_append.mp hy with hy | hy
  · exact dn_128 h y hy
  · exact z y hy
theorem L_p {w zs : List Nat} (h : ∀ y ∈ w, y < 128) (z : L128 zs) : L128 (w ++ zs) := by
  intro y hy
  rcases List.mem_append.mp hy with hy | hy
  · exact h y hy
  · exact z y hy
theorem L_kp {ko : Option Nat} {zs : List Nat} (h : ∀ v, ko = some v → v < 100) (z : L128 zs) : L128 (kp ko zs) := by
  cases ko with
  | none => exact z
  | some v => exact L_p (w := [32, 107, 101, 121, 32]) (by decide) (L_d (h v rfl) z)
theorem L_cp {ko : Option Nat} {zs : List Nat} (h : ∀ v, ko = some v → v < 100) (z : L128 zs) : L128 (cp ko zs) := by
  cases ko with
  | none => exact z
  | some v => exact L_p (w := [32, 99, 111, 105, 110, 115, 32]) (by decide) (L_d (h v rfl) z)
theorem L_rtx {r : Nat} {zs : List Nat} (h : r < 6) (z : L128 zs) : L128 (rtx r (lKo sc r) (lCo sc r) zs) :=
  L_p (w := [114, 111, 111, 109, 32, 114]) (by decide) (L_c (by omega) (L_kp (fun v hv => by have := lKo_lt hv; omega) (L_cp (fun v hv => by have := lCo_lt hv; omega) (L_c (by omega) z))))
theorem L_dtx {f g kd v o : Nat} {zs : List Nat} (hf : f < 6) (hg : g < 6) (hv : v < 100) (z : L128 zs) : L128 (dtx f g kd v o zs) := by
  have ow : L128 (owp o (59 :: zs)) := by
    unfold owp
    split
    · exact L_p (w := [32, 111, 110, 101, 119, 97, 121, 59]) (by decide) z
    · exact L_c (by omega) z
  have lk : L128 (lkp kd v (owp o (59 :: zs))) := by
    unfold lkp
    split
    · exact L_p (w := [32, 107, 101, 121, 32]) (by decide) (L_d hv ow)
    · split
      · exact L_p (w := [32, 116, 111, 108, 108, 32]) (by decide) (L_d hv ow)
      · exact ow
  exact L_p (w := [100, 111, 111, 114, 32, 114]) (by decide) (L_c (by omega) (L_p (w := [32, 114]) (by decide) (L_c (by omega) lk)))
theorem L_RTX : ∀ m r zs, r + m ≤ 6 → L128 zs → L128 (RTX sc m r zs) := by
  intro m
  induction m with
  | zero => intro r zs _ z; exact z
  | succ m ih => intro r zs h z; exact L_rtx (by omega) (ih (r + 1) zs (by omega) z)
theorem L_DTX (hn : 0 < n) (h6 : n ≤ 6) : ∀ m d zs, L128 zs → L128 (DTX sc n m d zs) := by
  intro m
  induction m with
  | zero => intro r zs z; exact z
  | succ m ih =>
    intro d zs z
    unfold DTX
    split
    · exact ih (d + 1) zs z
    · have := dwN_lt (sc := sc) (k := 26 + d) hn
      have := dwN_lt (sc := sc) (k := 38 + d) hn
      have := (lVd_lt (sc := sc) d).1
      exact L_dtx (by unfold lFr; omega) (by unfold lTo; omega) (by omega) (ih (d + 1) zs z)
theorem L_ETX (hn : 0 < n) (h6 : n ≤ 6) : L128 (ETX sc n) := by
  unfold ETX
  have := dwN_lt (sc := sc) (k := 89) hn
  split
  · exact L_p (w := [101, 110, 100, 32, 114]) (by decide) (L_c (by omega) (L_c (by omega) (fun y hy => absurd hy List.not_mem_nil)))
  · exact fun y hy => absurd hy List.not_mem_nil
theorem L_STX (hn : 0 < n) (h6 : n ≤ 6) : L128 (STX sc n) := by
  unfold STX
  have := dwN_lt (sc := sc) (k := 87) hn
  split
  · exact L_p (w := [115, 116, 97, 114, 116, 32, 114]) (by decide) (L_c (by omega) (L_c (by omega) (L_ETX hn h6)))
  · exact L_ETX hn h6
theorem L_LTX (hn : 0 < n) (h6 : n ≤ 6) : L128 (LTX sc n) := L_RTX n 0 _ (by omega) (L_DTX hn h6 _ _ _ (L_STX hn h6))
-- no blank first
theorem h_ETX : ∀ c ∈ (ETX sc n).head?, btk c ≠ 4 := by
  unfold ETX
  split
  · exact hd_c (by decide)
  · intro c hc; cases hc
theorem h_STX : ∀ c ∈ (STX sc n).head?, btk c ≠ 4 := by
  unfold STX
  split
  · exact hd_c (by decide)
  · exact h_ETX
theorem h_DTX : ∀ m d zs, (∀ c ∈ zs.head?, btk c ≠ 4) → ∀ c ∈ (DTX sc n m d zs).head?, btk c ≠ 4 := by
  intro m
  induction m with
  | zero => intro d zs z; exact z
  | succ m ih =>
    intro d zs z
    unfold DTX
    split
    · exact ih (d + 1) zs z
    · exact hd_c (by decide)
theorem h_RTX : ∀ m r zs, (∀ c ∈ zs.head?, btk c ≠ 4) → ∀ c ∈ (RTX sc m r zs).head?, btk c ≠ 4 := by
  intro m r zs z
  cases m with
  | zero => exact z
  | succ m => exact hd_c (by decide)
-- the text read
def pGo (xs : List Int32) (f : Nat) (N : zLv) (fl : Bool) (s : Nat) (zs : List Nat) : PR zLv := if zs = [] then .inr N else pAll xs f N fl s
theorem p_step {xs : List Int32} {f : Nat} {N N2 : zLv} {fl fl2 : Bool} {s s2 : Nat} {zs : List Nat} (e : pStmt xs N fl s = .inr ((N2, fl2), s2)) (T : TX xs s2 zs) : pAll xs (f + 1) N fl s = pGo xs f N2 fl2 s2 zs := by
  rw [pAll, e]
  show (if ty xs s2 = 0 then _ else _) = _
  unfold pGo
  cases zs with
  | nil => rw [if_pos (TX_e T), if_pos rfl]
  | cons c zs =>
    have := (TX_h T).1
    have := btk_le c
    rw [if_neg (by omega), if_neg (by simp)]
theorem p_ne {xs : List Int32} {f : Nat} {N : zLv} {fl : Bool} {s : Nat} {zs : List Nat} (h : zs ≠ []) : pGo xs f N fl s zs = pAll xs f N fl s := if_neg h
def LV (N : zLv) (n d : Nat) : Prop := N 0 = n ∧ N 1 = d ∧ N 4 = 1 ∧ NM N
theorem p_rooms {xs : List Int32} {fl : Bool} {zs : List Nat} (hz : ∀ c ∈ zs.head?, btk c ≠ 4) (f : Nat) : ∀ m r N s, r + m ≤ 6 → LV N r 0 → TX xs s (RTX sc m r zs) →
    ∃ N2 s2, pGo xs (f + m) N fl s (RTX sc m r zs) = pGo xs f N2 fl s2 zs ∧ TX xs s2 zs ∧ LV N2 (r + m) 0 ∧ N2 2 = N 2 ∧ N2 3 = N 3 := by
  intro m
  induction m with
  | zero => intro r N s _ hN T; exact ⟨N, s, rfl, T, hN, rfl, rfl⟩
  | succ m ih =>
    intro r N s h6 hN T
    obtain ⟨N0, N1, N4, nm⟩ := hN
    obtain ⟨s2, e, T2⟩ := p_room (fl := fl) (N := N) (r := r) T nm N0.symm (by omega) (fun v hv => by have := lKo_lt hv; omega) (fun v hv => by have := lCo_lt hv; omega) (h_RTX m (r + 1) zs hz)
    obtain ⟨M, hM⟩ : ∃ M, M = nRa N (487 + r) (kv (lKo sc r)) ((lCo sc r).getD 0) := ⟨_, rfl⟩
    rw [← hM] at e
    have m0 : M 0 = r + 1 := by
      rw [hM]; unfold nRa
      rw [zput_ne _ _ (by omega), zput_ne _ _ (by omega), zput_ne _ _ (by omega), zput_self, N0]
    have mo : ∀ i, i ≠ 0 → i < 16 → M i = N i := by
      intro i h1 h2
      rw [hM]; unfold nRa
      rw [zput_ne _ _ (by omega), zput_ne _ _ (by omega), zput_ne _ _ (by omega), zput_ne _ _ (by omega)]
    have mn : NM M := by
      intro j hj
      rw [m0] at hj
      rw [hM]; unfold nRa
      by_cases w : j = N 0
      · rw [w, zput_self, N0]
      · rw [zput_ne _ _ (by omega), zput_ne _ _ (by omega), zput_ne _ _ (by omega), zput_ne _ _ (by omega)]
        exact nm j (by omega)
    obtain ⟨N2, s3, e3, T3, l3, k2, k3⟩ := ih (r + 1) M s2 (by omega) ⟨m0, by rw [mo 1 (by omega) (by omega)]; exact N1, by rw [mo 4 (by omega) (by omega)]; exact N4, mn⟩ T2
    refine ⟨N2, s3, ?_, T3, by rw [show r + (m + 1) = r + 1 + m by omega]; exact l3, by rw [k2, mo 2 (by omega) (by omega)], by rw [k3, mo 3 (by omega) (by omega)]⟩
    rw [← e3, p_ne (by show rtx _ _ _ _ ≠ []; unfold rtx; simp)]
    rw [show f + (m + 1) = f + m + 1 from rfl]
    exact p_step e T2
theorem p_doors {xs : List Int32} {fl : Bool} {zs : List Nat} (hz : ∀ c ∈ zs.head?, btk c ≠ 4) (h0 : 0 < n) (h6 : n ≤ 6) (f : Nat) : ∀ m d N s k, k + m ≤ 12 → LV N n k → TX xs s (DTX sc n m d zs) →
    ∃ g N2 s2, g ≤ m ∧ (∀ f, pGo xs (f + g) N fl s (DTX sc n m d zs) = pGo xs f N2 fl s2 zs) ∧ TX xs s2 zs ∧ LV N2 n (k + lCt sc n m d) ∧ N2 2 = N 2 ∧ N2 3 = N 3 := by
  intro m
  induction m with
  | zero => intro d N s k _ hN T; exact ⟨0, N, s, Nat.le_refl _, fun _ => rfl, T, hN, rfl, rfl⟩
  | succ m ih =>
    intro d N s k h12 hN T
    by_cases w : lFr sc n d = lTo sc n d
    · have e1 : DTX sc n (m + 1) d zs = DTX sc n m (d + 1) zs := by rw [DTX, if_pos w]
      have e2 : lCt sc n (m + 1) d = lCt sc n m (d + 1) := by rw [lCt, if_pos w, Nat.zero_add]
      rw [e1] at T
      rw [e1, e2]
      obtain ⟨g, N2, s2, hg, q⟩ := ih (d + 1) N s k (by omega) hN T
      exact ⟨g, N2, s2, by omega, q⟩
    · have e1 : DTX sc n (m + 1) d zs = dtx (lFr sc n d) (lTo sc n d) (lKd sc d) (lVd sc d) (lOw sc d) (DTX sc n m (d + 1) zs) := by rw [DTX, if_neg w]
      have e2 : lCt sc n (m + 1) d = 1 + lCt sc n m (d + 1) := by rw [lCt, if_neg w]
      rw [e1] at T
      obtain ⟨N0, N1, N4, nm⟩ := hN
      obtain ⟨v1, v2, v3, v4, v5⟩ := lVd_lt (sc := sc) d
      have w1 := dwN_lt (sc := sc) (k := 26 + d) h0
      have w2 := dwN_lt (sc := sc) (k := 38 + d) h0
      obtain ⟨s2, e, T2⟩ := p_door (fl := fl) (N := N) T nm (by omega) (by rw [N0]; exact w1) (by rw [N0]; exact w2) w (by omega) v5 v4 (by omega) (fun q => by have := v2 q; omega) v3 (h_DTX m (d + 1) zs hz)
      obtain ⟨M, hM⟩ : ∃ M, M = nAo N (lFr sc n d) (lTo sc n d) (lKd sc d) (lVd sc d) (lOw sc d) := ⟨_, rfl⟩
      rw [← hM] at e
      have m1 : M 1 = k + 1 := by
        rw [hM]; unfold nAo
        rw [zput_ne _ _ (by omega), zput_ne _ _ (by omega), zput_ne _ _ (by omega), zput_ne _ _ (by omega), zput_ne _ _ (by omega), zput_self, N1]
      have mo : ∀ i, i ≠ 1 → i < 49 → M i = N i := by
        intro i h1 h2
        rw [hM]; unfold nAo
        rw [zput_ne _ _ (by omega), zput_ne _ _ (by omega), zput_ne _ _ (by omega), zput_ne _ _ (by omega), zput_ne _ _ (by omega), zput_ne _ _ (by omega)]
      have m0 : M 0 = n := by rw [mo 0 (by omega) (by omega)]; exact N0
      have mn : NM M := by
        intro j hj
        rw [m0] at hj
        rw [mo _ (by omega) (by omega)]
        exact nm j (by omega)
      obtain ⟨g, N2, s3, hg, e3, T3, l3, k2, k3⟩ := ih (d + 1) M s2 (k + 1) (by omega) ⟨m0, m1, by rw [mo 4 (by omega) (by omega)]; exact N4, mn⟩ T2
      refine ⟨g + 1, N2, s3, by omega, fun f => ?_, T3, by rw [e2, show k + (1 + lCt sc n m (d + 1)) = k + 1 + lCt sc n m (d + 1) by omega]; exact l3, by rw [k2, mo 2 (by omega) (by omega)], by rw [k3, mo 3 (by omega) (by omega)]⟩
      rw [e1, ← e3 f, p_ne (by unfold dtx; simp)]
      rw [show f + (g + 1) = f + g + 1 from rfl]
      exact p_step e T2
theorem p_last {xs : List Int32} {fl : Bool} (h0 : 0 < n) (h6 : n ≤ 6) {N : zLv} {d s f : Nat} (hN : LV N n d) (h3 : N 3 = 0) (T : TX xs s (ETX sc n)) : ∃ N2, pGo xs (f + 1) N fl s (ETX sc n) = .inr N2 ∧ LV N2 n d ∧ N2 2 = N 2 ∧ N2 3 = if dwN sc 88 4 = 0 then dwN sc 89 n + 1 else 0 := by
  by_cases w : dwN sc 88 4 = 0
  · have e1 : ETX sc n = etx (dwN sc 89 n) [] := by unfold ETX; rw [if_pos w]
    rw [e1] at T ⊢
    obtain ⟨N0, N1, N4, nm⟩ := hN
    obtain ⟨s2, e, T2⟩ := p_end (fl := fl) (N := N) T nm (by omega) (by rw [N0]; exact dwN_lt h0) h3 (by intro c hc; cases hc)
    refine ⟨zput N 3 (dwN sc 89 n + 1), ?_, ⟨by rw [zput_ne _ _ (by omega)]; exact N0, by rw [zput_ne _ _ (by omega)]; exact N1, by rw [zput_ne _ _ (by omega)]; exact N4, fun j hj => ?_⟩, by rw [zput_ne _ _ (by omega)], by rw [zput_self, if_pos w]⟩
    · rw [p_ne (by unfold etx; simp), p_step e T2]; exact if_pos rfl
    · rw [zput_ne _ _ (by omega)] at hj
      rw [zput_ne _ _ (by omega)]; exact nm j hj
  · have e1 : ETX sc n = [] := by unfold ETX; rw [if_neg w]
    rw [e1]
    exact ⟨N, if_pos rfl, hN, rfl, by rw [if_neg w]; exact h3⟩
theorem p_two {xs : List Int32} (h0 : 0 < n) (h6 : n ≤ 6) {N : zLv} {d s f : Nat} (hN : LV N n d) (h2 : N 2 = 0) (h3 : N 3 = 0) (T : TX xs s (STX sc n)) : ∃ N2, pGo xs (f + 2) N false s (STX sc n) = .inr N2 ∧ LV N2 n d ∧ (N2 2 = if dwN sc 86 3 = 0 then dwN sc 87 n else 0) ∧ N2 3 = if dwN sc 88 4 = 0 then dwN sc 89 n + 1 else 0 := by
  by_cases w : dwN sc 86 3 = 0
  · have e1 : STX sc n = stx (dwN sc 87 n) (ETX sc n) := by unfold STX; rw [if_pos w]
    rw [e1] at T ⊢
    obtain ⟨N0, N1, N4, nm⟩ := hN
    obtain ⟨s2, e, T2⟩ := p_start (N := N) T nm (by omega) (by rw [N0]; exact dwN_lt h0) h_ETX
    obtain ⟨N2, e2, l2, k2, k3⟩ := p_last (xs := xs) (fl := true) (f := f) h0 h6 (N := zput N 2 (dwN sc 87 n)) (d := d) ⟨by rw [zput_ne _ _ (by omega)]; exact N0, by rw [zput_ne _ _ (by omega)]; exact N1, by rw [zput_ne _ _ (by omega)]; exact N4, fun j hj => by
      rw [zput_ne _ _ (by omega)] at hj
      rw [zput_ne _ _ (by omega)]; exact nm j hj⟩ (by rw [zput_ne _ _ (by omega)]; exact h3) T2
    refine ⟨N2, ?_, l2, by rw [k2, zput_self, if_pos w], k3⟩
    rw [p_ne (by unfold stx; simp), show f + 2 = f + 1 + 1 from rfl, p_step e T2]
    exact e2
  · have e1 : STX sc n = ETX sc n := by unfold STX; rw [if_neg w]
    rw [e1] at T ⊢
    obtain ⟨N2, e2, l2, k2, k3⟩ := p_last (xs := xs) (fl := false) (f := f + 1) h0 h6 hN h3 T
    exact ⟨N2, e2, l2, by rw [k2, if_neg w]; exact h2, k3⟩
theorem p_text (h0 : 0 < n) (h6 : n ≤ 6) : ∃ M, pLoad ((LTX sc n).map nI) = .inr M ∧ LV M n (lCt sc n (lMy sc n) 0) ∧ (M 2 = if dwN sc 86 3 = 0 then dwN sc 87 n else 0) ∧ M 3 = if dwN sc 88 4 = 0 then dwN sc 89 n + 1 else 0 := by
  obtain ⟨xs, hx⟩ : ∃ xs, xs = (LTX sc n).map nI := ⟨_, rfl⟩
  have T : TX xs 0 (LTX sc n) := ⟨by rw [hx]; rfl, L_LTX h0 h6, Nat.zero_le _⟩
  have my := lMy_lt (sc := sc) (n := n)
  have s0 : skp xs 0 = 0 := by
    obtain ⟨m, rfl⟩ : ∃ m, n = m + 1 := ⟨n - 1, by omega⟩
    have T : TX xs 0 (114 :: _) := T
    exact skp_n (by rw [(TX_h T).1]; decide)
  have l0 : LV N00 0 0 := ⟨rfl, rfl, rfl, fun r hr => absurd hr (by show ¬ r < 0; omega)⟩
  obtain ⟨N2, s2, e2, T2, l2, a2, a3⟩ := p_rooms (sc := sc) (xs := xs) (fl := false) (zs := DTX sc n (lMy sc n) 0 (STX sc n)) (h_DTX _ _ _ h_STX) (500 - n) n 0 N00 0 (by omega) l0 T
  rw [Nat.zero_add] at l2
  obtain ⟨g, N3, s3, hg, e3, T3, l3, b2, b3⟩ := p_doors (sc := sc) (xs := xs) (fl := false) (zs := STX sc n) h_STX h0 h6 0 (lMy sc n) 0 N2 s2 0 (by omega) l2 T2
  rw [Nat.zero_add] at l3
  obtain ⟨N4, e4, l4, c2, c3⟩ := p_two (sc := sc) (xs := xs) (f := 500 - n - g - 2) h0 h6 l3 (by rw [b2, a2]; rfl) (by rw [b3, a3]; rfl) T3
  refine ⟨N4, ?_, l4, c2, c3⟩
  rw [← hx]
  unfold pLoad
  rw [s0]
  have e5 := e3 (500 - n - g - 2 + 2)
  rw [e4, show 500 - n - g - 2 + 2 + g = 500 - n by omega] at e5
  rw [e5, show 500 - n + n = 500 by omega] at e2
  rw [← e2]
  refine (p_ne ?_).symm
  obtain ⟨m, rfl⟩ : ∃ m, n = m + 1 := ⟨n - 1, by omega⟩
  show rtx _ _ _ _ ≠ []
  unfold rtx; simp
end
end ZLD
