/-! SUMS OVER PLACES, ENDS, PAIRS; WHAT A WALK IS. -/
section ZFA
theorem zsu_sh (G : Nat → Nat) : ∀ n, zsu G (n + 1) = G 0 + zsu (fun i => G (i + 1)) n := by
  intro n
  induction n with
  | zero => show 0 + G 0 = G 0 + 0; omega
  | succ n ih => rw [zsu_s, ih, zsu_s, Nat.add_assoc]
theorem nSum_all {N : zLv} {F : Nat → Nat} (h0 : F 0 = 0) : nSum N F = zsu F (2 ^ N 0) := by
  have : 2 ^ N 0 = (2 ^ N 0 - 1) + 1 := by have := Nat.one_le_two_pow (n := N 0); omega
  rw [this, zsu_sh, h0, Nat.zero_add]; rfl
theorem npc_hi {S n : Nat} (hS : S < 2 ^ n) : ∀ m, n ≤ m → npc S m = npc S n := by
  intro m h
  obtain ⟨d, rfl⟩ : ∃ d, m = n + d := ⟨m - n, by omega⟩
  clear h
  induction d with
  | zero => rfl
  | succ d ih =>
    show npc S (n + d) + (if S.testBit (n + d) then 1 else 0) = _
    rw [ih, tb_big hS (Nat.le_add_right n d)]; rfl
theorem npc_1 {S r n : Nat} (hr : r < n) (h : S.testBit r = true) : npc S n = npc (S ^^^ 2 ^ r) n + 1 := by
  have := npc_or (S := S ^^^ 2 ^ r) (b := r) n hr (x_self h)
  rw [xor_or h] at this; exact this
theorem npc_pos {S k n : Nat} (hk : k < n) (h : S.testBit k = true) : 0 < npc S n := zsu_pos hk (by rw [if_pos h]; omega)
section
variable {N : zLv}
theorem WF.two (hF : WF N) : (2 ^ N 2).testBit (N 2) = true := one_bit _
theorem nWW_0 (hF : WF N) (r : Nat) : nWW N (2 ^ N 2) (N 2) 0 r = 0 := nW_low 0 r (Nat.two_pow_pos _)
theorem ends_sum (hF : WF N) : zsu (fun r => if nme N r = true then nTt N r else 0) (N 0) = nTo N := by
  have h := flow (nx := nnx N) (ba := nba N) (n := N 0) (S0 := 2 ^ N 2) (a0 := N 2) (nnx_ok hF.1) hF.bit.1 hF.2.2.1
  rw [zsu_one (2 ^ N 0) (2 ^ N 0 - 1) (by have := Nat.one_le_two_pow (n := N 0); omega) (fun i hi hne => zsu_0 _ (fun a ha => by unfold nba; rw [if_neg (fun q => hne q.1), Nat.mul_zero]))] at h
  show _ = nT (nnx N) (nba N) (N 0) (2 ^ N 2) (N 2)
  rw [← h]
  refine zsu_congr _ (fun a ha => ?_)
  unfold nba
  by_cases w : nme N a = true
  · rw [if_pos w, if_pos ⟨rfl, w⟩, Nat.mul_one]; rfl
  · rw [if_neg w, if_neg (fun q => w q.2), Nat.mul_zero]
theorem nba_0 (N : zLv) : ∀ S a, S < 2 ^ N 0 → S ≠ 2 ^ N 0 - 1 → nba N S a = 0 := fun S a _ h => if_neg (fun q => h q.1)
theorem place_all (hF : WF N) {r : Nat} (hr : r < N 0) : zsu (fun S => nWW N (2 ^ N 2) (N 2) S r * nTT N S r) (2 ^ N 0) = nTo N := by
  have h := flow2 (nx := nnx N) (ba := nba N) (n := N 0) (a0 := N 2) (r := r) (q := r) (nnx_ok hF.1) (nba_0 N) hF.2.2.1 hr hr
  show _ = nT (nnx N) (nba N) (N 0) (2 ^ N 2) (N 2)
  rw [← h]
  refine zsu_congr _ (fun S hS => ?_)
  unfold fbef
  rw [if_neg (fun q => q.1 rfl), if_pos rfl, Nat.add_zero]; rfl
theorem place_sum (hF : WF N) {r : Nat} (hr : r < N 0) : zsu (nAt N r) (N 0) = nTo N := by
  rw [← place_all hF hr]
  have n11 := hF.1.1
  have e : ∀ p, nAt N r p = zsu (fun S => if npc S 11 = p + 1 then nWW N (2 ^ N 2) (N 2) S r * nTT N S r else 0) (2 ^ N 0) := by
    intro p
    refine nSum_all ?_
    show (if npc 0 11 = p + 1 then _ else _) = 0
    rw [nWW_0 hF, Nat.zero_mul, ite_self]
  rw [zsu_congr (N 0) (fun p _ => e p), zsu_comm]
  refine zsu_congr _ (fun S hS => ?_)
  by_cases w : 0 < nWW N (2 ^ N 2) (N 2) S r
  · have b := nW_bit hF.two w
    have p1 := npc_hi hS 11 n11
    have p2 := npc_le S (N 0)
    have p3 := npc_pos hr b
    rw [zsu_one (N 0) (npc S 11 - 1) (by omega) (fun i hi hne => if_neg (by omega)), if_pos (by omega)]
  · rw [show nWW N (2 ^ N 2) (N 2) S r = 0 by omega, Nat.zero_mul]
    exact zsu_0 _ (fun i hi => ite_self 0)
theorem place_0 (hF : WF N) {r : Nat} (hr : r < N 0) : nAt N r 0 = if r = N 2 then nTo N else 0 := by
  have n11 := hF.1.1
  have e : nAt N r 0 = zsu (fun S => if npc S 11 = 0 + 1 then nWW N (2 ^ N 2) (N 2) S r * nTT N S r else 0) (2 ^ N 0) := by
    refine nSum_all ?_
    show (if npc 0 11 = 0 + 1 then _ else _) = 0
    rw [nWW_0 hF, Nat.zero_mul, ite_self]
  rw [e]
  by_cases w : r = N 2
  · rw [if_pos w, zsu_one (2 ^ N 0) (2 ^ N 2) hF.bit.1 (fun S hS hne => ?_)]
    · have z : npc 0 11 = 0 := by decide
      have := npc_or (S := 0) (b := N 2) 11 (by have := hF.2.2.1; omega) (Nat.zero_testBit _)
      rw [Nat.zero_or, z] at this
      rw [if_pos this, w]
      show nW (nnx N) (N 0) (2 ^ N 2) (N 2) (2 ^ N 2) (N 2) * _ = _
      rw [nW_start, if_pos rfl, Nat.one_mul]; rfl
    · by_cases c : npc S 11 = 0 + 1
      · rw [if_pos c]
        by_cases p : 0 < nWW N (2 ^ N 2) (N 2) S r
        · have b := nW_bit hF.two p
          have q := npc_1 (n := 11) (by omega) b
          have z : S ^^^ 2 ^ r = 0 := by
            refine nat_ext (fun i => ?_)
            rw [Nat.zero_testBit]
            cases t : (S ^^^ 2 ^ r).testBit i with
            | false => rfl
            | true =>
              by_cases i11 : i < 11
              · have := npc_pos i11 t; omega
              · have hS2 : S < 2 ^ 11 := Nat.lt_of_lt_of_le hS (Nat.pow_le_pow_right (by omega) n11)
                rw [x_bit (by omega), tb_big hS2 (by omega)] at t; cases t
          have : S = 2 ^ r := by
            have := xor_or b
            rw [z, Nat.zero_or] at this; exact this.symm
          rw [w] at this
          exact absurd this hne
        · rw [show nWW N (2 ^ N 2) (N 2) S r = 0 by omega, Nat.zero_mul]
      · rw [if_neg c]
  · rw [if_neg w]
    refine zsu_0 _ (fun S hS => ?_)
    by_cases c : npc S 11 = 0 + 1
    · rw [if_pos c]
      by_cases p : 0 < nWW N (2 ^ N 2) (N 2) S r
      · have b := nW_bit hF.two p
        have b2 := nW_sub S r p (N 2) hF.two
        have q := npc_1 (n := 11) (by omega) b
        have := npc_pos (n := 11) (by have := hF.2.2.1; omega) (show (S ^^^ 2 ^ r).testBit (N 2) = true by rw [x_bit w]; exact b2)
        omega
      · rw [show nWW N (2 ^ N 2) (N 2) S r = 0 by omega, Nat.zero_mul]
    · rw [if_neg c]
theorem ahead_sum (hF : WF N) {r q : Nat} (hr : r < N 0) (hq : q < N 0) (hne : r ≠ q) : nAh N r q + nAh N q r = nTo N := by
  have h := flow2 (nx := nnx N) (ba := nba N) (n := N 0) (a0 := N 2) (r := r) (q := q) (nnx_ok hF.1) (nba_0 N) hF.2.2.1 hr hq
  show _ = nT (nnx N) (nba N) (N 0) (2 ^ N 2) (N 2)
  rw [← h, zsu_add]
  have e : ∀ x y, x ≠ y → nAh N x y = zsu (fun S => fbef (nnx N) (nba N) (N 0) (2 ^ N 2) (N 2) x y S) (2 ^ N 0) := by
    intro x y hxy
    unfold nAh
    rw [nSum_all (by
      show (if (0 : Nat).testBit y then 0 else _) = 0
      rw [nWW_0 hF, Nat.zero_mul, ite_self])]
    refine zsu_congr _ (fun S hS => ?_)
    unfold fbef
    by_cases w : S.testBit y = true
    · rw [if_pos w, if_pos ⟨hxy, w⟩]
    · rw [if_neg w, if_neg (fun q => w q.2)]; rfl
  rw [e r q hne, e q r (fun x => hne x.symm)]
  congr 1
  refine zsu_congr _ (fun S hS => ?_)
  rw [if_neg hne]
-- the walk
theorem nset_full (hF : WF N) (h : nset N = 2 ^ N 0 - 1) : N 4 = N 0 := by
  have h4 := hF.2.2.2.2.1
  have := hF.pc (N 4 - 1) (by omega)
  rw [show N 4 - 1 + 1 = N 4 by omega, ← nset_nsk, h, npc_full] at this
  omega
theorem co_sum (hF : WF N) (h : N 4 ≠ N 0) : nCo N = zsu (nCb N) (N 0) := by
  unfold nCo
  rw [nTT_eq hF.1 hF.nset_lt]
  unfold nba
  rw [if_neg (fun q => h (nset_full hF q.1)), Nat.zero_add]; rfl
theorem nsk_s (f : Nat → Nat) (k : Nat) : nsk f (k + 1) = nsk f k ||| 2 ^ f k := rfl
theorem wk_new (hF : WF N) {k : Nat} (hk : k < N 4) : (nsk (nwk N) k).testBit (nwk N k) = false := by
  cases k with
  | zero => exact Nat.zero_testBit _
  | succ k =>
    have := hF.2.2.2.2.2.2.2.1 k hk
    unfold nnx at this
    rw [Bool.and_eq_true] at this
    simpa using this.2
theorem wk_ld (hF : WF N) {k : Nat} (hk : k + 1 < N 4) : (nld N (nsk (nwk N) (k + 1)) (nwk N k)).testBit (nwk N (k + 1)) = true := by
  have := hF.2.2.2.2.2.2.2.1 k hk
  unfold nnx at this
  rw [Bool.and_eq_true] at this
  exact this.1
theorem wk_ne (hF : WF N) {j k : Nat} (hj : j < k) (hk : k < N 4) : nwk N j ≠ nwk N k := by
  intro e
  have := wk_new hF hk
  rw [nsk_bit, ← e] at this
  rw [nany_iff.mpr ⟨j, hj, by simp⟩] at this
  cases this
theorem wk_pl (hF : WF N) {k : Nat} (hk : k < N 4) : nplace N (nwk N k) (N 4) = some k := by
  cases e : nplace N (nwk N k) (N 4) with
  | none => exact absurd rfl (nplace_none.mp e k hk)
  | some j =>
    obtain ⟨a, b, c⟩ := nplace_some e
    by_cases w : j = k
    · rw [w]
    · rcases Nat.lt_or_gt_of_ne w with w | w
      · exact absurd b (wk_ne hF w hk)
      · exact absurd b.symm (wk_ne hF w a)
theorem set_pl (N : zLv) (r : Nat) : (nset N).testBit r = (nplace N r (N 4)).isSome := by
  rw [nset_nsk, nsk_bit]
  cases e : nplace N r (N 4) with
  | none =>
    have := nplace_none.mp e
    show _ = false
    cases t : nany (fun i => decide (nwk N i = r)) (N 4) with
    | false => rfl
    | true =>
      obtain ⟨k, hk, q⟩ := nany_iff.mp t
      exact absurd (of_decide_eq_true q) (this k hk)
  | some j =>
    obtain ⟨a, b, c⟩ := nplace_some e
    exact nany_iff.mpr ⟨j, a, decide_eq_true b⟩
theorem nany_sw (p q : Nat → Bool) (n : Nat) : nany (fun d => p d && q d) n = nany (fun d => q d && p d) n := by
  congr 1; funext d; exact Bool.and_comm ..
theorem why_1 (N : zLv) (r : Nat) : (nWhy N r = 1) = ((nset N).testBit r = true) := by
  rw [set_pl]
  unfold nWhy
  by_cases w : (nplace N r (N 4)).isSome = true
  · rw [if_pos w]; simp [w]
  · rw [if_neg w]
    refine propext ⟨fun e => ?_, fun e => absurd e w⟩
    split at e
    · omega
    · split at e
      · omega
      · split at e <;> omega
theorem why_0 (N : zLv) (r : Nat) : (nWhy N r = 0) = (nnx N (nset N) (N (4 + N 4)) r = true) := by
  have b : (nld N (nset N) (N (4 + N 4))).testBit r = nany (fun d => ndgo N d (N (4 + N 4)) r && nopen N d (nkeys N (nset N)) (ncoins N (nset N))) (N 1) := by
    unfold nld; rw [nld_bit, nany_sw]
  unfold nnx
  rw [b, set_pl]
  unfold nWhy
  by_cases w : (nplace N r (N 4)).isSome = true
  · rw [if_pos w, w]
    refine propext ⟨fun e => by omega, fun e => by simp at e⟩
  · rw [if_neg w]
    have w2 : (nplace N r (N 4)).isSome = false := by simpa using w
    rw [w2]
    by_cases v : nany (fun d => ndgo N d (N (4 + N 4)) r && nopen N d (nkeys N (nset N)) (ncoins N (nset N))) (N 1) = true
    · rw [if_pos v, v]; simp
    · rw [if_neg v]
      refine propext ⟨fun e => ?_, fun e => ?_⟩
      · split at e
        · omega
        · split at e <;> omega
      · simp at e; exact absurd e (by simpa using v)
theorem wr_pos (hF : WF N) : (0 ≤ nWr N) = (0 < nTo N) := by
  have up : ∀ k, k < N 4 → nWp N k = true → 0 < nTo N := by
    intro k
    induction k with
    | zero =>
      intro _ h
      unfold nWp at h
      have h := of_decide_eq_true h
      have e1 : nsk (nwk N) (0 + 1) = 2 ^ N 2 := by
        show 0 ||| 2 ^ nwk N 0 = _
        rw [Nat.zero_or]
        show 2 ^ N (5 + 0) = _
        rw [show 5 + 0 = 5 from rfl, hF.2.2.2.2.2.2.1]
      have e2 : nwk N 0 = N 2 := hF.2.2.2.2.2.2.1
      rw [e1, e2] at h; exact h
    | succ k ih =>
      intro hk h
      refine ih (by omega) ?_
      unfold nWp at h ⊢
      have h := of_decide_eq_true h
      refine decide_eq_true ?_
      rw [nTT_eq hF.1 (hF.set_lt (show k + 1 ≤ N 4 by omega))]
      have : 0 < zsu (ncn N (nsk (nwk N) (k + 1)) (nwk N k)) (N 0) := by
        refine zsu_pos (k := nwk N (k + 1)) (hF.wk hk) ?_
        unfold ncn
        rw [if_pos (hF.2.2.2.2.2.2.2.1 k hk)]
        exact h
      omega
  have dn : 0 < nTo N → nWp N 0 = true := by
    intro h
    unfold nWp
    refine decide_eq_true ?_
    have e1 : nsk (nwk N) (0 + 1) = 2 ^ N 2 := by
      show 0 ||| 2 ^ nwk N 0 = _
      rw [Nat.zero_or]
      show 2 ^ N (5 + 0) = _
      rw [show 5 + 0 = 5 from rfl, hF.2.2.2.2.2.2.1]
    have e2 : nwk N 0 = N 2 := hF.2.2.2.2.2.2.1
    rw [e1, e2]; exact h
  have h4 := hF.2.2.2.2.1
  have h5 := hF.2.2.2.2.2.1
  have h11 := hF.1.1
  have lst : ∀ (p : Nat → Bool) (n : Nat), match nlst p n with | none => ∀ j, j < n → p j = false | some k => k < n ∧ p k = true := by
    intro p n
    induction n with
    | zero => exact fun j hj => by omega
    | succ n ih =>
      unfold nlst
      by_cases w : p n = true
      · rw [if_pos w]; exact ⟨by omega, w⟩
      · rw [if_neg w]
        cases e : nlst p n with
        | none =>
          rw [e] at ih
          intro j hj
          by_cases f : j = n
          · subst f; simpa using w
          · exact ih j (by omega)
        | some k =>
          rw [e] at ih
          exact ⟨by omega, ih.2⟩
  have l := lst (nWp N) (N 4)
  unfold nWr
  cases e : nlst (nWp N) (N 4) with
  | none =>
    rw [e] at l
    have : ¬ 0 < nTo N := fun q => by have := dn q; rw [l 0 (by omega)] at this; cases this
    refine propext ⟨fun q => absurd q ?_, fun q => absurd q this⟩
    first | decide | (show ¬ (0 : Int32) ≤ -1; decide)
  | some k =>
    rw [e] at l
    exact propext ⟨fun _ => up k l.1 l.2, fun _ => nI_pos' (by omega)⟩
end
end ZFA
