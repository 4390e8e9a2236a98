/-! THE CLASS: the walk made a tour. -/
section ZCD
/-- a walk f of len rooms, gone on with from state s0 -/
def nFl (N : zLv) (f : Nat → Nat) (len rank p : Nat) : Nat := if p < len then f p else (nitr N (nsk f len, f (len - 1), rank) (p - len + 1)).2.1
theorem nFl_lo {N : zLv} {f : Nat → Nat} {len rank p : Nat} (h : p < len) : nFl N f len rank p = f p := if_pos h
theorem nFl_it {N : zLv} (hW : WB N) {f : Nat → Nat} {len rank : Nat} (h1 : 1 ≤ len) (hv : nvs N (nsk f len, f (len - 1), rank)) (hpc : npc (nsk f len) (N 0) = len) : ∀ j, len + j ≤ N 0 → (nitr N (nsk f len, f (len - 1), rank) j).1 = nsk (nFl N f len rank) (len + j) ∧ (nitr N (nsk f len, f (len - 1), rank) j).2.1 = nFl N f len rank (len + j - 1) ∧ nvs N (nitr N (nsk f len, f (len - 1), rank) j) ∧ npc (nitr N (nsk f len, f (len - 1), rank) j).1 (N 0) = len + j := by
  intro j
  induction j with
  | zero =>
    intro _
    refine ⟨?_, ?_, hv, hpc⟩
    · exact nsk_cg len (fun i hi => (nFl_lo hi).symm)
    · show f (len - 1) = _
      rw [Nat.add_zero, nFl_lo (by omega)]
  | succ j ih =>
    intro hj
    obtain ⟨a, b, v, p⟩ := ih (by omega)
    have nf : (nitr N (nsk f len, f (len - 1), rank) j).1 ≠ 2 ^ N 0 - 1 := by
      intro e
      rw [e, npc_full] at p
      omega
    obtain ⟨x1, x2, x3, x4, -, -⟩ := nstp_ok hW v nf
    have en : (nitr N (nsk f len, f (len - 1), rank) (j + 1)).2.1 = nFl N f len rank (len + j) := by
      unfold nFl
      rw [if_neg (by omega), show len + j - len + 1 = j + 1 by omega]
    refine ⟨?_, ?_, x1, ?_⟩
    · show (nitr N (nsk f len, f (len - 1), rank) j).1 ||| 2 ^ (nitr N (nsk f len, f (len - 1), rank) (j + 1)).2.1 = nsk (nFl N f len rank) (len + j) ||| 2 ^ nFl N f len rank (len + j)
      rw [a, en]
    · rw [en]; rw [show len + (j + 1) - 1 = len + j by omega]
    · show npc (nstp N (nitr N (nsk f len, f (len - 1), rank) j)).1 (N 0) = _
      rw [x3, p]; omega
theorem nFl_ok {N : zLv} (hW : WB N) {f : Nat → Nat} {len rank : Nat} (h1 : 1 ≤ len) (hf : ∀ i, i < len → f i < N 0) (hs : ∀ k, k + 1 < len → nnx N (nsk f (k + 1)) (f k) (f (k + 1)) = true) (hv : nvs N (nsk f len, f (len - 1), rank)) (hpc : npc (nsk f len) (N 0) = len) :
    (∀ k, k < N 0 → nFl N f len rank k < N 0) ∧ ∀ k, k + 1 < N 0 → nnx N (nsk (nFl N f len rank) (k + 1)) (nFl N f len rank k) (nFl N f len rank (k + 1)) = true := by
  have it := nFl_it hW h1 hv hpc
  refine ⟨fun k hk => ?_, fun k hk => ?_⟩
  · by_cases w : k < len
    · rw [nFl_lo w]; exact hf k w
    · obtain ⟨a, b, v, p⟩ := it (k - len + 1) (by omega)
      rw [show len + (k - len + 1) - 1 = k by omega] at b
      rw [← b]; exact v.2.1
  · by_cases w : k + 1 < len
    · rw [nsk_cg (k + 1) (fun i hi => nFl_lo (by omega)), nFl_lo (by omega), nFl_lo w]
      exact hs k w
    · obtain ⟨a, b, v, p⟩ := it (k + 1 - len) (by omega)
      rw [show len + (k + 1 - len) = k + 1 by omega] at a p
      rw [show len + (k + 1 - len) - 1 = k by omega] at b
      have nf : (nitr N (nsk f len, f (len - 1), rank) (k + 1 - len)).1 ≠ 2 ^ N 0 - 1 := by
        intro e
        rw [e, npc_full] at p
        omega
      obtain ⟨-, x2, -⟩ := nstp_ok hW v nf
      rw [← a, ← b]
      have en : nFl N f len rank (k + 1) = (nstp N (nitr N (nsk f len, f (len - 1), rank) (k + 1 - len))).2.1 := by
        unfold nFl
        rw [if_neg (by omega)]; rfl
      rw [en]; exact x2
/-- the level with the walk w of all rooms -/
def nWl (N : zLv) (w : Nat → Nat) : zLv := fun i => if i = 4 then N 0 else if 5 ≤ i ∧ i < 5 + N 0 then w (i - 5) else N i
theorem nWl_at {N : zLv} {w : Nat → Nat} {k : Nat} (hk : k < N 0) : nWl N w (5 + k) = w k := by
  unfold nWl
  rw [if_neg (by omega), if_pos (by omega), show 5 + k - 5 = k by omega]
theorem nWl_lo {N : zLv} {w : Nat → Nat} {i : Nat} (h0 : N 0 ≤ 11) (h : i < 4 ∨ 16 ≤ i) : nWl N w i = N i := by
  unfold nWl
  rw [if_neg (by omega), if_neg (by omega)]
theorem nWl_4 {N : zLv} {w : Nat → Nat} : nWl N w 4 = N 0 := if_pos rfl
theorem WF_nWl {N : zLv} {w : Nat → Nat} (hF : WF N) (h0 : w 0 = N 2) (hw : ∀ k, k < N 0 → w k < N 0) (hs : ∀ k, k + 1 < N 0 → nnx N (nsk w (k + 1)) (w k) (w (k + 1)) = true) : WF (nWl N w) := by
  have w0 := hF.1.1
  have n1 := hF.2.1
  refine WF_walk hF (fun i hi => ?_) (by rw [nWl_4]; exact n1) (by rw [nWl_4]; exact Nat.le_refl _) (fun k hk => ?_) (fun k hk => ?_)
  · rcases hi with h | h | h
    · exact nWl_lo w0 (Or.inl h)
    · subst h
      have := nWl_at (w := w) (show 0 < N 0 by omega)
      rw [show (5 + 0 : Nat) = 5 from rfl] at this
      rw [this, h0]; exact hF.2.2.2.2.2.2.1.symm
    · exact nWl_lo w0 (Or.inr h)
  · rw [nWl_4] at hk
    rw [nWl_at hk]; exact hw k hk
  · rw [nWl_4] at hk
    have e : ∀ i, i < N 0 → nwk (nWl N w) i = w i := fun i hi => nWl_at hi
    rw [nsk_cg (k + 1) (fun i hi => e i (by omega)), e k (by omega), e (k + 1) hk]
    exact hs k hk
theorem KL_nWl {h g : zm_H} {N : zLv} {w : Nat → Nat} {f : Nat → Int32} (hL : KL h L5 N) (h0 : N 0 ≤ 11) (hg : g = zsI (zrI h (L5 + 9) f) L5 13 (nI (N 0))) (hf : ∀ k, k < N 0 → f k = nI (w k)) : KL g L5 (nWl N w) := by
  have fr : zFr (fun c => c = L5 ∨ c = L5 + 9) h g := by rw [hg]; exact (zFr.rI (Or.inr rfl)).tr (zFr.sI (Or.inl rfl))
  have e0 : ∀ j, j ≠ 13 → zI g L5 j = zI h L5 j := by
    intro j hj
    rw [hg, I_sIs, zput_ne _ _ hj, I_rIn (by omega)]
  have x : ∀ i, i < 4 ∨ 16 ≤ i → nWl N w i = N i := fun i hi => nWl_lo h0 hi
  obtain ⟨l0, l1, l2, l3, l4, ln, lk, lc, lf, lt, ld, lb, lo, lw⟩ := hL
  have jn : zJ g (L5 + 1) = zJ h (L5 + 1) := fr.J (by omega)
  have i2 : zI g (L5 + 2) = zI h (L5 + 2) := fr.I (by omega)
  have i3 : zI g (L5 + 3) = zI h (L5 + 3) := fr.I (by omega)
  have i4 : zI g (L5 + 4) = zI h (L5 + 4) := fr.I (by omega)
  have i5 : zI g (L5 + 5) = zI h (L5 + 5) := fr.I (by omega)
  have i6 : zI g (L5 + 6) = zI h (L5 + 6) := fr.I (by omega)
  have i7 : zI g (L5 + 7) = zI h (L5 + 7) := fr.I (by omega)
  have i8 : zI g (L5 + 8) = zI h (L5 + 8) := fr.I (by omega)
  refine ⟨?_, ?_, ?_, ?_, ?_, ?_, ?_, ?_, ?_, ?_, ?_, ?_, ?_, ?_⟩
  · rw [e0 0 (by omega), x 0 (by omega)]; exact l0
  · rw [e0 4 (by omega), x 1 (by omega)]; exact l1
  · rw [e0 10 (by omega), x 2 (by omega)]; exact l2
  · rw [e0 11 (by omega), x 3 (by omega)]; exact l3
  · rw [nWl_4, hg, I_sIs, zput_self]
  · rw [x 0 (by omega), jn]; intro r hr; rw [x _ (by omega)]; exact ln r hr
  · rw [x 0 (by omega), i2]; intro r hr; rw [x _ (by omega)]; exact lk r hr
  · rw [x 0 (by omega), i3]; intro r hr; rw [x _ (by omega)]; exact lc r hr
  · rw [x 1 (by omega), i4]; intro r hr; rw [x _ (by omega)]; exact lf r hr
  · rw [x 1 (by omega), i5]; intro r hr; rw [x _ (by omega)]; exact lt r hr
  · rw [x 1 (by omega), i6]; intro r hr; rw [x _ (by omega)]; exact ld r hr
  · rw [x 1 (by omega), i7]; intro r hr; rw [x _ (by omega)]; exact lb r hr
  · rw [x 1 (by omega), i8]; intro r hr; rw [x _ (by omega)]; exact lo r hr
  · rw [nWl_4]
    intro k hk
    rw [nWl_at hk, hg, I_sIn (by omega), I_rIs]; exact hf k hk
end ZCD

