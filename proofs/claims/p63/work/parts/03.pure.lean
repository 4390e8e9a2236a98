/-! THE ABSTRACT STEP AND THE MACHINE: what needs neither heap nor words. -/
section ZS
variable {p : Program} {l : Launch} {e : Env} {R : Room} {s : State} {m : MethodId} {args : Array Value} {below : List Frame} {meth : Method} {c : Code} {H : Heap} {locs : List Loc} {cells slots : Nat} {Q : State → Prop}
theorem zb32_inv {f : Int32 → Int32 → Int32} {la la2 : zm_L} {st st2 : List Value} (h : zb32 f la st = some (la2, st2)) : ∃ x y s, st = .int y :: .int x :: s ∧ la2 = la ∧ st2 = .int (f x y) :: s := by
  unfold zb32 at h; split at h
  · cases h; exact ⟨_, _, _, rfl, rfl, rfl⟩
  · cases h
theorem zb64_inv {f : Int64 → Int64 → Int64} {la la2 : zm_L} {st st2 : List Value} (h : zb64 f la st = some (la2, st2)) : ∃ x y s, st = .long y :: .long x :: s ∧ la2 = la ∧ st2 = .long (f x y) :: s := by
  unfold zb64 at h; split at h
  · cases h; exact ⟨_, _, _, rfl, rfl, rfl⟩
  · cases h
theorem zldI_inv {i : Nat} {la la2 : zm_L} {st st2 : List Value} (h : zldI i la st = some (la2, st2)) : ∃ x, la[i]? = some (some (.int x)) ∧ la2 = la ∧ st2 = .int x :: st := by
  unfold zldI at h; split at h
  · rename_i x hx; cases h; exact ⟨x, hx, rfl, rfl⟩
  · cases h
theorem zsoI_inv {i : Nat} {la la2 : zm_L} {st st2 : List Value} (h : zsoI i la st = some (la2, st2)) : ∃ x s, st = .int x :: s ∧ la2 = zst1 i (.int x) la ∧ st2 = s := by
  unfold zsoI at h; split at h
  · cases h; exact ⟨_, _, rfl, rfl, rfl⟩
  · cases h
theorem zldL_inv {i : Nat} {la la2 : zm_L} {st st2 : List Value} (h : zldL i la st = some (la2, st2)) : ∃ x, la[i]? = some (some (.long x)) ∧ la2 = la ∧ st2 = .long x :: st := by
  unfold zldL at h; split at h
  · rename_i x hx; cases h; exact ⟨x, hx, rfl, rfl⟩
  · cases h
theorem zsoL_inv {i : Nat} {la la2 : zm_L} {st st2 : List Value} (h : zsoL i la st = some (la2, st2)) : ∃ x s, st = .long x :: s ∧ la2 = zst2 i (.long x) la ∧ st2 = s := by
  unfold zsoL at h; split at h
  · cases h; exact ⟨_, _, rfl, rfl, rfl⟩
  · cases h
theorem zldD_inv {i : Nat} {la la2 : zm_L} {st st2 : List Value} (h : zldD i la st = some (la2, st2)) : ∃ x, la[i]? = some (some (.double x)) ∧ la2 = la ∧ st2 = .double x :: st := by
  unfold zldD at h; split at h
  · rename_i x hx; cases h; exact ⟨x, hx, rfl, rfl⟩
  · cases h
theorem zsoD_inv {i : Nat} {la la2 : zm_L} {st st2 : List Value} (h : zsoD i la st = some (la2, st2)) : ∃ x s, st = .double x :: s ∧ la2 = zst2 i (.double x) la ∧ st2 = s := by
  unfold zsoD at h; split at h
  · cases h; exact ⟨_, _, rfl, rfl, rfl⟩
  · cases h
theorem zldA_inv {i : Nat} {la la2 : zm_L} {st st2 : List Value} (h : zldA i la st = some (la2, st2)) : ∃ x, la[i]? = some (some (.ref x)) ∧ la2 = la ∧ st2 = .ref x :: st := by
  unfold zldA at h; split at h
  · rename_i x hx; cases h; exact ⟨x, hx, rfl, rfl⟩
  · cases h
theorem zsoA_inv {i : Nat} {la la2 : zm_L} {st st2 : List Value} (h : zsoA i la st = some (la2, st2)) : ∃ x s, st = .ref x :: s ∧ la2 = zst1 i (.ref x) la ∧ st2 = s := by
  unfold zsoA at h; split at h
  · cases h; exact ⟨_, _, rfl, rfl, rfl⟩
  · cases h
set_option maxHeartbeats 4000000 in
theorem zsim_pure {cc : ByteArray} (hx : p.tables.exec = Jvm.exec) (hb : c.code = cc) {i : Instr} {pc n nL : Nat} (hd : decode cc pc = .ok (i, n)) (hn : n = zlen i) {im : Int32} {il : Int64} (hi : zimm i im il = true) {ad : Nat → Nat} {la la2 : zm_L} {st st2 : List Value} {ls : Array Slot} (hl : zLh ad nL la ls) (hlen : ∀ (k : Nat), (i = .istore k ∨ i = .astore k ∨ (∃ z, i = .iinc k z) ∨ (∃ f : Fin 4, f.val = k ∧ (i = .istore_n f ∨ i = .astore_n f)) → k < nL) ∧ ((i = .lstore k ∨ i = .dstore k ∨ ∃ f : Fin 4, f.val = k ∧ (i = .lstore_n f ∨ i = .dstore_n f)) → k + 1 < nL)) (h : zpure i im il la st = some (la2, st2))
    (kk : ∀ ls2 : Array Slot, zLh ad nL la2 ls2 → W p l e R s m args below meth c H locs cells slots Q (F0 m (pc + zlen i) ls2 (st2.map (cv ad)))) : W p l e R s m args below meth c H locs cells slots Q (F0 m pc ls (st.map (cv ad))) := by
  subst hn
  cases i
  case iadd =>
    obtain ⟨x, y, s, rfl, rfl, rfl⟩ := zb32_inv h
    exact lv_iadd hx hb hd (kk _ hl)
  case isub =>
    obtain ⟨x, y, s, rfl, rfl, rfl⟩ := zb32_inv h
    exact lv_isub hx hb hd (kk _ hl)
  case imul =>
    obtain ⟨x, y, s, rfl, rfl, rfl⟩ := zb32_inv h
    exact lv_imul hx hb hd (kk _ hl)
  case iand =>
    obtain ⟨x, y, s, rfl, rfl, rfl⟩ := zb32_inv h
    exact lv_iand hx hb hd (kk _ hl)
  case ior =>
    obtain ⟨x, y, s, rfl, rfl, rfl⟩ := zb32_inv h
    exact lv_ior hx hb hd (kk _ hl)
  case ixor =>
    obtain ⟨x, y, s, rfl, rfl, rfl⟩ := zb32_inv h
    exact lv_ixor hx hb hd (kk _ hl)
  case ishl =>
    obtain ⟨x, y, s, rfl, rfl, rfl⟩ := zb32_inv h
    exact lv_ishl hx hb hd (kk _ hl)
  case ishr =>
    obtain ⟨x, y, s, rfl, rfl, rfl⟩ := zb32_inv h
    exact lv_ishr hx hb hd (kk _ hl)
  case iushr =>
    obtain ⟨x, y, s, rfl, rfl, rfl⟩ := zb32_inv h
    exact lv_iushr hx hb hd rfl (kk _ hl)
  case ladd =>
    obtain ⟨x, y, s, rfl, rfl, rfl⟩ := zb64_inv h
    exact lv_ladd hx hb hd (kk _ hl)
  case lsub =>
    obtain ⟨x, y, s, rfl, rfl, rfl⟩ := zb64_inv h
    exact lv_lsub hx hb hd (kk _ hl)
  case lmul =>
    obtain ⟨x, y, s, rfl, rfl, rfl⟩ := zb64_inv h
    exact lv_lmul hx hb hd (kk _ hl)
  case land =>
    obtain ⟨x, y, s, rfl, rfl, rfl⟩ := zb64_inv h
    exact lv_land hx hb hd (kk _ hl)
  case lor =>
    obtain ⟨x, y, s, rfl, rfl, rfl⟩ := zb64_inv h
    exact lv_lor hx hb hd (kk _ hl)
  case iload k =>
    obtain ⟨x, hv, rfl, rfl⟩ := zldI_inv h
    exact lv_iload hx hb hd (hl.at hv) (kk _ hl)
  case iload_n k =>
    obtain ⟨x, hv, rfl, rfl⟩ := zldI_inv h
    exact lv_iload_n hx hb hd rfl (hl.at hv) (kk _ hl)
  case lload k =>
    obtain ⟨x, hv, rfl, rfl⟩ := zldL_inv h
    exact lv_lload hx hb hd (hl.at hv) (kk _ hl)
  case lload_n k =>
    obtain ⟨x, hv, rfl, rfl⟩ := zldL_inv h
    exact lv_lload_n hx hb hd rfl (hl.at hv) (kk _ hl)
  case dload k =>
    obtain ⟨x, hv, rfl, rfl⟩ := zldD_inv h
    exact lv_dload hx hb hd (hl.at hv) (kk _ hl)
  case dload_n k =>
    obtain ⟨x, hv, rfl, rfl⟩ := zldD_inv h
    exact lv_dload_n hx hb hd rfl (hl.at hv) (kk _ hl)
  case aload k =>
    obtain ⟨x, hv, rfl, rfl⟩ := zldA_inv h
    exact lv_aload hx hb hd (hl.at hv) (kk _ hl)
  case aload_n k =>
    obtain ⟨x, hv, rfl, rfl⟩ := zldA_inv h
    exact lv_aload_n hx hb hd rfl (hl.at hv) (kk _ hl)
  case istore k =>
    obtain ⟨x, s, rfl, rfl, rfl⟩ := zsoI_inv h
    exact lv_istore hx hb hd hl.has ((hlen k).1 (by simp)) rfl (fun ls2 h2 => kk _ (zLh_st1 hl.2.2.1 h2))
  case istore_n k =>
    obtain ⟨x, s, rfl, rfl, rfl⟩ := zsoI_inv h
    exact lv_istore_n hx hb hd rfl hl.has ((hlen k.val).1 (by simp)) rfl (fun ls2 h2 => kk _ (zLh_st1 hl.2.2.1 h2))
  case astore k =>
    obtain ⟨x, s, rfl, rfl, rfl⟩ := zsoA_inv h
    exact lv_astore hx hb hd hl.has ((hlen k).1 (by simp)) rfl (fun ls2 h2 => kk _ (zLh_st1 hl.2.2.1 h2))
  case astore_n k =>
    obtain ⟨x, s, rfl, rfl, rfl⟩ := zsoA_inv h
    exact lv_astore_n hx hb hd rfl hl.has ((hlen k.val).1 (by simp)) rfl (fun ls2 h2 => kk _ (zLh_st1 hl.2.2.1 h2))
  case lstore k =>
    obtain ⟨x, s, rfl, rfl, rfl⟩ := zsoL_inv h
    exact lv_lstore hx hb hd hl.has ((hlen k).2 (by simp)) rfl (fun ls2 h2 => kk _ (zLh_st2 hl.2.2.1 h2))
  case lstore_n k =>
    obtain ⟨x, s, rfl, rfl, rfl⟩ := zsoL_inv h
    exact lv_lstore_n hx hb hd rfl hl.has ((hlen k.val).2 (by simp)) rfl (fun ls2 h2 => kk _ (zLh_st2 hl.2.2.1 h2))
  case dstore k =>
    obtain ⟨x, s, rfl, rfl, rfl⟩ := zsoD_inv h
    exact lv_dstore hx hb hd hl.has ((hlen k).2 (by simp)) rfl (fun ls2 h2 => kk _ (zLh_st2 hl.2.2.1 h2))
  case dstore_n k =>
    obtain ⟨x, s, rfl, rfl, rfl⟩ := zsoD_inv h
    exact lv_dstore_n hx hb hd rfl hl.has ((hlen k.val).2 (by simp)) rfl (fun ls2 h2 => kk _ (zLh_st2 hl.2.2.1 h2))
  case iconst z =>
    simp only [zpure] at h
    cases h
    exact lv_iconst hx hb hd (of_decide_eq_true hi) (kk _ hl)
  case bipush z =>
    simp only [zpure] at h
    cases h
    exact lv_bipush hx hb hd (of_decide_eq_true hi) (kk _ hl)
  case sipush z =>
    simp only [zpure] at h
    cases h
    exact lv_sipush hx hb hd (of_decide_eq_true hi) (kk _ hl)
  case lconst z =>
    simp only [zpure] at h
    cases h
    exact lv_lconst hx hb hd (of_decide_eq_true hi) (kk _ hl)
  case iinc k z =>
    simp only [zpure] at h
    split at h
    · rename_i x hv
      cases h
      obtain ⟨j, hj⟩ := List.getElem?_of_mem (zasc_mem.mpr ⟨_, hv, rfl⟩)
      have hz := of_decide_eq_true hi
      exact lv_iinc (v := x + im) hx hb hd hl.has hj (by rw [hz]) ((hlen k).1 (by simp)) rfl (fun ls2 h2 => kk _ (zLh_st1 hl.2.2.1 h2))
    · cases h
  case lshl =>
    simp only [zpure] at h
    split at h
    · cases h
      exact lv_lshl hx hb hd rfl (kk _ hl)
    · cases h
  case lshr =>
    simp only [zpure] at h
    split at h
    · cases h
      exact lv_lshr hx hb hd rfl (kk _ hl)
    · cases h
  case i2l =>
    simp only [zpure] at h
    split at h
    · cases h
      exact lv_i2l hx hb hd rfl (kk _ hl)
    · cases h
  case l2i =>
    simp only [zpure] at h
    split at h
    · cases h
      exact lv_l2i hx hb hd rfl (kk _ hl)
    · cases h
  case i2b =>
    simp only [zpure] at h
    split at h
    · cases h
      exact lv_i2b hx hb hd rfl (kk _ hl)
    · cases h
  case lcmp =>
    simp only [zpure] at h
    split at h
    · cases h
      exact W.lcmp hx hb hd (kk _ hl)
    · cases h
  case dcmp o =>
    simp only [zpure] at h
    split at h
    · cases h
      exact lv_dcmp hx hb hd (kk _ hl)
    · cases h
  case l2d =>
    simp only [zpure] at h
    split at h
    · cases h
      exact lv_l2d hx hb hd (kk _ hl)
    · cases h
  case i2f =>
    simp only [zpure] at h
    split at h
    · cases h
      exact lv_i2f hx hb hd (kk _ hl)
    · cases h
  case dconst n =>
    simp only [zpure] at h
    split at h
    · cases h
      exact lv_dconst0 hx hb hd (kk _ hl)
    · cases h
  case fconst n =>
    simp only [zpure] at h
    split at h
    · cases h
      exact lv_fconst0 hx hb hd (kk _ hl)
    · cases h
  case dup =>
    simp only [zpure] at h
    split at h
    · cases h
      exact lv_dup hx hb hd rfl (kk _ hl)
    · cases h
      exact lv_dup hx hb hd rfl (kk _ hl)
    · cases h
  case dup2 =>
    simp only [zpure] at h
    split at h
    · cases h
      exact lv_dup2_11 hx hb hd rfl rfl (kk _ hl)
    · cases h
  case dup_x1 =>
    simp only [zpure] at h
    split at h
    · cases h
      exact lv_dup_x1 hx hb hd rfl rfl (kk _ hl)
    · cases h
  case ineg =>
    simp only [zpure] at h
    split at h
    · cases h
      exact lv_ineg hx hb hd (kk _ hl)
    · cases h
  case i2c =>
    simp only [zpure] at h
    split at h
    · cases h
      exact lv_i2c hx hb hd rfl (kk _ hl)
    · cases h
  case aconst_null =>
    simp only [zpure] at h
    cases h
    exact lv_null hx hb hd (kk _ hl)
  case pop =>
    simp only [zpure] at h
    split at h
    · cases h
      exact lv_pop hx hb hd rfl (kk _ hl)
    · cases h
      exact lv_pop hx hb hd rfl (kk _ hl)
    · cases h
  all_goals (exact nomatch h)
end ZS
