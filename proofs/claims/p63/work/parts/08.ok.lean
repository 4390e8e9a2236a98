/-! WHAT A METHOD'S ROWS MUST KEEP TO; WHAT STAYS TRUE OF THE START; CONTRACTS. -/
section ZQ
theorem zokL_set {n : Nat} {la : zm_L} {i : Nat} {v : Option Value} (h : zokL n la) (hv : ∀ w, v = some w → zokV n w) : zokL n (la.set i v) := by
  intro w hw
  rcases List.mem_or_eq_of_mem_set hw with h1 | h1
  · exact h w h1
  · exact hv w h1.symm
theorem zokL_clr {n : Nat} {la : zm_L} {i : Nat} (h : zokL n la) : zokL n (zclr i la) := by
  cases i with
  | zero => exact h
  | succ i =>
    show zokL n (zclr1 i la)
    unfold zclr1
    split
    · split
      · exact zokL_set h (fun w hw => by cases hw)
      · exact h
    · exact h
theorem zokL_st1 {n : Nat} {la : zm_L} {i : Nat} {v : Value} (h : zokL n la) (hv : zokV n v) : zokL n (zst1 i v la) := zokL_set (zokL_clr h) (fun w hw => by cases hw; exact hv)
theorem zokL_st2 {n : Nat} {la : zm_L} {i : Nat} {v : Value} (h : zokL n la) (hv : zokV n v) : zokL n (zst2 i v la) := zokL_set (zokL_set (zokL_clr h) (fun w hw => by cases hw)) (fun w hw => by cases hw; exact hv)
theorem zokL_kill {n : Nat} (ks : List Nat) : ∀ {la : zm_L}, zokL n la → zokL n (zkill ks la) := by
  induction ks with
  | nil => intro la h; exact h
  | cons k ks ih => intro la h; exact ih (la := la.set k none) (zokL_set h (fun w hw => by cases hw))
theorem zokS_cons {n : Nat} {v : Value} {st : List Value} : zokS n (v :: st) ↔ zokV n v ∧ zokS n st := by simp [zokS]
theorem zokS_nil {n : Nat} : zokS n [] := fun v hv => by cases hv
theorem zokL_at {n : Nat} {la : zm_L} {i : Nat} {v : Value} (h : zokL n la) (hv : la[i]? = some (some v)) : zokV n v := h v (List.mem_of_getElem? hv)
set_option maxHeartbeats 2000000 in
theorem zpure_ok {i : Instr} {im : Int32} {il : Int64} {la la2 : zm_L} {st st2 : List Value} {n : Nat} (h : zpure i im il la st = some (la2, st2)) (hL : zokL n la) (hS : zokS n st) : zokL n la2 ∧ zokS n st2 := by
  cases i
  case iadd =>
    obtain ⟨x, y, s, rfl, rfl, rfl⟩ := zb32_inv h
    exact ⟨hL, zokS_cons.mpr ⟨trivial, (zokS_cons.mp (zokS_cons.mp hS).2).2⟩⟩
  case isub =>
    obtain ⟨x, y, s, rfl, rfl, rfl⟩ := zb32_inv h
    exact ⟨hL, zokS_cons.mpr ⟨trivial, (zokS_cons.mp (zokS_cons.mp hS).2).2⟩⟩
  case imul =>
    obtain ⟨x, y, s, rfl, rfl, rfl⟩ := zb32_inv h
    exact ⟨hL, zokS_cons.mpr ⟨trivial, (zokS_cons.mp (zokS_cons.mp hS).2).2⟩⟩
  case iand =>
    obtain ⟨x, y, s, rfl, rfl, rfl⟩ := zb32_inv h
    exact ⟨hL, zokS_cons.mpr ⟨trivial, (zokS_cons.mp (zokS_cons.mp hS).2).2⟩⟩
  case ior =>
    obtain ⟨x, y, s, rfl, rfl, rfl⟩ := zb32_inv h
    exact ⟨hL, zokS_cons.mpr ⟨trivial, (zokS_cons.mp (zokS_cons.mp hS).2).2⟩⟩
  case ixor =>
    obtain ⟨x, y, s, rfl, rfl, rfl⟩ := zb32_inv h
    exact ⟨hL, zokS_cons.mpr ⟨trivial, (zokS_cons.mp (zokS_cons.mp hS).2).2⟩⟩
  case ishl =>
    obtain ⟨x, y, s, rfl, rfl, rfl⟩ := zb32_inv h
    exact ⟨hL, zokS_cons.mpr ⟨trivial, (zokS_cons.mp (zokS_cons.mp hS).2).2⟩⟩
  case ishr =>
    obtain ⟨x, y, s, rfl, rfl, rfl⟩ := zb32_inv h
    exact ⟨hL, zokS_cons.mpr ⟨trivial, (zokS_cons.mp (zokS_cons.mp hS).2).2⟩⟩
  case iushr =>
    obtain ⟨x, y, s, rfl, rfl, rfl⟩ := zb32_inv h
    exact ⟨hL, zokS_cons.mpr ⟨trivial, (zokS_cons.mp (zokS_cons.mp hS).2).2⟩⟩
  case ladd =>
    obtain ⟨x, y, s, rfl, rfl, rfl⟩ := zb64_inv h
    exact ⟨hL, zokS_cons.mpr ⟨trivial, (zokS_cons.mp (zokS_cons.mp hS).2).2⟩⟩
  case lsub =>
    obtain ⟨x, y, s, rfl, rfl, rfl⟩ := zb64_inv h
    exact ⟨hL, zokS_cons.mpr ⟨trivial, (zokS_cons.mp (zokS_cons.mp hS).2).2⟩⟩
  case lmul =>
    obtain ⟨x, y, s, rfl, rfl, rfl⟩ := zb64_inv h
    exact ⟨hL, zokS_cons.mpr ⟨trivial, (zokS_cons.mp (zokS_cons.mp hS).2).2⟩⟩
  case land =>
    obtain ⟨x, y, s, rfl, rfl, rfl⟩ := zb64_inv h
    exact ⟨hL, zokS_cons.mpr ⟨trivial, (zokS_cons.mp (zokS_cons.mp hS).2).2⟩⟩
  case lor =>
    obtain ⟨x, y, s, rfl, rfl, rfl⟩ := zb64_inv h
    exact ⟨hL, zokS_cons.mpr ⟨trivial, (zokS_cons.mp (zokS_cons.mp hS).2).2⟩⟩
  case iload k =>
    obtain ⟨x, hv, rfl, rfl⟩ := zldI_inv h
    exact ⟨hL, zokS_cons.mpr ⟨zokL_at hL hv, hS⟩⟩
  case iload_n k =>
    obtain ⟨x, hv, rfl, rfl⟩ := zldI_inv h
    exact ⟨hL, zokS_cons.mpr ⟨zokL_at hL hv, hS⟩⟩
  case lload k =>
    obtain ⟨x, hv, rfl, rfl⟩ := zldL_inv h
    exact ⟨hL, zokS_cons.mpr ⟨zokL_at hL hv, hS⟩⟩
  case lload_n k =>
    obtain ⟨x, hv, rfl, rfl⟩ := zldL_inv h
    exact ⟨hL, zokS_cons.mpr ⟨zokL_at hL hv, hS⟩⟩
  case dload k =>
    obtain ⟨x, hv, rfl, rfl⟩ := zldD_inv h
    exact ⟨hL, zokS_cons.mpr ⟨zokL_at hL hv, hS⟩⟩
  case dload_n k =>
    obtain ⟨x, hv, rfl, rfl⟩ := zldD_inv h
    exact ⟨hL, zokS_cons.mpr ⟨zokL_at hL hv, hS⟩⟩
  case aload k =>
    obtain ⟨x, hv, rfl, rfl⟩ := zldA_inv h
    exact ⟨hL, zokS_cons.mpr ⟨zokL_at hL hv, hS⟩⟩
  case aload_n k =>
    obtain ⟨x, hv, rfl, rfl⟩ := zldA_inv h
    exact ⟨hL, zokS_cons.mpr ⟨zokL_at hL hv, hS⟩⟩
  case istore k =>
    obtain ⟨x, s, rfl, rfl, rfl⟩ := zsoI_inv h
    exact ⟨zokL_st1 hL (zokS_cons.mp hS).1, (zokS_cons.mp hS).2⟩
  case istore_n k =>
    obtain ⟨x, s, rfl, rfl, rfl⟩ := zsoI_inv h
    exact ⟨zokL_st1 hL (zokS_cons.mp hS).1, (zokS_cons.mp hS).2⟩
  case astore k =>
    obtain ⟨x, s, rfl, rfl, rfl⟩ := zsoA_inv h
    exact ⟨zokL_st1 hL (zokS_cons.mp hS).1, (zokS_cons.mp hS).2⟩
  case astore_n k =>
    obtain ⟨x, s, rfl, rfl, rfl⟩ := zsoA_inv h
    exact ⟨zokL_st1 hL (zokS_cons.mp hS).1, (zokS_cons.mp hS).2⟩
  case lstore k =>
    obtain ⟨x, s, rfl, rfl, rfl⟩ := zsoL_inv h
    exact ⟨zokL_st2 hL (zokS_cons.mp hS).1, (zokS_cons.mp hS).2⟩
  case lstore_n k =>
    obtain ⟨x, s, rfl, rfl, rfl⟩ := zsoL_inv h
    exact ⟨zokL_st2 hL (zokS_cons.mp hS).1, (zokS_cons.mp hS).2⟩
  case dstore k =>
    obtain ⟨x, s, rfl, rfl, rfl⟩ := zsoD_inv h
    exact ⟨zokL_st2 hL (zokS_cons.mp hS).1, (zokS_cons.mp hS).2⟩
  case dstore_n k =>
    obtain ⟨x, s, rfl, rfl, rfl⟩ := zsoD_inv h
    exact ⟨zokL_st2 hL (zokS_cons.mp hS).1, (zokS_cons.mp hS).2⟩
  case iconst z =>
    simp only [zpure] at h
    cases h
    exact ⟨hL, zokS_cons.mpr ⟨trivial, hS⟩⟩
  case bipush z =>
    simp only [zpure] at h
    cases h
    exact ⟨hL, zokS_cons.mpr ⟨trivial, hS⟩⟩
  case sipush z =>
    simp only [zpure] at h
    cases h
    exact ⟨hL, zokS_cons.mpr ⟨trivial, hS⟩⟩
  case lconst z =>
    simp only [zpure] at h
    cases h
    exact ⟨hL, zokS_cons.mpr ⟨trivial, hS⟩⟩
  case iinc k z =>
    simp only [zpure] at h
    split at h
    · cases h; exact ⟨zokL_st1 hL trivial, hS⟩
    · cases h
  case lshl =>
    simp only [zpure] at h
    split at h
    · cases h; exact ⟨hL, zokS_cons.mpr ⟨trivial, (zokS_cons.mp (zokS_cons.mp hS).2).2⟩⟩
    · cases h
  case lshr =>
    simp only [zpure] at h
    split at h
    · cases h; exact ⟨hL, zokS_cons.mpr ⟨trivial, (zokS_cons.mp (zokS_cons.mp hS).2).2⟩⟩
    · cases h
  case lcmp =>
    simp only [zpure] at h
    split at h
    · cases h; exact ⟨hL, zokS_cons.mpr ⟨trivial, (zokS_cons.mp (zokS_cons.mp hS).2).2⟩⟩
    · cases h
  case dcmp o =>
    simp only [zpure] at h
    split at h
    · cases h; exact ⟨hL, zokS_cons.mpr ⟨trivial, (zokS_cons.mp (zokS_cons.mp hS).2).2⟩⟩
    · cases h
  case i2l =>
    simp only [zpure] at h
    split at h
    · cases h; exact ⟨hL, zokS_cons.mpr ⟨trivial, (zokS_cons.mp hS).2⟩⟩
    · cases h
  case l2i =>
    simp only [zpure] at h
    split at h
    · cases h; exact ⟨hL, zokS_cons.mpr ⟨trivial, (zokS_cons.mp hS).2⟩⟩
    · cases h
  case i2b =>
    simp only [zpure] at h
    split at h
    · cases h; exact ⟨hL, zokS_cons.mpr ⟨trivial, (zokS_cons.mp hS).2⟩⟩
    · cases h
  case l2d =>
    simp only [zpure] at h
    split at h
    · cases h; exact ⟨hL, zokS_cons.mpr ⟨trivial, (zokS_cons.mp hS).2⟩⟩
    · cases h
  case i2f =>
    simp only [zpure] at h
    split at h
    · cases h; exact ⟨hL, zokS_cons.mpr ⟨trivial, (zokS_cons.mp hS).2⟩⟩
    · cases h
  case dconst n =>
    simp only [zpure] at h
    split at h
    · cases h; exact ⟨hL, zokS_cons.mpr ⟨trivial, hS⟩⟩
    · cases h
  case fconst n =>
    simp only [zpure] at h
    split at h
    · cases h; exact ⟨hL, zokS_cons.mpr ⟨trivial, hS⟩⟩
    · cases h
  case ineg =>
    simp only [zpure] at h
    split at h
    · cases h; exact ⟨hL, zokS_cons.mpr ⟨trivial, (zokS_cons.mp hS).2⟩⟩
    · cases h
  case i2c =>
    simp only [zpure] at h
    split at h
    · cases h; exact ⟨hL, zokS_cons.mpr ⟨trivial, (zokS_cons.mp hS).2⟩⟩
    · cases h
  case aconst_null =>
    simp only [zpure] at h
    cases h
    exact ⟨hL, zokS_cons.mpr ⟨trivial, hS⟩⟩
  case dup =>
    simp only [zpure] at h
    split at h
    · cases h; exact ⟨hL, zokS_cons.mpr ⟨trivial, hS⟩⟩
    · cases h; exact ⟨hL, zokS_cons.mpr ⟨(zokS_cons.mp hS).1, hS⟩⟩
    · cases h
  case dup2 =>
    simp only [zpure] at h
    split at h
    · cases h; exact ⟨hL, zokS_cons.mpr ⟨trivial, zokS_cons.mpr ⟨(zokS_cons.mp (zokS_cons.mp hS).2).1, hS⟩⟩⟩
    · cases h
  case dup_x1 =>
    simp only [zpure] at h
    split at h
    · cases h; exact ⟨hL, zokS_cons.mpr ⟨trivial, zokS_cons.mpr ⟨(zokS_cons.mp (zokS_cons.mp hS).2).1, zokS_cons.mpr ⟨trivial, (zokS_cons.mp (zokS_cons.mp hS).2).2⟩⟩⟩⟩
    · cases h
  case pop =>
    simp only [zpure] at h
    split at h
    · cases h; exact ⟨hL, (zokS_cons.mp hS).2⟩
    · cases h; exact ⟨hL, (zokS_cons.mp hS).2⟩
    · cases h
  all_goals (exact nomatch h)
/-- the strings: class, entry, text; the law's own first -/
def zstr : List (String × Nat × String) := [("KeyTourLaw", 47, "room r"), ("KeyTourLaw", 58, " key "), ("KeyTourLaw", 63, " coins "), ("KeyTourLaw", 65, ";"), ("KeyTourLaw", 67, "door r"), ("KeyTourLaw", 69, " r"), ("KeyTourLaw", 71, " toll "), ("KeyTourLaw", 73, " oneway"), ("KeyTourLaw", 75, "start r"), ("KeyTourLaw", 77, "end r"), ("KeyTour", 379, "room"), ("KeyTour", 386, "key"), ("KeyTour", 384, "door"), ("KeyTour", 73, "the input buffer is full"), ("KeyTour", 83, "length"), ("KeyTour", 142, "what"), ("KeyTour", 189, "the walk is not so long"), ("KeyTour", 392, "rank"), ("KeyTour", 390, "place"), ("KeyTour", 382, "both rooms are the same"), ("KeyTour", 306, "the walk cannot go on to this room"), ("KeyTour", 311, "rooms"), ("KeyTour", 312, "no tour begins with the walk"), ("KeyTour", 327, "coins"), ("KeyTour", 328, "kind"), ("KeyTour", 332, "number"), ("KeyTour", 333, "there are 20 doors"), ("KeyTour", 350, "there is nothing to undo")]
/-- words that are kept by rows of their own -/
def zspc : Cond → Bool
  | .castable _ _ => true | .methodLinkNest _ _ _ _ => true | .declares _ => true | _ => false
def zexs : List (Nat × Nat) := [(0, 1), (1, 0), (2, 0), (2, 1), (3, 0), (3, 1)]
/-- what stays true of the start in all its followers: strings, statics, the words that the lists don't hold -/
def zRO (sc : Nat × (Nat → Int32)) (A : Nat → Prop) (ad : Nat → Nat) (U : State) (H : Heap) : Prop :=
  (∀ w ∈ lw_tbl, zspc w = true → va_Nw w U) ∧ (∀ (k : Nat) (q : String × Nat × String), zstr[k]? = some q → vk_R q.1 q.2.1 q.2.2 (ad (1000000 + k)) U) ∧
  (∀ k, k < 10 → vk_S 1 [(zkey.getD k []).length] [zkey.getD k []] (fun _ => ad (1000000 + k)) (fun _ => ad (1000200 + k)) A U H) ∧
  (va_Z "java/lang/String" "COMPACT_STRINGS" "Z" (.int 1) A U H ∧ va_Zq "jdk/internal/util/Preconditions" "SIOOBE_FORMATTER" "Ljava/util/function/BiFunction;" A U H ∧
    va_T .int (ad 2000000) sc.1 (fun j => .int (sc.2 j)) A U H ∧ (∀ t, t < 2 → va_T .byte (ad (1000300 + t)) 100 (fun j => .int ((zdig t).getD j 0)) A U H) ∧
    va_Z "java/lang/Integer" "DigitOnes" "[B" (.ref (ad 1000300)) A U H ∧ va_Z "java/lang/Integer" "DigitTens" "[B" (.ref (ad 1000301)) A U H) ∧
  vx_Zq Bundle.tN "UNASSIGNED_STACK" Bundle.steD A U H ∧ vx_Zq Bundle.tN "SUPPRESSED_SENTINEL" Bundle.listD A U H ∧
  va_AO "KeyTour$Level" U ∧ (∀ q ∈ zexs, va_Nc (zex q.1) (zex q.2) U)
theorem zspc_warm {w : Cond} (h : zspc w = true) {s U : State} (hW : s.WarmedH U.vm) (hw : va_Nw w s) : va_Nw w U := by
  unfold zspc at h
  split at h
  · exact va_Nw.warmC hW hw
  · exact va_Nw.warmM hW hw
  · exact va_Nw.warmD hW hw
  · cases h
variable {sc : Nat × (Nat → Int32)}
theorem zRO_go {A B : Nat → Prop} {ad : Nat → Nat} {s U : State} {H : Heap} {locs : List Loc} (h : zRO sc A ad s s.heap) (hS : va_S A s.heap H locs) (hW : s.WarmedH U.vm) (hAB : ∀ q, B q → A q) : zRO sc B ad U H := by
  obtain ⟨h1, h2, h3, ⟨h41, h42, h43, h44, h45, h46⟩, h5, h6, h7, h8⟩ := h
  have hk : ∀ a : Nat, a < s.heap.size → ¬ A a → H[a]? = s.heap[a]? := hS.2.1
  have ha := hW.alike
  exact ⟨fun w hw hs => zspc_warm hs hW (h1 w hw hs), fun k q hq => (h2 k q hq).warm hW, fun k hk8 => ((((h3 k hk8).kept hk).narrow hAB).moved ha), ⟨((h41.kept hk).narrow hAB).moved ha, ((h42.kept hk).narrow hAB).moved ha, ((h43.kept hk).narrow hAB).moved ha, fun t ht => (((h44 t ht).kept hk).narrow hAB).moved ha, ((h45.kept hk).narrow hAB).moved ha, ((h46.kept hk).narrow hAB).moved ha⟩, ((h5.kept hk).narrow hAB).moved ha, ((h6.kept hk).narrow hAB).moved ha, h7.moved ha, fun q hq => (h8 q hq).moved ha⟩
theorem zRO_ad {A : Nat → Prop} {n : Nat} {ad ad2 : Nat → Nat} {U : State} {H : Heap} (he : zext n ad ad2) (h : zRO sc A ad U H) : zRO sc A ad2 U H := by
  have e : ∀ k, 1000000 ≤ k → ad2 k = ad k := fun k hk => he _ (Or.inr hk)
  obtain ⟨h1, h2, h3, ⟨h41, h42, h43, h44, h45, h46⟩, h5⟩ := h
  refine ⟨h1, fun k q hq => by rw [e _ (by omega)]; exact h2 k q hq, fun k hk => ?_, ⟨h41, h42, by rw [e _ (by omega)]; exact h43, fun t ht => by rw [e _ (by omega)]; exact h44 t ht, by rw [e _ (by omega)]; exact h45, by rw [e _ (by omega)]; exact h46⟩, h5⟩
  have := h3 k hk
  rw [show (fun _ : Nat => ad2 (1000000 + k)) = (fun _ => ad (1000000 + k)) from funext fun _ => e _ (by omega), show (fun _ : Nat => ad2 (1000200 + k)) = (fun _ => ad (1000200 + k)) from funext fun _ => e _ (by omega)]
  exact this
/-- the world at a call, and behind it -/
def zPre (sc : Nat × (Nat → Int32)) (D : va_G) (tc : Nat → ClassId) (ad : Nat → Nat) (h : zm_H) (sz : Nat) (U : State) : Prop :=
  U.heap.size = sz ∧ va_P D vwCl (zws tc ad h) U.heap ∧ va_K D vwCl (ztys tc) U ∧ va_D (fun _ => True) (zws tc ad h) ∧ zRO sc (va_A (zws tc ad h) sz) ad U U.heap
def zPst (D : va_G) (tc : Nat → ClassId) (ad : Nat → Nat) (h : zm_H) (sz : Nat) (ad2 : Nat → Nat) (h2 : zm_H) (t : State) : Prop :=
  zext (zN h) ad ad2 ∧ va_P D vwCl (zws tc ad2 h2) t.heap ∧ va_K D vwCl (ztys tc) t ∧ va_D (va_A (zws tc ad h) sz) (zws tc ad2 h2) ∧ zokH h2 ∧ zN h ≤ zN h2
/-- M does what S says: it answers as S does, in its room; it throws as S does, in its room for that -/
def MetA (sc : Nat × (Nat → Int32)) (l : Launch) (M : zm_M) (S : zm_S) : Prop :=
  ∀ (D : va_G) (tc : Nat → ClassId) (ad : Nat → Nat) (h : zm_H) (sz : Nat) (av : List Value), zokH h → zokS (zN h) av →
    (∀ (v : Option Value) (h2 : zm_H), S av h = some (.inl v, h2) → vx_Met l (zmY M) (zmWs M) (zmRoom M) (va_Pc (av.map (cv ad)) (zPre sc D tc ad h sz))
      (fun _ st oc t => (∃ (ad2 : Nat → Nat), oc = .returned (v.map (cv ad2)) ∧ zPst D tc ad h sz ad2 h2 t ∧ ∀ w, v = some w → zokV (zN h2) w) ∧ va_F (va_A (zws tc ad h) sz) st t)
      (fun _ _ _ => False) (zmC M) (zmS M) (va_A (zws tc ad h) sz)) ∧
    (∀ (x : Nat) (h2 : zm_H), S av h = some (.inr x, h2) → vx_Met l (zmY M) (zmWs M) (zmRoomT M) (va_Pc (av.map (cv ad)) (zPre sc D tc ad h sz)) (fun _ _ _ _ => False)
      (fun E st t => (∃ (ad2 : Nat → Nat), E = zex x ∧ zPst D tc ad h sz ad2 h2 t) ∧ va_F (va_A (zws tc ad h) sz) st t)
      (zmTc M) (zmTs M) (va_A (zws tc ad h) sz))
-- checks
def znx (rows : List zm_R) (i : Nat) (r : zm_R) (c s : Nat) : Bool := match rows[i + 1]? with
  | some r2 => decide (rP r2 = rP r + zlen (rI r)) && decide ((rN r).1 + c ≤ (rN r2).1) && decide ((rN r).2 + s ≤ (rN r2).2)
  | none => false
def ztg (rows : List zm_R) (r : zm_R) (t : Nat) (off : Int) : Bool := match rows[t]? with
  | some r2 => decide ((rP r : Int) + off = (rP r2 : Int)) && decide ((rN r).1 ≤ (rN r2).1) && decide ((rN r).2 ≤ (rN r2).2)
  | none => false
def zdec (b : ByteArray) (r : zm_R) : Bool := match rI r with
  | .tableswitch d lo hi offs => (match decode b (rP r) with | .ok (.tableswitch d2 lo2 hi2 offs2, _) => decide (d2 = d ∧ lo2 = lo ∧ hi2 = hi ∧ offs2 = offs) | _ => false)
  | i => decide (decode b (rP r) = .ok (i, zlen i))
def zslt (n : Nat) : Instr → Bool
  | .istore k => decide (k < n) | .astore k => decide (k < n) | .iinc k _ => decide (k < n)
  | .istore_n f => decide (f.val < n) | .astore_n f => decide (f.val < n)
  | .lstore k => decide (k + 1 < n) | .dstore k => decide (k + 1 < n)
  | .lstore_n f => decide (f.val + 1 < n) | .dstore_n f => decide (f.val + 1 < n)
  | _ => true
def zplain (y : MethodName) (n : Nat) : Bool := decide (y.cls ≠ "java/lang/invoke/MethodHandle") && decide (y.cls ≠ "java/lang/invoke/VarHandle") && decide ((parseMethodDescriptor y.desc).map (fun d => d.parameters.length) = some n)
def zref : Option FieldType → Bool
  | some (.object _) => true | some (.array _) => true | _ => false
/-- the constructor of NoSuchElementException: its link to its superclass's stands at another place than the others' -/
def zn6 : ByteArray := ⟨#[0x2a, 0x2b, 0xb7, 0x00, 0x0d, 0xb1]⟩
def znOwn (own : String) (ic : Nat) : List Cond :=
  Bundle.throwableAtoms ++ Bundle.throwableSAtoms ++ (Bundle.passSAtoms (zex 3) "java/lang/RuntimeException" 13 zn6 ++ Bundle.chainSAtoms "java/lang/RuntimeException" ["java/lang/Exception"]) ++
  [.methodLink own ic (Bundle.initS (zex 3)), .instantiable (zex 3) 6, .castable (zex 3) (zex 3), .selects (zex 3) Bundle.tFill0 Bundle.tFill0, .selects (zex 3) Bundle.tFill Bundle.tFill,
   .lays (zex 3) Bundle.tN "cause" "Ljava/lang/Throwable;", .lays (zex 3) Bundle.tN "stackTrace" Bundle.steD, .lays (zex 3) Bundle.tN "suppressedExceptions" Bundle.listD, .lays (zex 3) Bundle.tN "detailMessage" "Ljava/lang/String;",
   .isRef (.static Bundle.tN "UNASSIGNED_STACK" Bundle.steD), .isRef (.static Bundle.tN "SUPPRESSED_SENTINEL" Bundle.listD),
   .fieldLink Bundle.tN 198 Bundle.tN "backtrace" "Ljava/lang/Object;", .lays Bundle.tN Bundle.tN "backtrace" "Ljava/lang/Object;", .lays (zex 3) Bundle.tN "backtrace" "Ljava/lang/Object;"]
/-- the words of a throw -/
def zat (own : String) (ic : Nat) : Nat → List Cond
  | 3 => (znOwn own ic).filter vx_no
  | x => vx_atS own ic (zex x) ["java/lang/RuntimeException", "java/lang/Exception"]
def zkind (kd : Nat) (ir : Instr) (n th ci : Nat) (Mc : zm_M) : Bool := match kd, ir with
  | 7, .invokespecial _ => decide (n = zmN Mc + 1) && (zmH Mc).isEmpty && decide ((zmY Mc).name ≠ "<init>") && decide (th = 0)
  | 8, .invokevirtual _ => decide (n = zmN Mc + 1) && (zmH Mc).isEmpty && decide ((zmY Mc).cls = RJ5) && decide (th = 0)
  | 10, .invokevirtual _ => decide (n = zmN Mc + 1) && (zmH Mc).isEmpty && decide ((zmY Mc).name = "length" ∧ (zmY Mc).desc = "()I") && decide (th = 0)
  | 0, .invokevirtual _ => decide (n = zmN Mc + 1) && (zmH Mc).isEmpty && decide (ci < 8 ∧ zcN ci = (zmY Mc).cls)
  | 6, .invokevirtual _ => decide (n = zmN Mc + 1) && (zmH Mc).isEmpty && decide ((zmY Mc).cls = "java/lang/String")
  | 1, .invokestatic _ => decide (n = zmN Mc) && (zmH Mc).isEmpty && decide (th < 2)
  | 2, .invokespecial _ => decide (n = zmN Mc + 1) && (zmH Mc).isEmpty && decide ((zmY Mc).name = "<init>") && decide (zmR Mc = none) && decide (th = 0)
  | 3, .invokestatic _ => decide (n = zmN Mc) && (zmH Mc).isEmpty && decide (th = 0)
  | 4, .invokespecial _ => decide (n = zmN Mc + 1) && (zmH Mc).isEmpty && decide ((zmY Mc).name = "<init>") && decide (zmR Mc = none) && decide (th = 0)
  | 5, .invokestatic _ => decide (n = zmN Mc) && !(zmH Mc).isEmpty && decide (th = 0)
  | _, _ => false
/-- the handlers of a call: its triples against the method's table, in order -/
def zhck (rows : List zm_R) (r : zm_R) (nL cc ss : Nat) : List Nat → List (Nat × Nat × Nat × Nat) → List Nat → Bool
  | [], [], _ => true
  | E :: p :: j :: t, x :: hh, seen => (match rows[p]? with
      | some rp => (match rI rp with | .astore k => decide (k = j) | .astore_n f => decide (f.val = j) | _ => false) && decide (x.2.2.1 = rP rp) && (match rows[p + 1]? with | some r2 => decide (rP r2 = rP rp + zlen (rI rp)) && decide ((rN r).1 + cc ≤ (rN r2).1) && decide ((rN r).2 + ss ≤ (rN r2).2) | none => false)
      | none => false) && decide (x.1 ≤ rP r ∧ rP r < x.2.1) && decide (x.2.2.2 ≠ 0) && decide (E < 4 ∧ j < nL) && seen.all (fun E0 => decide ((E, E0) ∈ zexs)) && zhck rows r nL cc ss t hh (E :: seen)
  | _, _, _ => false
def zchk (own : String) (M : zm_M) (envM : List zm_M) (rows : List zm_R) (i : Nat) (r : zm_R) : Bool :=
  zdec (zmB M) r && (match rG r with
  | 0 => zimm (rI r) (rC r) (rL r) && zslt (zmL M) (rI r) && znx rows i r 0 0
  | 1 => (match rI r, rO r with
    | .goto o, [t] => ztg rows r t o
    | .ifCond _ o, [t] => ztg rows r t o && znx rows i r 0 0
    | .if_icmp _ o, [t] => ztg rows r t o && znx rows i r 0 0
    | .ifnonnull o, [t] => ztg rows r t o
    | .tableswitch d _ _ os, t0 :: ts => ztg rows r t0 d && decide (ts.length = os.size) && (List.range ts.length).all (fun j => ztg rows r (ts.getD j 0) (os.getD j 0))
    | _, _ => false)
  | 2 => (match rI r, rO r with
    | .getfield _, [ci, j, nf, cd] => decide (ci < 8) && decide (j < nf) && decide (nf = zcn ci) && decide (cd = zcode (zty ci j)) && znx rows i r 0 0
    | .putfield _, [ci, j, nf, cd] => decide (ci < 8) && decide (j < nf) && decide (nf = zcn ci) && (match cd with | 0 => decide (zty ci j = .int) | 4 => decide (zty ci j = .byte) | 3 => decide (zty ci j = .boolean) | 1 => decide (zty ci j = .long) | 2 => decide (zcode (zty ci j) = 2) | _ => false) && (match (zcT ci j).2.2.2 with | false => true | true => decide ((zmY M).name = "<init>") && decide ((zcT ci j).1 = own)) && znx rows i r 0 0
    | _, _ => false)
  | 3 => znx rows i r 0 0 && (match rO r with | [t] => decide (t < 6) || (decide (t = 9) && decide ((zmY M).name = "draw")) | _ => false)
  | 4 => (match rI r, rO r with
    | .new _, [ci, nf] => decide (ci < 8) && decide (nf = zcn ci) && znx rows i r 1 nf && decide ((rN r).1 + 1 ≤ zmC M) && decide ((rN r).2 + nf ≤ zmS M)
    | .newarray a, [kd, bd] => decide (kd < 4) && decide (a = zaty kd) && decide (bd ≤ 60000000) && znx rows i r 1 bd && decide ((rN r).1 + 1 ≤ zmC M) && decide ((rN r).2 + bd ≤ zmS M)
    | .anewarray _, [_, bd] => decide (bd ≤ 60000000) && znx rows i r 1 bd && decide ((rN r).1 + 1 ≤ zmC M) && decide ((rN r).2 + bd ≤ zmS M)
    | _, _ => false)
  | 5 => decide ((rN r).1 ≤ zmC M) && decide ((rN r).2 ≤ zmS M) && (match rI r, rO r with
    | .ireturn, [0] => decide (zmR M = some .int)
    | .ireturn, [1] => decide (zmR M = some .boolean)
    | .ireturn, [2] => decide (zmR M = some .byte)
    | .ireturn, [3] => decide (zmR M = some .char)
    | .lreturn, _ => decide (zmR M = some .long)
    | .dreturn, _ => decide (zmR M = some .double)
    | .freturn, _ => decide (zmR M = some .float)
    | .areturn, _ => zref (zmR M)
    | .return_, _ => decide (zmR M = none)
    | _, _ => false)
  | 6 => (match rO r with
    | kd :: e :: n :: _ :: th :: ci :: hs => (match envM[e]? with
      | some Mc => decide ((zmRoom Mc).frames + 1 ≤ (zmRoom M).frames) && decide (8 + (zmL Mc + 11) + (zmRoom Mc).locals ≤ (zmRoom M).locals) && zplain (zmY Mc) (zmN Mc) && znx rows i r (zmC Mc) (zmS Mc) && decide ((rN r).1 + zmC Mc ≤ zmC M) && decide ((rN r).2 + zmS Mc ≤ zmS M) &&
        zkind kd (rI r) n th ci Mc && (match th with | 0 => true | 1 => (zmH M).isEmpty && decide ((rN r).1 + zmTc Mc ≤ zmTc M) && decide ((rN r).2 + zmTs Mc ≤ zmTs M) | 2 => zhck rows r (zmL M) (zmTc Mc) (zmTs Mc) hs (zmH M) [] && decide ((rN r).1 + zmTc Mc ≤ zmC M) && decide ((rN r).2 + zmTs Mc ≤ zmS M) | _ => false)
      | none => false)
    | _ => false)
  | 7 => (match rO r with
    | [x, k, ik, is, ic, wd] => decide (x < 4) && decide (10 ≤ k ∧ k < 28) && decide ((zstr.getD k ("", 0, "")).1 = own ∧ (zstr.getD k ("", 0, "")).2.1 = is) && decide (rI r = .new ik) && decide (decode (zmB M) (rP r + 3) = .ok (.dup, 1)) && (match wd with | 0 => decide (decode (zmB M) (rP r + 4) = .ok (.ldc is, 2)) && decide (decode (zmB M) (rP r + 6) = .ok (.invokespecial ic, 3)) && decide (decode (zmB M) (rP r + 9) = .ok (.athrow, 1)) | _ => decide (decode (zmB M) (rP r + 4) = .ok (.ldc_w is, 3)) && decide (decode (zmB M) (rP r + 7) = .ok (.invokespecial ic, 3)) && decide (decode (zmB M) (rP r + 10) = .ok (.athrow, 1))) && (zmH M).isEmpty && Bundle.fit (zex x) && (Cond.classLink own ik (zex x) :: Cond.initialized (zex x) :: zat own ic x).all vx_ot && decide (6 ≤ (zmRoom M).frames) && decide (120 ≤ (zmRoom M).locals) && decide ((rN r).1 + 1 ≤ zmTc M) && decide ((rN r).2 + 6 ≤ zmTs M)
    | _ => false)
  | 8 => (match rI r with | .invokestatic _ => true | _ => false) && znx rows i r 0 0 && decide (1 ≤ (zmRoom M).frames) && decide (nativeFrameWords "java/lang/System" "arraycopy" 5 + 11 ≤ (zmRoom M).locals)
  | 9 => (match rI r, rO r with
    | .ldc is, [7, k] => decide (k < 28) && decide ((zstr.getD k ("", 0, "")).1 = own ∧ (zstr.getD k ("", 0, "")).2.1 = is) && znx rows i r 0 0
    | .ldc _, [0] => znx rows i r 0 0
    | .ldc_w _, [0] => znx rows i r 0 0
    | .ldc2_w _, [1] => znx rows i r 0 0
    | _, _ => false)
  | 10 => (match rI r with | .invokespecial _ => true | _ => false) && znx rows i r 0 0 && decide (1 ≤ (zmRoom M).frames) && decide (12 ≤ (zmRoom M).locals)
  | 11 => znx rows i r 0 0
  | 12 => true
  | 14 => (match rI r, rO r with
    | .getstatic _, [t] => decide (t < 3) && znx rows i r 0 0
    | .getfield _, [t] => decide (t < 2) && znx rows i r 0 0
    | .baload, [22] => znx rows i r 0 0
    | .arraylength, [22] => znx rows i r 0 0
    | .invokevirtual _, [bd] => znx rows i r 1 bd && decide ((rN r).1 + 1 ≤ zmC M) && decide ((rN r).2 + bd ≤ zmS M) && decide (1 ≤ (zmRoom M).frames) && decide (22 ≤ (zmRoom M).locals)
    | .checkcast _, [2] => znx rows i r 0 0
    | _, _ => false)
  | 15 => (match rI r with | .invokestatic _ => true | _ => false) && znx rows i r 0 0 && decide (1 ≤ (zmRoom M).frames) && decide (nativeFrameWords "java/lang/System" "arraycopy" 5 + 11 ≤ (zmRoom M).locals)
  | 13 => (match rI r with | .invokestatic _ => true | _ => false) && znx rows i r 0 0 && decide (1 ≤ (zmRoom M).frames) && decide (23 ≤ (zmRoom M).locals) && decide ((rN r).1 ≤ zmC M) && decide ((rN r).2 ≤ zmS M)
  | _ => false)
def zhwd (own : String) : List Nat → List (Nat × Nat × Nat × Nat) → List Cond
  | E :: _ :: _ :: t, x :: hh => .classLink own x.2.2.2 (zex E) :: zhwd own t hh
  | _, _ => []
def zhwx : List Nat → List Cond
  | E :: _ :: _ :: t => .castable (zex E) (zex E) :: zhwx t
  | _ => []
/-- a static, a text's field, by number -/
def zgsF : Nat → String × String × String
  | 0 => ("java/lang/String", "COMPACT_STRINGS", "Z") | 1 => ("java/lang/Integer", "DigitOnes", "[B") | _ => ("java/lang/Integer", "DigitTens", "[B")
def zgtF : Nat → String × String
  | 0 => ("value", "[B") | _ => ("coder", "B")
def zclo : MethodName := ⟨"java/lang/Object", "clone", "()Ljava/lang/Object;"⟩
def zcloB : MethodName := ⟨"[B", "clone", "()Ljava/lang/Object;"⟩
/-- the words that a row needs -/
def zwd (own : String) (M : zm_M) (envM : List zm_M) (r : zm_R) : List Cond := match rG r, rI r, rO r with
  | 2, .getfield x, [ci, j, _, _] => [.fieldLink own x (zcT ci j).1 (zcT ci j).2.1 (zcT ci j).2.2.1]
  | 2, .putfield x, [ci, j, _, _] => [.fieldLink own x (zcT ci j).1 (zcT ci j).2.1 (zcT ci j).2.2.1]
  | 4, .new x, [ci, _] => [.classLink own x (zcN ci), .instantiable (zcN ci) (zcn ci), .initialized (zcN ci)]
  | 4, .newarray a, _ => [.arrayClass (newarray.typeOf a)]
  | 4, .anewarray x, _ => [.classLink own x "KeyTour$Level"]
  | 6, .invokevirtual x, 8 :: e :: _ => (match envM[e]? with | some Mc => [.methodLink own x (zmY Mc), .sameMethod RJ5 RJ5 (zmY Mc).name (zmY Mc).desc, .selects RJ4 (zmY Mc) (zmY Mc), .instanceMethod (zmY Mc), .initialized (zmY Mc).cls, zmW Mc] | none => [])
  | 6, .invokevirtual x, 10 :: e :: _ => (match envM[e]? with | some Mc => [.methodLink own x yJ5_length_8abf5, .sameMethod RJ5 RJ5 "length" "()I", .instanceMethod yJ5_length_8abf5, .selects RJ4 yJ5_length_8abf5 (zmY Mc), .instanceMethod (zmY Mc), .initialized (zmY Mc).cls, .code yJ5_length_8abf5 cJ5_length_8abf5 1 (some .int), zmW Mc] | none => [])
  | 6, .invokespecial x, 7 :: e :: _ => (match envM[e]? with | some Mc => [.methodLink own x (zmY Mc), .sameMethod (zmY Mc).cls (zmY Mc).cls (zmY Mc).name (zmY Mc).desc, .superclass own (zmY Mc).cls, .instanceMethod (zmY Mc), .initialized (zmY Mc).cls, zmW Mc] | none => [])
  | 6, .invokevirtual x, _ :: e :: _ :: _ :: th :: _ :: hs => (match envM[e]? with | some Mc => [.methodLink own x (zmY Mc), .instanceMethod (zmY Mc), .selects (zmY Mc).cls (zmY Mc) (zmY Mc), .initialized (zmY Mc).cls, zmW Mc] ++ (match th with | 2 => zhwd own hs (zmH M) | _ => []) | none => [])
  | 6, .invokestatic x, 1 :: e :: _ => (match envM[e]? with | some Mc => [.methodLink own x (zmY Mc), .static (zmY Mc), .initialized (zmY Mc).cls, zmW Mc] | none => [])
  | 6, .invokespecial x, 2 :: e :: _ => (match envM[e]? with | some Mc => [.methodLink own x (zmY Mc), .instanceMethod (zmY Mc), .initialized (zmY Mc).cls, zmW Mc] | none => [])
  | 6, .invokestatic _, 3 :: e :: _ => (match envM[e]? with | some Mc => [.static (zmY Mc), .initialized (zmY Mc).cls, zmW Mc] | none => [])
  | 6, .invokespecial _, 4 :: e :: _ => (match envM[e]? with | some Mc => [.instanceMethod (zmY Mc), .initialized (zmY Mc).cls, zmW Mc] | none => [])
  | 6, .invokestatic x, 5 :: e :: _ => (match envM[e]? with | some Mc => [.methodLink own x (zmY Mc), .static (zmY Mc), .initialized (zmY Mc).cls, zmW Mc] | none => [])
  | 7, _, [x, _, ik, _, ic, _] => .classLink own ik (zex x) :: .initialized (zex x) :: (zat own ic x).filter goodWord
  | 8, .invokestatic x, _ => [.methodLink own x arraycopyName, .native arraycopyName, .static arraycopyName, .initialized "java/lang/System"]
  | 14, .getstatic x, [t] => [.fieldLink own x (zgsF t).1 (zgsF t).2.1 (zgsF t).2.2]
  | 14, .getfield x, [t] => [.fieldLink own x "java/lang/String" (zgtF t).1 (zgtF t).2]
  | 14, .invokevirtual x, _ => [.methodLink own x zcloB, .sameMethod "[B" "java/lang/Object" "clone" "()Ljava/lang/Object;", .native zclo, .instanceMethod zclo, .selects "[B" zcloB zclo]
  | 14, .checkcast x, _ => [.classLink own x "[B"]
  | 15, .invokestatic x, _ => [.methodLink own x arraycopyName, .native arraycopyName, .static arraycopyName, .initialized "java/lang/System"]
  | 9, .ldc x, [0] => [.constant own x (rC r)]
  | 9, .ldc_w x, [0] => [.constant own x (rC r)]
  | 9, .ldc2_w x, _ => [.constantLong own x (rL r)]
  | 13, .invokestatic x, [0] => [.methodLink own x Lib.Math.max.name, .static Lib.Math.max.name, .initialized "java/lang/Math", .code Lib.Math.max.name Lib.Math.max.code 2 (some .int)]
  | 13, .invokestatic x, [1] => [.methodLink own x Lib.Math.min.name, .static Lib.Math.min.name, .initialized "java/lang/Math", .code Lib.Math.min.name Lib.Math.min.code 2 (some .int)]
  | 13, .invokestatic x, [2] => [.methodLink own x Lib.MathLoose.max_long.x, .static Lib.MathLoose.max_long.x, .initialized "java/lang/Math", .code Lib.MathLoose.max_long.x Lib.MathLoose.max_long.code 4 (some .long)]
  | 10, .invokespecial x, _ => [.methodLink own x objectInit, .instanceMethod objectInit, .code objectInit ⟨#[0xb1]⟩ 1 none]
  | _, _, _ => []
/-- words of the other kind -/
def zwx (own : String) (M : zm_M) (envM : List zm_M) (r : zm_R) : List Cond := match rG r, rI r, rO r with
  | 6, .invokestatic x, 3 :: e :: _ => (match envM[e]? with | some Mc => [.methodLinkNest own x (zmY Mc) "KeyTour"] | none => [])
  | 6, .invokespecial x, 4 :: e :: _ => (match envM[e]? with | some Mc => [.methodLinkNest own x (zmY Mc) "KeyTour"] | none => [])
  | 6, .invokevirtual _, _ :: _ :: _ :: _ :: 2 :: _ :: hs => zhwx hs
  | 7, _, [x, _, _, _, ic, _] => (zat own ic x).filter (fun w => !goodWord w)
  | 14, .invokevirtual _, _ => [.castable "[B" "java/lang/Cloneable"]
  | _, _, _ => []
end ZQ

