/-! THE ABSTRACT MACHINE: a heap of cells at places 0, 1, .. (numbers, not addresses), a step that is a function, and its tie to the machine's own steps. -/
section ZM
abbrev zm_H : Type := Nat × (Nat → Nat × Nat) × (Nat → Nat → Int32) × (Nat → Nat → Int64) × (Nat → Nat → Option Nat) × (Nat → Nat → UInt64)
def zN (h : zm_H) : Nat := h.1
def zK (h : zm_H) : Nat → Nat × Nat := h.2.1
def zI (h : zm_H) : Nat → Nat → Int32 := h.2.2.1
def zJ (h : zm_H) : Nat → Nat → Int64 := h.2.2.2.1
def zP (h : zm_H) : Nat → Nat → Option Nat := h.2.2.2.2.1
def zD (h : zm_H) : Nat → Nat → UInt64 := h.2.2.2.2.2
def zrow {α : Type} (f : Nat → α) (a : Nat) (g : α) : Nat → α := fun b => if b = a then g else f b
def zput {α : Type} (f : Nat → α) (i : Nat) (x : α) : Nat → α := fun j => if j = i then x else f j
def zsI (h : zm_H) (a i : Nat) (x : Int32) : zm_H := (h.1, h.2.1, zrow h.2.2.1 a (zput (h.2.2.1 a) i x), h.2.2.2)
def zsJ (h : zm_H) (a i : Nat) (x : Int64) : zm_H := (h.1, h.2.1, h.2.2.1, zrow h.2.2.2.1 a (zput (h.2.2.2.1 a) i x), h.2.2.2.2)
def zsP (h : zm_H) (a i : Nat) (x : Option Nat) : zm_H := (h.1, h.2.1, h.2.2.1, h.2.2.2.1, zrow h.2.2.2.2.1 a (zput (h.2.2.2.2.1 a) i x), h.2.2.2.2.2)
def zsD (h : zm_H) (a i : Nat) (x : UInt64) : zm_H := (h.1, h.2.1, h.2.2.1, h.2.2.2.1, h.2.2.2.2.1, zrow h.2.2.2.2.2 a (zput (h.2.2.2.2.2 a) i x))
def zrI (h : zm_H) (a : Nat) (g : Nat → Int32) : zm_H := (h.1, h.2.1, zrow h.2.2.1 a g, h.2.2.2)
def zrJ (h : zm_H) (a : Nat) (g : Nat → Int64) : zm_H := (h.1, h.2.1, h.2.2.1, zrow h.2.2.2.1 a g, h.2.2.2.2)
def znew (h : zm_H) (kd len : Nat) : zm_H := (h.1 + 1, zrow h.2.1 h.1 (kd, len), zrow h.2.2.1 h.1 (fun _ => 0), zrow h.2.2.2.1 h.1 (fun _ => 0), zrow h.2.2.2.2.1 h.1 (fun _ => none), zrow h.2.2.2.2.2 h.1 (fun _ => 0))
/-- types of the fields, by class and place; what they hold -/
def zty : Nat → Nat → FieldType
  | 0 => tyX0 | 1 => tyX1 | 2 => tyX2 | 3 => tyX3 | 4 => tyX4 | 5 => tyX5 | 6 => tyJ4 | _ => tyJ0
def zcode : FieldType → Nat
  | .long => 1 | .object _ => 2 | .array _ => 2 | .boolean => 3 | _ => 0
def cv (ad : Nat → Nat) : Value → Value
  | .ref k => .ref (ad k)
  | v => v
def zfv (ad : Nat → Nat) (h : zm_H) (a j : Nat) : Nat → Value
  | 1 => .long (zJ h a j)
  | 2 => va_rf ((zP h a j).map ad)
  | _ => .int (zI h a j)
def zfs (ad : Nat → Nat) (h : zm_H) (a ci n : Nat) : List Value := (List.range n).map (fun j => zfv ad h a j (zcode (zty ci j)))
def zent (tc : Nat → ClassId) (ad : Nat → Nat) (h : zm_H) (a : Nat) : va_E :=
  match (zK h a).1 with
  | 0 => .inl (tc 0, (zK h a).2, .inl (zI h a))
  | 1 => .inl (tc 1, (zK h a).2, .inr (.inl (zJ h a)))
  | 2 => .inl (tc 2, (zK h a).2, .inl (zI h a))
  | 3 => .inl (tc 3, (zK h a).2, .inl (zI h a))
  | 4 => .inl (tc 4, (zK h a).2, .inr (.inr (.inr (.inl (zD h a)))))
  | 5 => .inl (tc 5, (zK h a).2, .inr (.inr (.inr (.inr (fun i => (zP h a i).map ad)))))
  | k + 6 => .inr (k, zfs ad h a k (zK h a).2)
def zws (tc : Nat → ClassId) (ad : Nat → Nat) (h : zm_H) : va_W := (List.range (zN h)).map (fun a => (ad a, zent tc ad h a))
def ztys (tc : Nat → ClassId) : List (ClassId × FieldType) := [(tc 0, .int), (tc 1, .long), (tc 2, .byte), (tc 3, .boolean), (tc 4, .boolean), (tc 5, .object "KeyTour$Level")]
def zgd {X : Type} (c : Prop) [Decidable c] (k : Option X) : Option X := if c then k else none
theorem zgd_some {X : Type} {c : Prop} [Decidable c] {k : Option X} {x : X} (h : zgd c k = some x) : c ∧ k = some x := by
  unfold zgd at h; split at h
  · exact ⟨by assumption, h⟩
  · cases h
-- locals
def zclr1 (i : Nat) (ls : List (Option Value)) : List (Option Value) := match ls[i]? with
  | some (some v) => if v.category = 2 then ls.set i none else ls
  | _ => ls
def zclr : Nat → List (Option Value) → List (Option Value)
  | 0, ls => ls
  | i + 1, ls => zclr1 i ls
def zst1 (i : Nat) (v : Value) (ls : List (Option Value)) : List (Option Value) := (zclr i ls).set i (some v)
def zst2 (i : Nat) (v : Value) (ls : List (Option Value)) : List (Option Value) := ((zclr i ls).set (i + 1) none).set i (some v)
def zkill (ks : List Nat) (ls : List (Option Value)) : List (Option Value) := ks.foldl (fun l k => l.set k none) ls
abbrev zm_L : Type := List (Option Value)
-- what needs neither heap nor words
def zb32 (f : Int32 → Int32 → Int32) (ls : zm_L) (st : List Value) : Option (zm_L × List Value) := match st with
  | .int y :: .int x :: s => some (ls, Value.int (f x y) :: s) | _ => none
def zb64 (f : Int64 → Int64 → Int64) (ls : zm_L) (st : List Value) : Option (zm_L × List Value) := match st with
  | .long y :: .long x :: s => some (ls, Value.long (f x y) :: s) | _ => none
def zldI (i : Nat) (ls : zm_L) (st : List Value) : Option (zm_L × List Value) := match ls[i]? with
  | some (some (.int x)) => some (ls, Value.int x :: st) | _ => none
def zldL (i : Nat) (ls : zm_L) (st : List Value) : Option (zm_L × List Value) := match ls[i]? with
  | some (some (.long x)) => some (ls, Value.long x :: st) | _ => none
def zldD (i : Nat) (ls : zm_L) (st : List Value) : Option (zm_L × List Value) := match ls[i]? with
  | some (some (.double x)) => some (ls, Value.double x :: st) | _ => none
def zldA (i : Nat) (ls : zm_L) (st : List Value) : Option (zm_L × List Value) := match ls[i]? with
  | some (some (.ref x)) => some (ls, Value.ref x :: st) | _ => none
def zsoI (i : Nat) (ls : zm_L) (st : List Value) : Option (zm_L × List Value) := match st with
  | .int x :: s => some (zst1 i (.int x) ls, s) | _ => none
def zsoA (i : Nat) (ls : zm_L) (st : List Value) : Option (zm_L × List Value) := match st with
  | .ref x :: s => some (zst1 i (.ref x) ls, s) | _ => none
def zsoL (i : Nat) (ls : zm_L) (st : List Value) : Option (zm_L × List Value) := match st with
  | .long x :: s => some (zst2 i (.long x) ls, s) | _ => none
def zsoD (i : Nat) (ls : zm_L) (st : List Value) : Option (zm_L × List Value) := match st with
  | .double x :: s => some (zst2 i (.double x) ls, s) | _ => none
def zpure (i : Instr) (c : Int32) (cl : Int64) (ls : zm_L) (st : List Value) : Option (zm_L × List Value) :=
  match i with
  | .iload_n n => zldI n.val ls st | .iload n => zldI n ls st
  | .lload_n n => zldL n.val ls st | .lload n => zldL n ls st
  | .dload_n n => zldD n.val ls st | .dload n => zldD n ls st
  | .aload_n n => zldA n.val ls st | .aload n => zldA n ls st
  | .istore_n n => zsoI n.val ls st | .istore n => zsoI n ls st
  | .lstore_n n => zsoL n.val ls st | .lstore n => zsoL n ls st
  | .dstore_n n => zsoD n.val ls st | .dstore n => zsoD n ls st
  | .astore_n n => zsoA n.val ls st | .astore n => zsoA n ls st
  | .iconst _ => some (ls, .int c :: st) | .bipush _ => some (ls, .int c :: st) | .sipush _ => some (ls, .int c :: st)
  | .lconst _ => some (ls, .long cl :: st)
  | .iinc n _ => (match ls[n]? with | some (some (.int x)) => some (zst1 n (.int (x + c)) ls, st) | _ => none)
  | .iadd => zb32 (fun x y => x + y) ls st
  | .isub => zb32 (fun x y => x - y) ls st
  | .imul => zb32 (fun x y => x * y) ls st
  | .iand => zb32 (fun x y => x &&& y) ls st
  | .ior => zb32 (fun x y => x ||| y) ls st
  | .ixor => zb32 (fun x y => x ^^^ y) ls st
  | .ishl => zb32 (fun x y => x <<< (y &&& 31)) ls st
  | .ishr => zb32 (fun x y => x >>> (y &&& 31)) ls st
  | .iushr => zb32 (fun x y => (x.toUInt32 >>> (y.toUInt32 &&& Int32.toUInt32 31)).toInt32) ls st
  | .ladd => zb64 (fun x y => x + y) ls st
  | .lsub => zb64 (fun x y => x - y) ls st
  | .lmul => zb64 (fun x y => x * y) ls st
  | .land => zb64 (fun x y => x &&& y) ls st
  | .lor => zb64 (fun x y => x ||| y) ls st
  | .lshl => (match st with | .int y :: .long x :: s => some (ls, .long (x <<< (y.toInt64 &&& 63)) :: s) | _ => none)
  | .lshr => (match st with | .int y :: .long x :: s => some (ls, .long (x >>> (y.toInt64 &&& 63)) :: s) | _ => none)
  | .i2l => (match st with | .int x :: s => some (ls, .long x.toInt64 :: s) | _ => none)
  | .l2i => (match st with | .long x :: s => some (ls, .int x.toInt32 :: s) | _ => none)
  | .i2b => (match st with | .int x :: s => some (ls, .int x.toInt8.toInt32 :: s) | _ => none)
  | .lcmp => (match st with | .long y :: .long x :: s => some (ls, .int (lg_cmp x y) :: s) | _ => none)
  | .dcmp o => (match st with | .double y :: .double x :: s => some (ls, .int (Op.cmpValue (FP.dcmp x y) o) :: s) | _ => none)
  | .l2d => (match st with | .long x :: s => some (ls, .double (FP.l2d x) :: s) | _ => none)
  | .i2f => (match st with | .int x :: s => some (ls, .float (FP.i2f x) :: s) | _ => none)
  | .dconst n => (match n with | 0 => some (ls, .double FP.dconst0 :: st) | _ => none)
  | .fconst n => (match n with | 0 => some (ls, .float FP.fconst0 :: st) | _ => none)
  | .dup => (match st with | .int x :: s => some (ls, .int x :: .int x :: s) | .ref x :: s => some (ls, .ref x :: .ref x :: s) | _ => none)
  | .dup2 => (match st with | .int x :: .ref y :: s => some (ls, .int x :: .ref y :: .int x :: .ref y :: s) | _ => none)
  | .dup_x1 => (match st with | .int x :: .ref y :: s => some (ls, .int x :: .ref y :: .int x :: s) | _ => none)
  | .ineg => (match st with | .int x :: s => some (ls, .int (-x) :: s) | _ => none)
  | .i2c => (match st with | .int x :: s => some (ls, .int (x.toUInt32 % 65536).toInt32 :: s) | _ => none)
  | .aconst_null => some (ls, .null :: st)
  | .pop => (match st with | .int _ :: s => some (ls, s) | .ref _ :: s => some (ls, s) | _ => none)
  | _ => none
/-- an instruction's length in bytes -/
def zlen : Instr → Nat
  | .iload _ => 2 | .lload _ => 2 | .dload _ => 2 | .aload _ => 2 | .istore _ => 2 | .lstore _ => 2 | .dstore _ => 2 | .astore _ => 2
  | .bipush _ => 2 | .sipush _ => 3 | .iinc _ _ => 3 | .goto _ => 3 | .ifCond _ _ => 3 | .if_icmp _ _ => 3
  | .getfield _ => 3 | .putfield _ => 3 | .new _ => 3 | .newarray _ => 2 | .anewarray _ => 3
  | .ifnonnull _ => 3 | .getstatic _ => 3 | .checkcast _ => 3
  | .invokevirtual _ => 3 | .invokestatic _ => 3 | .invokespecial _ => 3 | .ldc _ => 2 | .ldc_w _ => 3 | .ldc2_w _ => 3
  | _ => 1
def zimm (i : Instr) (c : Int32) (cl : Int64) : Bool := match i with
  | .iconst n => decide (Int32.ofInt n = c)
  | .bipush n => decide ((Int8.ofInt n).toInt32 = c)
  | .sipush n => decide ((Int16.ofInt n).toInt32 = c)
  | .lconst n => decide (Int64.ofNat n.val = cl)
  | .iinc _ n => decide (Int32.ofInt n = c)
  | _ => true
/-- the machine's locals hold the abstract ones -/
def zLh (ad : Nat → Nat) (nL : Nat) (la : zm_L) (ls : Array Slot) : Prop := ls.size = nL ∧ lv_wf ls ∧ la.length = nL ∧ ∀ (i : Nat) (v : Value), la[i]? = some (some v) → ls[i]? = some (Slot.val (cv ad v))
def zasc (ad : Nat → Nat) (la : zm_L) : List (Nat × Value) := (List.range la.length).filterMap (fun i => match la[i]? with | some (some v) => some (i, cv ad v) | _ => none)
theorem zasc_mem {ad : Nat → Nat} {la : zm_L} {i : Nat} {w : Value} : (i, w) ∈ zasc ad la ↔ ∃ v, la[i]? = some (some v) ∧ w = cv ad v := by
  unfold zasc
  rw [List.mem_filterMap]
  constructor
  · rintro ⟨j, hj, h⟩
    split at h
    · rename_i v hv
      cases h
      exact ⟨v, hv, rfl⟩
    · cases h
  · rintro ⟨v, hv, rfl⟩
    refine ⟨i, ?_, ?_⟩
    · rw [List.mem_range]
      exact (List.getElem?_eq_some_iff.mp hv).1
    · rw [hv]
theorem zLh.has {ad : Nat → Nat} {nL : Nat} {la : zm_L} {ls : Array Slot} (h : zLh ad nL la ls) : lv_has ls nL (zasc ad la) := by
  refine ⟨h.1, h.2.1, fun q hq => ?_⟩
  obtain ⟨i, w⟩ := q
  obtain ⟨v, hv, rfl⟩ := zasc_mem.mp hq
  exact h.2.2.2 i v hv
theorem zLh.at {ad : Nat → Nat} {nL : Nat} {la : zm_L} {ls : Array Slot} (h : zLh ad nL la ls) {i : Nat} {v : Value} (hv : la[i]? = some (some v)) : ls[i]? = some (Slot.val (cv ad v)) := h.2.2.2 i v hv
theorem zLh.lt {ad : Nat → Nat} {nL : Nat} {la : zm_L} {ls : Array Slot} (h : zLh ad nL la ls) {i : Nat} {v : Option Value} (hv : la[i]? = some v) : i < nL := by
  rw [← h.2.2.1]
  exact (List.getElem?_eq_some_iff.mp hv).1
theorem zclr_len (i : Nat) (la : zm_L) : (zclr i la).length = la.length := by
  cases i with
  | zero => rfl
  | succ i =>
    show (zclr1 i la).length = la.length
    unfold zclr1
    split
    · split <;> simp
    · rfl
theorem zclr_at {i j : Nat} {la : zm_L} {v : Value} (h : (zclr i la)[j]? = some (some v)) : la[j]? = some (some v) ∧ ¬ (j + 1 = i ∧ v.category = 2) := by
  cases i with
  | zero => exact ⟨h, by omega⟩
  | succ i =>
    replace h : (zclr1 i la)[j]? = some (some v) := h
    unfold zclr1 at h
    split at h
    · rename_i w hw
      split at h
      · by_cases hj : j = i
        · subst hj
          rw [List.getElem?_set] at h
          simp at h
        · rw [List.getElem?_set_ne (Ne.symm hj)] at h
          exact ⟨h, by omega⟩
      · rename_i hc
        refine ⟨h, fun hh => ?_⟩
        have hj : j = i := by omega
        subst hj
        rw [hw] at h
        cases h
        exact hc hh.2
    · rename_i hn
      refine ⟨h, fun hh => ?_⟩
      have hj : j = i := by omega
      subst hj
      exact hn v h
theorem cv_cat (ad : Nat → Nat) (v : Value) : (cv ad v).category = v.category := by cases v <;> rfl
/-- a store of one word: what the kit's row gives is enough for the abstract locals -/
theorem zLh_st1 {ad : Nat → Nat} {nL : Nat} {la : zm_L} {ls' : Array Slot} {i : Nat} {v : Value} (hn : la.length = nL)
    (h : lv_has ls' nL ((i, cv ad v) :: (zasc ad la).filter (fun q => !(q.1 == i) && !(q.1 + 1 == i && q.2.category == 2)))) : zLh ad nL (zst1 i v la) ls' := by
  refine ⟨h.1, h.2.1, by simp [zst1, zclr_len, hn], fun j w hj => ?_⟩
  unfold zst1 at hj
  by_cases e : j = i
  · subst e
    rw [List.getElem?_set] at hj
    split at hj
    · split at hj
      · cases hj; exact h.2.2 (j, cv ad v) List.mem_cons_self
      · cases hj
    · contradiction
  · rw [List.getElem?_set_ne (Ne.symm e)] at hj
    obtain ⟨h1, h2⟩ := zclr_at hj
    refine h.2.2 (j, cv ad w) (List.mem_cons_of_mem _ (List.mem_filter.mpr ⟨zasc_mem.mpr ⟨w, h1, rfl⟩, ?_⟩))
    simp only [Bool.and_eq_true, Bool.not_eq_true', beq_eq_false_iff_ne, ne_eq, Bool.and_eq_false_iff]
    refine ⟨e, ?_⟩
    rw [cv_cat]
    by_cases e2 : j + 1 = i
    · exact Or.inr (fun hc => h2 ⟨e2, hc⟩)
    · exact Or.inl e2
theorem zLh_st2 {ad : Nat → Nat} {nL : Nat} {la : zm_L} {ls' : Array Slot} {i : Nat} {v : Value} (hn : la.length = nL)
    (h : lv_has ls' nL ((i, cv ad v) :: (zasc ad la).filter (fun q => !(q.1 == i) && (!(q.1 == i + 1) && !(q.1 + 1 == i && q.2.category == 2))))) : zLh ad nL (zst2 i v la) ls' := by
  refine ⟨h.1, h.2.1, by simp [zst2, zclr_len, hn], fun j w hj => ?_⟩
  unfold zst2 at hj
  by_cases e : j = i
  · subst e
    rw [List.getElem?_set] at hj
    split at hj
    · split at hj
      · cases hj; exact h.2.2 (j, cv ad v) List.mem_cons_self
      · cases hj
    · contradiction
  · rw [List.getElem?_set_ne (Ne.symm e)] at hj
    by_cases e1 : j = i + 1
    · subst e1
      rw [List.getElem?_set] at hj
      simp at hj
    · rw [List.getElem?_set_ne (Ne.symm e1)] at hj
      obtain ⟨h1, h2⟩ := zclr_at hj
      refine h.2.2 (j, cv ad w) (List.mem_cons_of_mem _ (List.mem_filter.mpr ⟨zasc_mem.mpr ⟨w, h1, rfl⟩, ?_⟩))
      simp only [Bool.and_eq_true, Bool.not_eq_true', beq_eq_false_iff_ne, ne_eq, Bool.and_eq_false_iff]
      refine ⟨e, e1, ?_⟩
      rw [cv_cat]
      by_cases e2 : j + 1 = i
      · exact Or.inr (fun hc => h2 ⟨e2, hc⟩)
      · exact Or.inl e2
theorem zkill_at (ks : List Nat) : ∀ {la : zm_L} {j : Nat} {v : Value}, (zkill ks la)[j]? = some (some v) → la[j]? = some (some v) := by
  induction ks with
  | nil => intro la j v h; exact h
  | cons k ks ih =>
    intro la j v h
    have h1 : (zkill ks (la.set k none))[j]? = some (some v) := h
    have h2 := ih h1
    by_cases e : j = k
    · subst e
      rw [List.getElem?_set] at h2
      simp at h2
    · rwa [List.getElem?_set_ne (Ne.symm e)] at h2
theorem zkill_len (ks : List Nat) : ∀ (la : zm_L), (zkill ks la).length = la.length := by
  induction ks with
  | nil => intro la; rfl
  | cons k ks ih =>
    intro la
    have : zkill (k :: ks) la = zkill ks (la.set k none) := rfl
    rw [this, ih, List.length_set]
theorem zLh.kill {ad : Nat → Nat} {nL : Nat} {la : zm_L} {ls : Array Slot} (h : zLh ad nL la ls) (ks : List Nat) : zLh ad nL (zkill ks la) ls :=
  ⟨h.1, h.2.1, by rw [zkill_len]; exact h.2.2.1, fun i v hv => h.2.2.2 i v (zkill_at ks hv)⟩
end ZM
