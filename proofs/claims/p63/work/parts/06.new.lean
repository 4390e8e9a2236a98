/-! NEW CELLS over the abstract heap. -/
section ZC
def zext (n : Nat) (ad ad2 : Nat → Nat) : Prop := ∀ k, k < n ∨ 1000000 ≤ k → ad2 k = ad k
theorem zext.rf {n : Nat} {ad : Nat → Nat} : zext n ad ad := fun _ _ => rfl
theorem zext.trans {n n2 : Nat} {a b c : Nat → Nat} (h1 : zext n a b) (h2 : zext n2 b c) (hn : n ≤ n2) : zext n a c := fun k hk => (h2 k (by omega)).trans (h1 k hk)
theorem cv_ext {n : Nat} {ad ad2 : Nat → Nat} (h : zext n ad ad2) {v : Value} (hv : zokV n v) : cv ad2 v = cv ad v := by
  cases v with
  | ref k => exact congrArg Value.ref (h k hv)
  | _ => rfl
theorem cvs_ext {n : Nat} {ad ad2 : Nat → Nat} (h : zext n ad ad2) {st : List Value} (hv : zokS n st) : st.map (cv ad2) = st.map (cv ad) := List.map_congr_left fun v hm => cv_ext h (hv v hm)
theorem zLh.ext {n : Nat} {ad ad2 : Nat → Nat} (h : zext n ad ad2) {nL : Nat} {la : zm_L} {ls : Array Slot} (hv : zokL n la) (hl : zLh ad nL la ls) : zLh ad2 nL la ls := ⟨hl.1, hl.2.1, hl.2.2.1, fun i v hi => by rw [cv_ext h (hv v (List.mem_of_getElem? hi))]; exact hl.2.2.2 i v hi⟩
theorem zokV.mono {n k : Nat} (hn : n ≤ k) {v : Value} (h : zokV n v) : zokV k v := by
  cases v with
  | ref j => exact h.elim (fun h => Or.inl (Nat.lt_of_lt_of_le h hn)) Or.inr
  | _ => trivial
theorem zokS.mono {n k : Nat} (hn : n ≤ k) {st : List Value} (h : zokS n st) : zokS k st := fun v hv => (h v hv).mono hn
theorem zokL.mono {n k : Nat} (hn : n ≤ k) {la : zm_L} (h : zokL n la) : zokL k la := fun v hv => (h v hv).mono hn
def zdef (ci n : Nat) : List Value := (List.range n).map (fun j => match zcode (zty ci j) with | 1 => .long 0 | 2 => .null | _ => .int 0)
theorem zdef_ok : ∀ ci, ci < 8 → ∀ j, j < zcn ci → defaultValue (zty ci j) = vp_V (zdef ci (zcn ci)) j := by decide +kernel
def znad (ad : Nat → Nat) (n q : Nat) : Nat → Nat := fun b => if b = n then q else ad b
theorem znad_self {ad : Nat → Nat} {n q : Nat} : znad ad n q n = q := by simp [znad]
theorem znad_ext {ad : Nat → Nat} {n q : Nat} (hn : n ≤ 900000) : zext n ad (znad ad n q) := fun k hk => by unfold znad; rw [if_neg (by omega)]
theorem znew_ok {h : zm_H} {kd len : Nat} (h0 : zokH h) (hn : zN h < 900000) : zokH (znew h kd len) := by
  refine ⟨fun a i k hk => ?_, by show zN h + 1 ≤ 900000; omega, fun a ha => ?_⟩
  rotate_left
  · have ha : zN h + 1 ≤ a := ha
    show (zrow (zK h) (zN h) (kd, len) a).1 = 77
    rw [zrow_ne _ _ (by omega)]
    exact h0.2.2 a (by omega)
  have hk : zrow (zP h) (zN h) (fun _ => none) a i = some k := hk
  show k < zN h + 1
  by_cases e : a = zN h
  · subst e; rw [zrow_self] at hk; cases hk
  · rw [zrow_ne _ _ e] at hk; have := h0.1 _ _ _ hk; omega
theorem znew_ent {tc : Nat → ClassId} {ad : Nat → Nat} {h : zm_H} {kd len q : Nat} (h0 : zokH h) : ∀ b, b < zN h → znad ad (zN h) q b = ad b ∧ zent tc (znad ad (zN h) q) (znew h kd len) b = zent tc ad h b := by
  intro b hb
  have e : b ≠ zN h := Nat.ne_of_lt hb
  refine ⟨by unfold znad; rw [if_neg e], zent_congr (zrow_ne _ _ e) (zrow_ne _ _ e) (zrow_ne _ _ e) (fun x => ?_) (zrow_ne _ _ e)⟩
  rw [show zP (znew h kd len) b = zP h b from zrow_ne _ _ e]
  cases hx : zP h b x with
  | none => rfl
  | some k => have hk := h0.1 _ _ _ hx; simp only [Option.map_some]; unfold znad; rw [if_neg (Nat.ne_of_lt hk)]
theorem zsI_at {h : zm_H} {a j : Nat} {x : Int32} : zI (zsI h a j x) a j = x := by
  show (zrow (zI h) a (zput (zI h a) j x)) a j = x
  rw [zrow_self, zput_self]
theorem zsI_off {h : zm_H} {a j i : Nat} {x : Int32} (hi : i ≠ j) : zI (zsI h a j x) a i = zI h a i := by
  show (zrow (zI h) a (zput (zI h a) j x)) a i = _
  rw [zrow_self, zput_ne _ _ hi]
theorem zsJ_at {h : zm_H} {a j : Nat} {x : Int64} : zJ (zsJ h a j x) a j = x := by
  show (zrow (zJ h) a (zput (zJ h a) j x)) a j = x
  rw [zrow_self, zput_self]
theorem zsJ_off {h : zm_H} {a j i : Nat} {x : Int64} (hi : i ≠ j) : zJ (zsJ h a j x) a i = zJ h a i := by
  show (zrow (zJ h) a (zput (zJ h a) j x)) a i = _
  rw [zrow_self, zput_ne _ _ hi]
theorem zsP_at {h : zm_H} {a j : Nat} {x : Option Nat} : zP (zsP h a j x) a j = x := by
  show (zrow (zP h) a (zput (zP h a) j x)) a j = x
  rw [zrow_self, zput_self]
theorem zsP_off {h : zm_H} {a j i : Nat} {x : Option Nat} (hi : i ≠ j) : zP (zsP h a j x) a i = zP h a i := by
  show (zrow (zP h) a (zput (zP h a) j x)) a i = _
  rw [zrow_self, zput_ne _ _ hi]
theorem zsD_at {h : zm_H} {a j : Nat} {x : UInt64} : zD (zsD h a j x) a j = x := by
  show (zrow (zD h) a (zput (zD h a) j x)) a j = x
  rw [zrow_self, zput_self]
theorem zsD_off {h : zm_H} {a j i : Nat} {x : UInt64} (hi : i ≠ j) : zD (zsD h a j x) a i = zD h a i := by
  show (zrow (zD h) a (zput (zD h a) j x)) a i = _
  rw [zrow_self, zput_ne _ _ hi]
end ZC
section ZE
variable {p : Program} {l : Launch} {e : Env} {R : Room} {s : State} {m : MethodId} {args : Array Value} {below : List Frame} {meth : Method} {c : Code} {H : Heap} {locs : List Loc} {cells slots : Nat} {Q : State → Prop}
variable {cc : ByteArray} {pc : Nat} {ls : Array Slot} {rest : List Value} {D : va_G} {tc : Nat → ClassId} {ad : Nat → Nat} {A : Nat → Prop} {h : zm_H} {own : String}
theorem zsim_new (hx : p.tables.exec = Jvm.exec) (hb : c.code = cc) (hts : ∀ w ∈ gT, w.before args s = true) (hown : s.vm.findClass own = some m.cls) (hK : va_K D vwCl (ztys tc) s) (hR : zR D tc ad A s h H locs) (hA : ∀ q, s.heap.size ≤ q → A q)
    {idx ci : Nat} (hci : ci < 8) (hw : Cond.classLink own idx (zcN ci) ∈ gT ∧ Cond.instantiable (zcN ci) (zcn ci) ∈ gT ∧ Cond.initialized (zcN ci) ∈ gT) (hn : zN h < 900000) (hc : cells + 1 ≤ R.cells) (hs : slots + zcn ci ≤ R.slots) (hd : decode cc pc = .ok (.new idx, 3))
    (kk : ∀ (ad2 : Nat → Nat) (H1 : Heap), zext (zN h) ad ad2 → zR D tc ad2 A s (znew h (ci + 6) (zcn ci)) H1 locs → W p l e R s m args below meth c H1 locs (cells + 1) (slots + zcn ci) Q (F0 m (pc + 3) ls (.ref (ad2 (zN h)) :: rest))) : W p l e R s m args below meth c H locs cells slots Q (F0 m pc ls rest) := by
  refine va_new (D := D) (cl := vwCl) (C := zcN ci) (T := zcT ci) (N := zcn ci) (ci := ci) (fs := zdef ci (zcn ci)) hx hb hts (zcin ci hci) (zty ci) (zcty_ok ci hci) hown (hts _ hw.1) (hts _ hw.2.1) (hts _ hw.2.2) hK hR.1 hR.2.1 hR.2.2.1 hA (zcl_at ci hci) (zdef_ok ci hci) hc hs hd (fun q H1 hP hD hS => ?_)
  have hpush : zws tc ad h ++ [(q, .inr (ci, zdef ci (zcn ci)))] = zws tc (znad ad (zN h) q) (znew h (ci + 6) (zcn ci)) := by
    refine zws_push rfl znad_self ?_ (znew_ent hR.2.2.2)
    have e1 : zK (znew h (ci + 6) (zcn ci)) (zN h) = (ci + 6, zcn ci) := zrow_self _ _ _
    rw [zobj e1]
    refine congrArg Sum.inr (congrArg (Prod.mk ci) (List.map_congr_left fun j _ => ?_))
    have e2 : zI (znew h (ci + 6) (zcn ci)) (zN h) = fun _ => 0 := zrow_self _ _ _
    have e3 : zJ (znew h (ci + 6) (zcn ci)) (zN h) = fun _ => 0 := zrow_self _ _ _
    have e4 : zP (znew h (ci + 6) (zcn ci)) (zN h) = fun _ => none := zrow_self _ _ _
    unfold zfv
    rw [e2, e3, e4]
    split <;> rename_i hz
    · rw [hz]; rfl
    · rw [hz]; rfl
    · split <;> first | rfl | contradiction
  rw [hpush] at hP hD
  have := kk (znad ad (zN h) q) H1 (znad_ext (Nat.le_of_lt hn)) ⟨hP, hD, hS, znew_ok hR.2.2.2 hn⟩
  rw [znad_self] at this
  exact this
def zaty : Nat → ArrayType
  | 0 => .int | 1 => .long | 2 => .byte | 3 => .boolean | _ => .double
theorem zraU {cA cB : ClassId} {ty : FieldType} {U : State} (hp : ty = .int ∨ ty = .long ∨ ty = .byte ∨ ty = .boolean ∨ ty = .double) (h1 : va_RA U cA ty) (h2 : va_RA U cB ty) : cA = cB := by
  rcases hp with rfl | rfl | rfl | rfl | rfl <;> exact Option.some.inj ((show U.vm.findClass _ = some cA from h1).symm.trans h2)
theorem zsim_newa (hx : p.tables.exec = Jvm.exec) (hb : c.code = cc) (hts : ∀ w ∈ gT, w.before args s = true) (hK : va_K D vwCl (ztys tc) s) (hR : zR D tc ad A s h H locs) (hA : ∀ q, s.heap.size ≤ q → A q)
    {kd N : Nat} {n : Int32} (hkd : kd < 4) (hw : Cond.arrayClass (newarray.typeOf (zaty kd)) ∈ gT) (hn : zN h < 900000) (h0 : ¬ n < 0) (hN : n.toNatClampNeg = N) (hby : N ≤ 60000000) (hc : cells + 1 ≤ R.cells) (hs : slots + N ≤ R.slots) (hd : decode cc pc = .ok (.newarray (zaty kd), 2))
    (kk : ∀ (ad2 : Nat → Nat) (H1 : Heap), zext (zN h) ad ad2 → zR D tc ad2 A s (znew h kd N) H1 locs → W p l e R s m args below meth c H1 locs (cells + 1) (slots + N) Q (F0 m (pc + 2) ls (.ref (ad2 (zN h)) :: rest))) : W p l e R s m args below meth c H locs cells slots Q (F0 m pc ls (.int n :: rest)) := by
  have e1 : zK (znew h kd N) (zN h) = (kd, N) := zrow_self _ _ _
  have e2 : zI (znew h kd N) (zN h) = fun _ => 0 := zrow_self _ _ _
  have e3 : zJ (znew h kd N) (zN h) = fun _ => 0 := zrow_self _ _ _
  have e4 : zD (znew h kd N) (zN h) = fun _ => 0 := zrow_self _ _ _
  have fin : ∀ (q : Nat) (H1 : Heap) (en : va_E), (∀ ad2, zent tc ad2 (znew h kd N) (zN h) = en) → va_P D vwCl (zws tc ad h ++ [(q, en)]) H1 → va_D A (zws tc ad h ++ [(q, en)]) → va_S A s.heap H1 locs → W p l e R s m args below meth c H1 locs (cells + 1) (slots + N) Q (F0 m (pc + 2) ls (.ref q :: rest)) := by
    intro q H1 en he hP hD hS
    have hpush : zws tc ad h ++ [(q, en)] = zws tc (znad ad (zN h) q) (znew h kd N) := zws_push rfl znad_self (he _) (znew_ent hR.2.2.2)
    rw [hpush] at hP hD
    have := kk (znad ad (zN h) q) H1 (znad_ext (Nat.le_of_lt hn)) ⟨hP, hD, hS, znew_ok hR.2.2.2 hn⟩
    rw [znad_self] at this
    exact this
  match kd, hkd, hw, hd, e1, e2, e3, e4, fin with
  | 0, _, hw, hd, e1, e2, e3, e4, fin =>
    refine va_newa (atype := .int) (ty := .int) (a0 := (N, .inl (fun _ => 0))) hx hb (hts _ hw) rfl hK hR.1 hR.2.1 hR.2.2.1 hA (fun _ => rfl) h0 hN (by simp [componentBytes]; omega) hc hs hd (fun q cA H1 hK1 hP hD hS => ?_)
    have ecA : cA = tc 0 := zraU (by simp) (hK1.2 6 (cA, .int) rfl).2 (hK.2 0 (tc 0, .int) rfl).2
    subst ecA
    exact fin q H1 _ (fun ad2 => by simp [zent, e1, e2]) hP hD hS
  | 1, _, hw, hd, e1, e2, e3, e4, fin =>
    refine va_newa (atype := .long) (ty := .long) (a0 := (N, .inr (.inl (fun _ => 0)))) hx hb (hts _ hw) rfl hK hR.1 hR.2.1 hR.2.2.1 hA (fun _ => rfl) h0 hN (by simp [componentBytes]; omega) hc hs hd (fun q cA H1 hK1 hP hD hS => ?_)
    have ecA : cA = tc 1 := zraU (by simp) (hK1.2 6 (cA, .long) rfl).2 (hK.2 1 (tc 1, .long) rfl).2
    subst ecA
    exact fin q H1 _ (fun ad2 => by simp [zent, e1, e3]) hP hD hS
  | 2, _, hw, hd, e1, e2, e3, e4, fin =>
    refine va_newa (atype := .byte) (ty := .byte) (a0 := (N, .inl (fun _ => 0))) hx hb (hts _ hw) rfl hK hR.1 hR.2.1 hR.2.2.1 hA (fun _ => rfl) h0 hN (by simp [componentBytes]; omega) hc hs hd (fun q cA H1 hK1 hP hD hS => ?_)
    have ecA : cA = tc 2 := zraU (by simp) (hK1.2 6 (cA, .byte) rfl).2 (hK.2 2 (tc 2, .byte) rfl).2
    subst ecA
    exact fin q H1 _ (fun ad2 => by simp [zent, e1, e2]) hP hD hS
  | 3, _, hw, hd, e1, e2, e3, e4, fin =>
    refine va_newa (atype := .boolean) (ty := .boolean) (a0 := (N, .inl (fun _ => 0))) hx hb (hts _ hw) rfl hK hR.1 hR.2.1 hR.2.2.1 hA (fun _ => rfl) h0 hN (by simp [componentBytes]; omega) hc hs hd (fun q cA H1 hK1 hP hD hS => ?_)
    have ecA : cA = tc 3 := zraU (by simp) (hK1.2 6 (cA, .boolean) rfl).2 (hK.2 3 (tc 3, .boolean) rfl).2
    subst ecA
    exact fin q H1 _ (fun ad2 => by simp [zent, e1, e2]) hP hD hS
theorem zsim_newq (hx : p.tables.exec = Jvm.exec) (hb : c.code = cc) (hts : ∀ w ∈ gT, w.before args s = true) (hown : s.vm.findClass own = some m.cls) (hK : va_K D vwCl (ztys tc) s) (hR : zR D tc ad A s h H locs) (hA : ∀ q, s.heap.size ≤ q → A q)
    {idx N : Nat} {n : Int32} (hw : Cond.classLink own idx "KeyTour$Level" ∈ gT) (hO : va_AO "KeyTour$Level" s) (hn : zN h < 900000) (h0 : ¬ n < 0) (hN : n.toNatClampNeg = N) (hby : N ≤ 60000000) (hc : cells + 1 ≤ R.cells) (hs : slots + N ≤ R.slots) (hd : decode cc pc = .ok (.anewarray idx, 3))
    (kk : ∀ (ad2 : Nat → Nat) (H1 : Heap), zext (zN h) ad ad2 → zR D tc ad2 A s (znew h 5 N) H1 locs → W p l e R s m args below meth c H1 locs (cells + 1) (slots + N) Q (F0 m (pc + 3) ls (.ref (ad2 (zN h)) :: rest))) : W p l e R s m args below meth c H locs cells slots Q (F0 m pc ls (.int n :: rest)) := by
  refine va_newq hx hb hown (hts _ hw) hO hK hR.1 hR.2.1 hR.2.2.1 hA h0 hN (by omega) hc hs hd (fun q cA H1 hK1 hP hD hS => ?_)
  have ecA : cA = tc 5 := by
    obtain ⟨kA, comp, -, -, -, h4⟩ := (hK1.2 6 (cA, .object "KeyTour$Level") rfl).2
    obtain ⟨kA2, comp2, -, -, -, h5⟩ := (hK.2 5 (tc 5, .object "KeyTour$Level") rfl).2
    exact Option.some.inj (h4.symm.trans h5)
  subst ecA
  have e1 : zK (znew h 5 N) (zN h) = (5, N) := zrow_self _ _ _
  have e4 : zP (znew h 5 N) (zN h) = fun _ => none := zrow_self _ _ _
  have hpush : zws tc ad h ++ [(q, .inl (tc 5, N, .inr (.inr (.inr (.inr (fun _ => none))))))] = zws tc (znad ad (zN h) q) (znew h 5 N) := zws_push rfl znad_self (by simp [zent, e1, e4]) (znew_ent hR.2.2.2)
  rw [hpush] at hP hD
  have := kk (znad ad (zN h) q) H1 (znad_ext (Nat.le_of_lt hn)) ⟨hP, hD, hS, znew_ok hR.2.2.2 hn⟩
  rw [znad_self] at this
  exact this
theorem zsim_putI (hx : p.tables.exec = Jvm.exec) (hb : c.code = cc) (hts : ∀ w ∈ gT, w.before args s = true) (hown : s.vm.findClass own = some m.cls) (hK : va_K D vwCl (ztys tc) s) (hR : zR D tc ad A s h H locs)
    {idx ci j a : Nat} (hci : ci < 8) (hj : j < zcn ci) (ha : a < zN h) (hk : zK h a = (ci + 6, zcn ci)) (hlink : Cond.fieldLink own idx (zcT ci j).1 (zcT ci j).2.1 (zcT ci j).2.2.1 ∈ gT)
    (hfin : (zcT ci j).2.2.2 = false ∨ ((zcT ci j).2.2.2 = true ∧ meth.name = "<init>" ∧ (zcT ci j).1 = own)) (hty : zty ci j = .int) {x : Int32} (hd : decode cc pc = .ok (.putfield idx, 3))
    (kk : ∀ (H1 : Heap) (locs1 : List Loc), zR D tc ad A s (zsI h a j x) H1 locs1 → W p l e R s m args below meth c H1 locs1 cells slots Q (F0 m (pc + 3) ls rest)) : W p l e R s m args below meth c H locs cells slots Q (F0 m pc ls (.int x :: .ref (ad a) :: rest)) := by
  refine zsim_put hx hb hts hown hK hR hci hj ha hk hlink hfin (v := .int x) (by rw [hty]; rfl) (by rw [hty]; rfl) hd (h2 := zsI h a j x) rfl rfl ?_ ?_ zsI_ent hR.2.2.2 kk
  · rw [hty]; exact congrArg Value.int zsI_at
  · intro i hi cd; unfold zfv; split <;> first | rfl | exact congrArg Value.int (zsI_off hi)
theorem zsim_putZ (hx : p.tables.exec = Jvm.exec) (hb : c.code = cc) (hts : ∀ w ∈ gT, w.before args s = true) (hown : s.vm.findClass own = some m.cls) (hK : va_K D vwCl (ztys tc) s) (hR : zR D tc ad A s h H locs)
    {idx ci j a : Nat} (hci : ci < 8) (hj : j < zcn ci) (ha : a < zN h) (hk : zK h a = (ci + 6, zcn ci)) (hlink : Cond.fieldLink own idx (zcT ci j).1 (zcT ci j).2.1 (zcT ci j).2.2.1 ∈ gT)
    (hfin : (zcT ci j).2.2.2 = false ∨ ((zcT ci j).2.2.2 = true ∧ meth.name = "<init>" ∧ (zcT ci j).1 = own)) (hty : zty ci j = .boolean) {x : Int32} (hz : x = 0 ∨ x = 1) (hd : decode cc pc = .ok (.putfield idx, 3))
    (kk : ∀ (H1 : Heap) (locs1 : List Loc), zR D tc ad A s (zsI h a j x) H1 locs1 → W p l e R s m args below meth c H1 locs1 cells slots Q (F0 m (pc + 3) ls rest)) : W p l e R s m args below meth c H locs cells slots Q (F0 m pc ls (.int x :: .ref (ad a) :: rest)) := by
  refine zsim_put hx hb hts hown hK hR hci hj ha hk hlink hfin (v := .int x) (by rw [hty]; rcases hz with rfl | rfl <;> rfl) (by rw [hty]; rcases hz with rfl | rfl <;> rfl) hd (h2 := zsI h a j x) rfl rfl ?_ ?_ zsI_ent hR.2.2.2 kk
  · rw [hty]; exact congrArg Value.int zsI_at
  · intro i hi cd; unfold zfv; split <;> first | rfl | exact congrArg Value.int (zsI_off hi)
theorem zsim_putB (hx : p.tables.exec = Jvm.exec) (hb : c.code = cc) (hts : ∀ w ∈ gT, w.before args s = true) (hown : s.vm.findClass own = some m.cls) (hK : va_K D vwCl (ztys tc) s) (hR : zR D tc ad A s h H locs)
    {idx ci j a : Nat} (hci : ci < 8) (hj : j < zcn ci) (ha : a < zN h) (hk : zK h a = (ci + 6, zcn ci)) (hlink : Cond.fieldLink own idx (zcT ci j).1 (zcT ci j).2.1 (zcT ci j).2.2.1 ∈ gT)
    (hfin : (zcT ci j).2.2.2 = false ∨ ((zcT ci j).2.2.2 = true ∧ meth.name = "<init>" ∧ (zcT ci j).1 = own)) (hty : zty ci j = .byte) {x : Int32} (hz : x.toInt8.toInt32 = x) (hd : decode cc pc = .ok (.putfield idx, 3))
    (kk : ∀ (H1 : Heap) (locs1 : List Loc), zR D tc ad A s (zsI h a j x) H1 locs1 → W p l e R s m args below meth c H1 locs1 cells slots Q (F0 m (pc + 3) ls rest)) : W p l e R s m args below meth c H locs cells slots Q (F0 m pc ls (.int x :: .ref (ad a) :: rest)) := by
  refine zsim_put hx hb hts hown hK hR hci hj ha hk hlink hfin (v := .int x) (by rw [hty, ← hz]; exact pk_nb _) (by rw [hty, ← hz]; exact pk_fb _) hd (h2 := zsI h a j x) rfl rfl ?_ ?_ zsI_ent hR.2.2.2 kk
  · rw [hty]; exact congrArg Value.int zsI_at
  · intro i hi cd; unfold zfv; split <;> first | rfl | exact congrArg Value.int (zsI_off hi)
theorem zsim_putJ (hx : p.tables.exec = Jvm.exec) (hb : c.code = cc) (hts : ∀ w ∈ gT, w.before args s = true) (hown : s.vm.findClass own = some m.cls) (hK : va_K D vwCl (ztys tc) s) (hR : zR D tc ad A s h H locs)
    {idx ci j a : Nat} (hci : ci < 8) (hj : j < zcn ci) (ha : a < zN h) (hk : zK h a = (ci + 6, zcn ci)) (hlink : Cond.fieldLink own idx (zcT ci j).1 (zcT ci j).2.1 (zcT ci j).2.2.1 ∈ gT)
    (hfin : (zcT ci j).2.2.2 = false ∨ ((zcT ci j).2.2.2 = true ∧ meth.name = "<init>" ∧ (zcT ci j).1 = own)) (hty : zty ci j = .long) {x : Int64} (hd : decode cc pc = .ok (.putfield idx, 3))
    (kk : ∀ (H1 : Heap) (locs1 : List Loc), zR D tc ad A s (zsJ h a j x) H1 locs1 → W p l e R s m args below meth c H1 locs1 cells slots Q (F0 m (pc + 3) ls rest)) : W p l e R s m args below meth c H locs cells slots Q (F0 m pc ls (.long x :: .ref (ad a) :: rest)) := by
  refine zsim_put hx hb hts hown hK hR hci hj ha hk hlink hfin (v := .long x) (by rw [hty]; rfl) (by rw [hty]; rfl) hd (h2 := zsJ h a j x) rfl rfl ?_ ?_ zsJ_ent hR.2.2.2 kk
  · rw [hty]; exact congrArg Value.long zsJ_at
  · intro i hi cd; unfold zfv; split <;> first | rfl | exact congrArg Value.long (zsJ_off hi)
theorem zsim_putP (hx : p.tables.exec = Jvm.exec) (hb : c.code = cc) (hts : ∀ w ∈ gT, w.before args s = true) (hown : s.vm.findClass own = some m.cls) (hK : va_K D vwCl (ztys tc) s) (hR : zR D tc ad A s h H locs)
    {idx ci j a : Nat} (hci : ci < 8) (hj : j < zcn ci) (ha : a < zN h) (hk : zK h a = (ci + 6, zcn ci)) (hlink : Cond.fieldLink own idx (zcT ci j).1 (zcT ci j).2.1 (zcT ci j).2.2.1 ∈ gT)
    (hfin : (zcT ci j).2.2.2 = false ∨ ((zcT ci j).2.2.2 = true ∧ meth.name = "<init>" ∧ (zcT ci j).1 = own)) (hty : zcode (zty ci j) = 2) {q : Nat} (hq : q < zN h) (hd : decode cc pc = .ok (.putfield idx, 3))
    (kk : ∀ (H1 : Heap) (locs1 : List Loc), zR D tc ad A s (zsP h a j (some q)) H1 locs1 → W p l e R s m args below meth c H1 locs1 cells slots Q (F0 m (pc + 3) ls rest)) : W p l e R s m args below meth c H locs cells slots Q (F0 m pc ls (.ref (ad q) :: .ref (ad a) :: rest)) := by
  refine zsim_put hx hb hts hown hK hR hci hj ha hk hlink hfin (v := .ref (ad q)) (by revert hty; cases zty ci j <;> simp [zcode, narrow]) (by revert hty; cases zty ci j <;> simp [zcode, fits]) hd (h2 := zsP h a j (some q)) rfl rfl ?_ ?_ zsP_ent (zsP_ok hq hR.2.2.2) kk
  · rw [hty]; show va_rf ((zP (zsP h a j (some q)) a j).map ad) = _; rw [zsP_at]; rfl
  · intro i hi cd; unfold zfv; split <;> first | rfl | (show va_rf ((zP (zsP h a j (some q)) a i).map ad) = _; rw [zsP_off hi])
theorem zsim_clone (hx : p.tables.exec = Jvm.exec) (hb : c.code = cc) (hml : c.maxLocals = ls.size) (hts : ∀ w ∈ gT, w.before args s = true) (hown : s.vm.findClass own = some m.cls) (hK : va_K D vwCl (ztys tc) s) (hR : zR D tc ad A s h H locs) (hA : ∀ q, s.heap.size ≤ q → A q)
    {idx a : Nat} (hw : Cond.methodLink own idx ⟨"[B", "clone", "()Ljava/lang/Object;"⟩ ∈ gT ∧ Cond.sameMethod "[B" "java/lang/Object" "clone" "()Ljava/lang/Object;" ∈ gT ∧ Cond.native ⟨"java/lang/Object", "clone", "()Ljava/lang/Object;"⟩ ∈ gT ∧ Cond.instanceMethod ⟨"java/lang/Object", "clone", "()Ljava/lang/Object;"⟩ ∈ gT ∧ Cond.selects "[B" ⟨"[B", "clone", "()Ljava/lang/Object;"⟩ ⟨"java/lang/Object", "clone", "()Ljava/lang/Object;"⟩ ∈ gT) (hcl : va_Nw (.castable "[B" "java/lang/Cloneable") s) (ha : a < zN h) (hk : (zK h a).1 = 2) (hn : zN h < 900000) (hfit : ∀ i, i < (zK h a).2 → (zI h a i).toInt8.toInt32 = zI h a i) (hfr : 1 ≤ R.frames) (hlo : (rest.map fun v => v.category).sum + 14 ≤ R.locals) (hc : cells + 1 ≤ R.cells) (hs : slots + (zK h a).2 ≤ R.slots) (hd : decode cc pc = .ok (.invokevirtual idx, 3))
    (kk : ∀ (ad2 : Nat → Nat) (H1 : Heap), zext (zN h) ad ad2 → zR D tc ad2 A s (zrI (znew h 2 (zK h a).2) (zN h) (zI h a)) H1 locs → W p l e R s m args below meth c H1 locs (cells + 1) (slots + (zK h a).2) Q (F0 m (pc + 3) ls (.ref (ad2 (zN h)) :: rest))) : W p l e R s m args below meth c H locs cells slots Q (F0 m pc ls (.ref (ad a) :: rest)) := by
  refine va_clone hx hb hml hown (hts _ hw.1) (hts _ hw.2.1) (hts _ hw.2.2.1) (hts _ hw.2.2.2.1) (hts _ hw.2.2.2.2) hcl hK hR.1 hR.2.1 hR.2.2.1 hA a 2 (cA := tc 2) (x := ((zK h a).2, .inl (zI h a))) (ty := .byte) (by rw [zws_get ha]; simp [zent, hk]) rfl (va_nm_byte (hK.2 2 (tc 2, .byte) rfl).2) (va_fit (fun i hi => by rw [← hfit i hi]; exact pk_fb _)) hfr hlo hc hs hd (fun q H1 hK1 hP hD hS => ?_)
  have e1 : zK (zrI (znew h 2 (zK h a).2) (zN h) (zI h a)) (zN h) = (2, (zK h a).2) := zrow_self _ _ _
  have e2 : zI (zrI (znew h 2 (zK h a).2) (zN h) (zI h a)) (zN h) = zI h a := zrow_self _ _ _
  have hpush : zws tc ad h ++ [(q, .inl (tc 2, (zK h a).2, .inl (zI h a)))] = zws tc (znad ad (zN h) q) (zrI (znew h 2 (zK h a).2) (zN h) (zI h a)) := zws_push rfl znad_self (by simp [zent, e1, e2]) (fun b hb => ⟨(znew_ent (tc := tc) (kd := 2) (len := (zK h a).2) hR.2.2.2 b hb).1, (zrI_ent b (Nat.ne_of_lt hb)).trans (znew_ent hR.2.2.2 b hb).2⟩)
  rw [hpush] at hP hD
  have := kk (znad ad (zN h) q) H1 (znad_ext (Nat.le_of_lt hn)) ⟨hP, hD, hS, (znew_ok hR.2.2.2 hn : zokH (znew h 2 (zK h a).2))⟩
  rw [znad_self] at this
  exact this
end ZE
