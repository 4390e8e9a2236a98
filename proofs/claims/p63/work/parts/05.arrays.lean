/-! ARRAYS, NEW CELLS over the abstract heap. -/
section ZA
theorem zsI_ent {tc : Nat → ClassId} {ad : Nat → Nat} {h : zm_H} {a i : Nat} {x : Int32} : ∀ b, b ≠ a → zent tc ad (zsI h a i x) b = zent tc ad h b := fun b hb => zent_congr rfl (by show zrow _ _ _ b = _; rw [zrow_ne _ _ hb]; rfl) rfl (fun _ => rfl) rfl
theorem zrI_ent {tc : Nat → ClassId} {ad : Nat → Nat} {h : zm_H} {a : Nat} {g : Nat → Int32} : ∀ b, b ≠ a → zent tc ad (zrI h a g) b = zent tc ad h b := fun b hb => zent_congr rfl (by show zrow _ _ _ b = _; rw [zrow_ne _ _ hb]; rfl) rfl (fun _ => rfl) rfl
theorem zsJ_ent {tc : Nat → ClassId} {ad : Nat → Nat} {h : zm_H} {a i : Nat} {x : Int64} : ∀ b, b ≠ a → zent tc ad (zsJ h a i x) b = zent tc ad h b := fun b hb => zent_congr rfl rfl (by show zrow _ _ _ b = _; rw [zrow_ne _ _ hb]; rfl) (fun _ => rfl) rfl
theorem zrJ_ent {tc : Nat → ClassId} {ad : Nat → Nat} {h : zm_H} {a : Nat} {g : Nat → Int64} : ∀ b, b ≠ a → zent tc ad (zrJ h a g) b = zent tc ad h b := fun b hb => zent_congr rfl rfl (by show zrow _ _ _ b = _; rw [zrow_ne _ _ hb]; rfl) (fun _ => rfl) rfl
theorem zsP_ent {tc : Nat → ClassId} {ad : Nat → Nat} {h : zm_H} {a i : Nat} {x : Option Nat} : ∀ b, b ≠ a → zent tc ad (zsP h a i x) b = zent tc ad h b := fun b hb => zent_congr rfl rfl rfl (fun y => by rw [show zP (zsP h a i x) b = zP h b from zrow_ne _ _ hb]) rfl
theorem zsD_ent {tc : Nat → ClassId} {ad : Nat → Nat} {h : zm_H} {a i : Nat} {x : UInt64} : ∀ b, b ≠ a → zent tc ad (zsD h a i x) b = zent tc ad h b := fun b hb => zent_congr rfl rfl rfl (fun _ => rfl) (by show zrow _ _ _ b = _; rw [zrow_ne _ _ hb]; rfl)
theorem zsP_ok {h : zm_H} {a i q : Nat} (hq : q < zN h) (h0 : zokH h) : zokH (zsP h a i (some q)) := by
  refine ⟨fun b j k hk => ?_, h0.2⟩
  have hk : zrow (zP h) a (zput (zP h a) i (some q)) b j = some k := hk
  by_cases e : b = a
  · subst e
    rw [zrow_self] at hk
    by_cases e2 : j = i
    · subst e2; rw [zput_self] at hk; cases hk; exact hq
    · rw [zput_ne _ _ e2] at hk; exact h0.1 _ _ _ hk
  · rw [zrow_ne _ _ e] at hk; exact h0.1 _ _ _ hk
end ZA
section ZB
variable {p : Program} {l : Launch} {e : Env} {R : Room} {s : State} {m : MethodId} {args : Array Value} {below : List Frame} {meth : Method} {c : Code} {H : Heap} {locs : List Loc} {cells slots : Nat} {Q : State → Prop}
variable {cc : ByteArray} {pc : Nat} {ls : Array Slot} {rest : List Value} {D : va_G} {tc : Nat → ClassId} {ad : Nat → Nat} {A : Nat → Prop} {h : zm_H} {own : String}
theorem zsim_iald (hx : p.tables.exec = Jvm.exec) (hb : c.code = cc) (hK : va_K D vwCl (ztys tc) s) (hR : zR D tc ad A s h H locs) {a : Nat} (ha : a < zN h) (hk : (zK h a).1 = 0) {i : Int32} (hin : vp_in i (zK h a).2) (hd : decode cc pc = .ok (.iaload, 1)) (kk : W p l e R s m args below meth c H locs cells slots Q (F0 m (pc + 1) ls (.int (zI h a i.toNatClampNeg) :: rest))) : W p l e R s m args below meth c H locs cells slots Q (F0 m pc ls (.int i :: .ref (ad a) :: rest)) :=
  va_iald hx hb hK hR.1 a 0 (cA := tc 0) (n := (zK h a).2) (f := zI h a) (by rw [zws_get ha]; simp [zent, hk]) rfl hin hd kk
theorem zsim_iast (hx : p.tables.exec = Jvm.exec) (hb : c.code = cc) (hK : va_K D vwCl (ztys tc) s) (hR : zR D tc ad A s h H locs) {a : Nat} (ha : a < zN h) (hk : (zK h a).1 = 0) {i : Int32} (hin : vp_in i (zK h a).2) {x : Int32} (hd : decode cc pc = .ok (.iastore, 1)) (kk : ∀ (H1 : Heap) (locs1 : List Loc), zR D tc ad A s (zsI h a i.toNatClampNeg (x)) H1 locs1 → W p l e R s m args below meth c H1 locs1 cells slots Q (F0 m (pc + 1) ls rest)) : W p l e R s m args below meth c H locs cells slots Q (F0 m pc ls (.int x :: .int i :: .ref (ad a) :: rest)) := by
  have hset : (zws tc ad h).set a (ad a, .inl (tc 0, (zK h a).2, .inl (zput (zI h a) i.toNatClampNeg (x)))) = zws tc ad (zsI h a i.toNatClampNeg (x)) := zws_set rfl ha (by
    have e1 : zK (zsI h a i.toNatClampNeg (x)) a = zK h a := rfl
    have e2 : zI (zsI h a i.toNatClampNeg (x)) a = zput (zI h a) i.toNatClampNeg (x) := zrow_self _ _ _
    simp [zent, e1, e2, hk]) zsI_ent
  refine va_iast hx hb hK hR.1 hR.2.1 hR.2.2.1 a 0 (cA := tc 0) (n := (zK h a).2) (f := zI h a) (by rw [zws_get ha]; simp [zent, hk]) rfl hin hd (fun H1 locs1 hP hD hS => ?_)
  replace hP := hset ▸ hP
  replace hD := hset ▸ hD
  exact kk H1 locs1 ⟨hP, hD, hS, hR.2.2.2⟩
theorem zsim_lald (hx : p.tables.exec = Jvm.exec) (hb : c.code = cc) (hK : va_K D vwCl (ztys tc) s) (hR : zR D tc ad A s h H locs) {a : Nat} (ha : a < zN h) (hk : (zK h a).1 = 1) {i : Int32} (hin : vp_in i (zK h a).2) (hd : decode cc pc = .ok (.laload, 1)) (kk : W p l e R s m args below meth c H locs cells slots Q (F0 m (pc + 1) ls (.long (zJ h a i.toNatClampNeg) :: rest))) : W p l e R s m args below meth c H locs cells slots Q (F0 m pc ls (.int i :: .ref (ad a) :: rest)) :=
  va_lald hx hb hK hR.1 a 1 (cA := tc 1) (n := (zK h a).2) (f := zJ h a) (by rw [zws_get ha]; simp [zent, hk]) rfl hin hd kk
theorem zsim_last (hx : p.tables.exec = Jvm.exec) (hb : c.code = cc) (hK : va_K D vwCl (ztys tc) s) (hR : zR D tc ad A s h H locs) {a : Nat} (ha : a < zN h) (hk : (zK h a).1 = 1) {i : Int32} (hin : vp_in i (zK h a).2) {x : Int64} (hd : decode cc pc = .ok (.lastore, 1)) (kk : ∀ (H1 : Heap) (locs1 : List Loc), zR D tc ad A s (zsJ h a i.toNatClampNeg (x)) H1 locs1 → W p l e R s m args below meth c H1 locs1 cells slots Q (F0 m (pc + 1) ls rest)) : W p l e R s m args below meth c H locs cells slots Q (F0 m pc ls (.long x :: .int i :: .ref (ad a) :: rest)) := by
  have hset : (zws tc ad h).set a (ad a, .inl (tc 1, (zK h a).2, .inr (.inl (zput (zJ h a) i.toNatClampNeg (x))))) = zws tc ad (zsJ h a i.toNatClampNeg (x)) := zws_set rfl ha (by
    have e1 : zK (zsJ h a i.toNatClampNeg (x)) a = zK h a := rfl
    have e2 : zJ (zsJ h a i.toNatClampNeg (x)) a = zput (zJ h a) i.toNatClampNeg (x) := zrow_self _ _ _
    simp [zent, e1, e2, hk]) zsJ_ent
  refine va_last hx hb hK hR.1 hR.2.1 hR.2.2.1 a 1 (cA := tc 1) (n := (zK h a).2) (f := zJ h a) (by rw [zws_get ha]; simp [zent, hk]) rfl hin hd (fun H1 locs1 hP hD hS => ?_)
  replace hP := hset ▸ hP
  replace hD := hset ▸ hD
  exact kk H1 locs1 ⟨hP, hD, hS, hR.2.2.2⟩
theorem zsim_bald (hx : p.tables.exec = Jvm.exec) (hb : c.code = cc) (hK : va_K D vwCl (ztys tc) s) (hR : zR D tc ad A s h H locs) {a : Nat} (ha : a < zN h) (hk : (zK h a).1 = 2) {i : Int32} (hin : vp_in i (zK h a).2) (hd : decode cc pc = .ok (.baload, 1)) (kk : W p l e R s m args below meth c H locs cells slots Q (F0 m (pc + 1) ls (.int (zI h a i.toNatClampNeg) :: rest))) : W p l e R s m args below meth c H locs cells slots Q (F0 m pc ls (.int i :: .ref (ad a) :: rest)) :=
  va_bald hx hb hK hR.1 a 2 (cA := tc 2) (n := (zK h a).2) (f := zI h a) (by rw [zws_get ha]; simp [zent, hk]) rfl hin hd kk
theorem zsim_bast (hx : p.tables.exec = Jvm.exec) (hb : c.code = cc) (hK : va_K D vwCl (ztys tc) s) (hR : zR D tc ad A s h H locs) {a : Nat} (ha : a < zN h) (hk : (zK h a).1 = 2) {i : Int32} (hin : vp_in i (zK h a).2) {x : Int32} (hd : decode cc pc = .ok (.bastore, 1)) (kk : ∀ (H1 : Heap) (locs1 : List Loc), zR D tc ad A s (zsI h a i.toNatClampNeg (x.toInt8.toInt32)) H1 locs1 → W p l e R s m args below meth c H1 locs1 cells slots Q (F0 m (pc + 1) ls rest)) : W p l e R s m args below meth c H locs cells slots Q (F0 m pc ls (.int x :: .int i :: .ref (ad a) :: rest)) := by
  have hset : (zws tc ad h).set a (ad a, .inl (tc 2, (zK h a).2, .inl (zput (zI h a) i.toNatClampNeg (x.toInt8.toInt32)))) = zws tc ad (zsI h a i.toNatClampNeg (x.toInt8.toInt32)) := zws_set rfl ha (by
    have e1 : zK (zsI h a i.toNatClampNeg (x.toInt8.toInt32)) a = zK h a := rfl
    have e2 : zI (zsI h a i.toNatClampNeg (x.toInt8.toInt32)) a = zput (zI h a) i.toNatClampNeg (x.toInt8.toInt32) := zrow_self _ _ _
    simp [zent, e1, e2, hk]) zsI_ent
  refine va_bast hx hb hK hR.1 hR.2.1 hR.2.2.1 a 2 (cA := tc 2) (n := (zK h a).2) (f := zI h a) (by rw [zws_get ha]; simp [zent, hk]) rfl hin hd (fun H1 locs1 hP hD hS => ?_)
  rw [vp_nar_byte] at hP hD
  replace hP := hset ▸ hP
  replace hD := hset ▸ hD
  exact kk H1 locs1 ⟨hP, hD, hS, hR.2.2.2⟩
theorem zsim_zald (hx : p.tables.exec = Jvm.exec) (hb : c.code = cc) (hK : va_K D vwCl (ztys tc) s) (hR : zR D tc ad A s h H locs) {a : Nat} (ha : a < zN h) (hk : (zK h a).1 = 3) {i : Int32} (hin : vp_in i (zK h a).2) (hd : decode cc pc = .ok (.baload, 1)) (kk : W p l e R s m args below meth c H locs cells slots Q (F0 m (pc + 1) ls (.int (zI h a i.toNatClampNeg) :: rest))) : W p l e R s m args below meth c H locs cells slots Q (F0 m pc ls (.int i :: .ref (ad a) :: rest)) :=
  va_zald hx hb hK hR.1 a 3 (cA := tc 3) (n := (zK h a).2) (f := zI h a) (by rw [zws_get ha]; simp [zent, hk]) rfl hin hd kk
theorem zsim_zast (hx : p.tables.exec = Jvm.exec) (hb : c.code = cc) (hK : va_K D vwCl (ztys tc) s) (hR : zR D tc ad A s h H locs) {a : Nat} (ha : a < zN h) (hk : (zK h a).1 = 3) {i : Int32} (hin : vp_in i (zK h a).2) {x : Int32} (hz : x = 0 ∨ x = 1) (hd : decode cc pc = .ok (.bastore, 1)) (kk : ∀ (H1 : Heap) (locs1 : List Loc), zR D tc ad A s (zsI h a i.toNatClampNeg (x)) H1 locs1 → W p l e R s m args below meth c H1 locs1 cells slots Q (F0 m (pc + 1) ls rest)) : W p l e R s m args below meth c H locs cells slots Q (F0 m pc ls (.int x :: .int i :: .ref (ad a) :: rest)) := by
  have hset : (zws tc ad h).set a (ad a, .inl (tc 3, (zK h a).2, .inl (zput (zI h a) i.toNatClampNeg (x)))) = zws tc ad (zsI h a i.toNatClampNeg (x)) := zws_set rfl ha (by
    have e1 : zK (zsI h a i.toNatClampNeg (x)) a = zK h a := rfl
    have e2 : zI (zsI h a i.toNatClampNeg (x)) a = zput (zI h a) i.toNatClampNeg (x) := zrow_self _ _ _
    simp [zent, e1, e2, hk]) zsI_ent
  have hv : vp_nar .boolean x = x := by rcases hz with rfl | rfl <;> rfl
  refine va_zast hx hb hK hR.1 hR.2.1 hR.2.2.1 a 3 (cA := tc 3) (n := (zK h a).2) (f := zI h a) (by rw [zws_get ha]; simp [zent, hk]) rfl hin hd (fun H1 locs1 hP hD hS => ?_)
  rw [hv] at hP hD
  replace hP := hset ▸ hP
  replace hD := hset ▸ hD
  exact kk H1 locs1 ⟨hP, hD, hS, hR.2.2.2⟩
theorem zsim_aald (hx : p.tables.exec = Jvm.exec) (hb : c.code = cc) (hK : va_K D vwCl (ztys tc) s) (hR : zR D tc ad A s h H locs) {a q : Nat} (ha : a < zN h) (hk : (zK h a).1 = 5) {i : Int32} (hin : vp_in i (zK h a).2) (hq : zP h a i.toNatClampNeg = some q) (hd : decode cc pc = .ok (.aaload, 1)) (kk : W p l e R s m args below meth c H locs cells slots Q (F0 m (pc + 1) ls (.ref (ad q) :: rest))) : W p l e R s m args below meth c H locs cells slots Q (F0 m pc ls (.int i :: .ref (ad a) :: rest)) := by
  refine va_aldq hx hb hK hR.1 a 5 (cA := tc 5) (C := "KeyTour$Level") (n := (zK h a).2) (f := fun i => (zP h a i).map ad) (by rw [zws_get ha]; simp [zent, hk]) rfl hin hd ?_
  rw [hq]; exact kk
theorem zsim_aast (hx : p.tables.exec = Jvm.exec) (hb : c.code = cc) (hK : va_K D vwCl (ztys tc) s) (hR : zR D tc ad A s h H locs) {a q : Nat} (ha : a < zN h) (hk : (zK h a).1 = 5) (hq : q < zN h) (hkq : (zK h q).1 = 8) {i : Int32} (hin : vp_in i (zK h a).2) (hd : decode cc pc = .ok (.aastore, 1)) (kk : ∀ (H1 : Heap) (locs1 : List Loc), zR D tc ad A s (zsP h a i.toNatClampNeg (some q)) H1 locs1 → W p l e R s m args below meth c H1 locs1 cells slots Q (F0 m (pc + 1) ls rest)) : W p l e R s m args below meth c H locs cells slots Q (F0 m pc ls (.ref (ad q) :: .int i :: .ref (ad a) :: rest)) := by
  have hset : (zws tc ad h).set a (ad a, .inl (tc 5, (zK h a).2, .inr (.inr (.inr (.inr (va_up (fun i => (zP h a i).map ad) i.toNatClampNeg (some (ad q)))))))) = zws tc ad (zsP h a i.toNatClampNeg (some q)) := zws_set rfl ha (by
    have e1 : zK (zsP h a i.toNatClampNeg (some q)) a = zK h a := rfl
    have e2 : zP (zsP h a i.toNatClampNeg (some q)) a = zput (zP h a) i.toNatClampNeg (some q) := zrow_self _ _ _
    have e3 : (fun j => (zput (zP h a) i.toNatClampNeg (some q) j).map ad) = va_up (fun i => (zP h a i).map ad) i.toNatClampNeg (some (ad q)) := by
      funext j
      by_cases ej : j = i.toNatClampNeg <;> simp [zput, va_up, ej]
    simp [zent, e1, e2, hk, e3]) zsP_ent
  refine va_astq hx hb hK hR.1 hR.2.1 hR.2.2.1 a 5 q 2 (cA := tc 5) (r := (RX2, TX2, 15)) (n := (zK h a).2) (vs := zfs ad h q 2 (zK h q).2) (f := fun i => (zP h a i).map ad) (by rw [zws_get ha]; simp [zent, hk]) rfl (by rw [zws_get hq]; simp [zent, hkq]) rfl hin hd (fun H1 locs1 hP hD hS => ?_)
  replace hP := hset ▸ hP
  replace hD := hset ▸ hD
  exact kk H1 locs1 ⟨hP, hD, hS, zsP_ok hq hR.2.2.2⟩
theorem zsim_alen (hx : p.tables.exec = Jvm.exec) (hb : c.code = cc) (hK : va_K D vwCl (ztys tc) s) (hR : zR D tc ad A s h H locs) {a t : Nat} (ha : a < zN h) (hk : (zK h a).1 = t) (ht : t < 6) (hd : decode cc pc = .ok (.arraylength, 1)) (kk : W p l e R s m args below meth c H locs cells slots Q (F0 m (pc + 1) ls (.int (nI (zK h a).2) :: rest))) : W p l e R s m args below meth c H locs cells slots Q (F0 m pc ls (.ref (ad a) :: rest)) := by
  have key : ∃ (y : (Nat → Int32) ⊕ (Nat → Int64) ⊕ (Nat → UInt32) ⊕ (Nat → UInt64) ⊕ (Nat → Option Nat)) (ty : FieldType), zent tc ad h a = .inl (tc t, (zK h a).2, y) ∧ (ztys tc)[t]? = some (tc t, ty) := by
    match t, ht, hk with
    | 0, _, hk => exact ⟨.inl (zI h a), _, by simp [zent, hk], rfl⟩
    | 1, _, hk => exact ⟨.inr (.inl (zJ h a)), _, by simp [zent, hk], rfl⟩
    | 2, _, hk => exact ⟨.inl (zI h a), _, by simp [zent, hk], rfl⟩
    | 3, _, hk => exact ⟨.inl (zI h a), _, by simp [zent, hk], rfl⟩
    | 4, _, hk => exact ⟨.inr (.inr (.inr (.inl (zD h a)))), _, by simp [zent, hk], rfl⟩
    | 5, _, hk => exact ⟨.inr (.inr (.inr (.inr (fun i => (zP h a i).map ad)))), _, by simp [zent, hk], rfl⟩
  obtain ⟨y, ty, he, hty⟩ := key
  exact va_alen hx hb hK hR.1 a t (cA := tc t) (x := ((zK h a).2, y)) (by rw [zws_get ha, he]) hty rfl hd kk
theorem zsim_copyi (hx : p.tables.exec = Jvm.exec) (hb : c.code = cc) (hml : c.maxLocals = ls.size) (hown : s.vm.findClass own = some m.cls) (hts : ∀ w ∈ gT, w.before args s = true) {index : Nat} (hw : Cond.methodLink own index arraycopyName ∈ gT ∧ Cond.native arraycopyName ∈ gT ∧ Cond.static arraycopyName ∈ gT ∧ Cond.initialized "java/lang/System" ∈ gT) (hK : va_K D vwCl (ztys tc) s) (hR : zR D tc ad A s h H locs) {a a0 : Nat} (ha : a < zN h) (ha0 : a0 < zN h) (hk : (zK h a).1 = 0) (hk0 : (zK h a0).1 = 0) {sp dp n : Int32} (h1 : ¬ sp < 0) (h2 : ¬ dp < 0) (h3 : ¬ n < 0) (h4 : sp.toNatClampNeg + n.toNatClampNeg ≤ (zK h a0).2) (h5 : dp.toNatClampNeg + n.toNatClampNeg ≤ (zK h a).2) (hfit : ∀ i, i < n.toNatClampNeg → fits .int (.int (zI h a0 (sp.toNatClampNeg + i))) = true) (hfr : 1 ≤ R.frames) (hlo : (rest.map fun v => v.category).sum + (nativeFrameWords "java/lang/System" "arraycopy" 5 + 11) ≤ R.locals) (hd : decode cc pc = .ok (.invokestatic index, 3)) (kk : ∀ (H1 : Heap) (locs1 : List Loc), zR D tc ad A s (zrI h a (va_cpy (zI h a0) (zI h a) sp.toNatClampNeg dp.toNatClampNeg n.toNatClampNeg)) H1 locs1 → W p l e R s m args below meth c H1 locs1 cells slots Q (F0 m (pc + 3) ls rest)) : W p l e R s m args below meth c H locs cells slots Q (F0 m pc ls (.int n :: .int dp :: .ref (ad a) :: .int sp :: .ref (ad a0) :: rest)) := by
  have hset : (zws tc ad h).set a (ad a, .inl (tc 0, (zK h a).2, .inl (va_cpy (zI h a0) (zI h a) sp.toNatClampNeg dp.toNatClampNeg n.toNatClampNeg))) = zws tc ad (zrI h a (va_cpy (zI h a0) (zI h a) sp.toNatClampNeg dp.toNatClampNeg n.toNatClampNeg)) := zws_set rfl ha (by
    have e1 : zK (zrI h a (va_cpy (zI h a0) (zI h a) sp.toNatClampNeg dp.toNatClampNeg n.toNatClampNeg)) a = zK h a := rfl
    have e2 : zI (zrI h a (va_cpy (zI h a0) (zI h a) sp.toNatClampNeg dp.toNatClampNeg n.toNatClampNeg)) a = (va_cpy (zI h a0) (zI h a) sp.toNatClampNeg dp.toNatClampNeg n.toNatClampNeg) := zrow_self _ _ _
    simp [zent, e1, e2, hk]) zrI_ent
  refine va_copyi hx hb hml hown (hts _ hw.1) (hts _ hw.2.1) (hts _ hw.2.2.1) (hts _ hw.2.2.2) hK hR.1 hR.2.1 hR.2.2.1 a0 a 0 0 (c0 := tc 0) (c1 := tc 0) (n0 := (zK h a0).2) (n1 := (zK h a).2) (f := zI h a0) (g := zI h a) (ty := .int) (by rw [zws_get ha0]; simp [zent, hk0]) (by rw [zws_get ha]; simp [zent, hk]) rfl rfl rfl h1 h2 h3 h4 h5 hfit hfr hlo hd (fun H1 locs1 hP hD hS => ?_)
  replace hP := hset ▸ hP
  replace hD := hset ▸ hD
  exact kk H1 locs1 ⟨hP, hD, hS, hR.2.2.2⟩
theorem zsim_copyz (hx : p.tables.exec = Jvm.exec) (hb : c.code = cc) (hml : c.maxLocals = ls.size) (hown : s.vm.findClass own = some m.cls) (hts : ∀ w ∈ gT, w.before args s = true) {index : Nat} (hw : Cond.methodLink own index arraycopyName ∈ gT ∧ Cond.native arraycopyName ∈ gT ∧ Cond.static arraycopyName ∈ gT ∧ Cond.initialized "java/lang/System" ∈ gT) (hK : va_K D vwCl (ztys tc) s) (hR : zR D tc ad A s h H locs) {a a0 : Nat} (ha : a < zN h) (ha0 : a0 < zN h) (hk : (zK h a).1 = 3) (hk0 : (zK h a0).1 = 3) {sp dp n : Int32} (h1 : ¬ sp < 0) (h2 : ¬ dp < 0) (h3 : ¬ n < 0) (h4 : sp.toNatClampNeg + n.toNatClampNeg ≤ (zK h a0).2) (h5 : dp.toNatClampNeg + n.toNatClampNeg ≤ (zK h a).2) (hfit : ∀ i, i < n.toNatClampNeg → fits .boolean (.int (zI h a0 (sp.toNatClampNeg + i))) = true) (hfr : 1 ≤ R.frames) (hlo : (rest.map fun v => v.category).sum + (nativeFrameWords "java/lang/System" "arraycopy" 5 + 11) ≤ R.locals) (hd : decode cc pc = .ok (.invokestatic index, 3)) (kk : ∀ (H1 : Heap) (locs1 : List Loc), zR D tc ad A s (zrI h a (va_cpy (zI h a0) (zI h a) sp.toNatClampNeg dp.toNatClampNeg n.toNatClampNeg)) H1 locs1 → W p l e R s m args below meth c H1 locs1 cells slots Q (F0 m (pc + 3) ls rest)) : W p l e R s m args below meth c H locs cells slots Q (F0 m pc ls (.int n :: .int dp :: .ref (ad a) :: .int sp :: .ref (ad a0) :: rest)) := by
  have hset : (zws tc ad h).set a (ad a, .inl (tc 3, (zK h a).2, .inl (va_cpy (zI h a0) (zI h a) sp.toNatClampNeg dp.toNatClampNeg n.toNatClampNeg))) = zws tc ad (zrI h a (va_cpy (zI h a0) (zI h a) sp.toNatClampNeg dp.toNatClampNeg n.toNatClampNeg)) := zws_set rfl ha (by
    have e1 : zK (zrI h a (va_cpy (zI h a0) (zI h a) sp.toNatClampNeg dp.toNatClampNeg n.toNatClampNeg)) a = zK h a := rfl
    have e2 : zI (zrI h a (va_cpy (zI h a0) (zI h a) sp.toNatClampNeg dp.toNatClampNeg n.toNatClampNeg)) a = (va_cpy (zI h a0) (zI h a) sp.toNatClampNeg dp.toNatClampNeg n.toNatClampNeg) := zrow_self _ _ _
    simp [zent, e1, e2, hk]) zrI_ent
  refine va_copyi hx hb hml hown (hts _ hw.1) (hts _ hw.2.1) (hts _ hw.2.2.1) (hts _ hw.2.2.2) hK hR.1 hR.2.1 hR.2.2.1 a0 a 3 3 (c0 := tc 3) (c1 := tc 3) (n0 := (zK h a0).2) (n1 := (zK h a).2) (f := zI h a0) (g := zI h a) (ty := .boolean) (by rw [zws_get ha0]; simp [zent, hk0]) (by rw [zws_get ha]; simp [zent, hk]) rfl rfl rfl h1 h2 h3 h4 h5 hfit hfr hlo hd (fun H1 locs1 hP hD hS => ?_)
  replace hP := hset ▸ hP
  replace hD := hset ▸ hD
  exact kk H1 locs1 ⟨hP, hD, hS, hR.2.2.2⟩
theorem zsim_copyb (hx : p.tables.exec = Jvm.exec) (hb : c.code = cc) (hml : c.maxLocals = ls.size) (hown : s.vm.findClass own = some m.cls) (hts : ∀ w ∈ gT, w.before args s = true) {index : Nat} (hw : Cond.methodLink own index arraycopyName ∈ gT ∧ Cond.native arraycopyName ∈ gT ∧ Cond.static arraycopyName ∈ gT ∧ Cond.initialized "java/lang/System" ∈ gT) (hK : va_K D vwCl (ztys tc) s) (hR : zR D tc ad A s h H locs) {a a0 : Nat} (ha : a < zN h) (ha0 : a0 < zN h) (hk : (zK h a).1 = 2) (hk0 : (zK h a0).1 = 2) {sp dp n : Int32} (h1 : ¬ sp < 0) (h2 : ¬ dp < 0) (h3 : ¬ n < 0) (h4 : sp.toNatClampNeg + n.toNatClampNeg ≤ (zK h a0).2) (h5 : dp.toNatClampNeg + n.toNatClampNeg ≤ (zK h a).2) (hfit : ∀ i, i < n.toNatClampNeg → fits .byte (.int (zI h a0 (sp.toNatClampNeg + i))) = true) (hfr : 1 ≤ R.frames) (hlo : (rest.map fun v => v.category).sum + (nativeFrameWords "java/lang/System" "arraycopy" 5 + 11) ≤ R.locals) (hd : decode cc pc = .ok (.invokestatic index, 3)) (kk : ∀ (H1 : Heap) (locs1 : List Loc), zR D tc ad A s (zrI h a (va_cpy (zI h a0) (zI h a) sp.toNatClampNeg dp.toNatClampNeg n.toNatClampNeg)) H1 locs1 → W p l e R s m args below meth c H1 locs1 cells slots Q (F0 m (pc + 3) ls rest)) : W p l e R s m args below meth c H locs cells slots Q (F0 m pc ls (.int n :: .int dp :: .ref (ad a) :: .int sp :: .ref (ad a0) :: rest)) := by
  have hset : (zws tc ad h).set a (ad a, .inl (tc 2, (zK h a).2, .inl (va_cpy (zI h a0) (zI h a) sp.toNatClampNeg dp.toNatClampNeg n.toNatClampNeg))) = zws tc ad (zrI h a (va_cpy (zI h a0) (zI h a) sp.toNatClampNeg dp.toNatClampNeg n.toNatClampNeg)) := zws_set rfl ha (by
    have e1 : zK (zrI h a (va_cpy (zI h a0) (zI h a) sp.toNatClampNeg dp.toNatClampNeg n.toNatClampNeg)) a = zK h a := rfl
    have e2 : zI (zrI h a (va_cpy (zI h a0) (zI h a) sp.toNatClampNeg dp.toNatClampNeg n.toNatClampNeg)) a = (va_cpy (zI h a0) (zI h a) sp.toNatClampNeg dp.toNatClampNeg n.toNatClampNeg) := zrow_self _ _ _
    simp [zent, e1, e2, hk]) zrI_ent
  refine va_copyi hx hb hml hown (hts _ hw.1) (hts _ hw.2.1) (hts _ hw.2.2.1) (hts _ hw.2.2.2) hK hR.1 hR.2.1 hR.2.2.1 a0 a 2 2 (c0 := tc 2) (c1 := tc 2) (n0 := (zK h a0).2) (n1 := (zK h a).2) (f := zI h a0) (g := zI h a) (ty := .byte) (by rw [zws_get ha0]; simp [zent, hk0]) (by rw [zws_get ha]; simp [zent, hk]) rfl rfl rfl h1 h2 h3 h4 h5 hfit hfr hlo hd (fun H1 locs1 hP hD hS => ?_)
  replace hP := hset ▸ hP
  replace hD := hset ▸ hD
  exact kk H1 locs1 ⟨hP, hD, hS, hR.2.2.2⟩
theorem zsim_copyl (hx : p.tables.exec = Jvm.exec) (hb : c.code = cc) (hml : c.maxLocals = ls.size) (hown : s.vm.findClass own = some m.cls) (hts : ∀ w ∈ gT, w.before args s = true) {index : Nat} (hw : Cond.methodLink own index arraycopyName ∈ gT ∧ Cond.native arraycopyName ∈ gT ∧ Cond.static arraycopyName ∈ gT ∧ Cond.initialized "java/lang/System" ∈ gT) (hK : va_K D vwCl (ztys tc) s) (hR : zR D tc ad A s h H locs) {a a0 : Nat} (ha : a < zN h) (ha0 : a0 < zN h) (hk : (zK h a).1 = 1) (hk0 : (zK h a0).1 = 1) {sp dp n : Int32} (h1 : ¬ sp < 0) (h2 : ¬ dp < 0) (h3 : ¬ n < 0) (h4 : sp.toNatClampNeg + n.toNatClampNeg ≤ (zK h a0).2) (h5 : dp.toNatClampNeg + n.toNatClampNeg ≤ (zK h a).2) (hfit : ∀ i, i < n.toNatClampNeg → fits .long (.long (zJ h a0 (sp.toNatClampNeg + i))) = true) (hfr : 1 ≤ R.frames) (hlo : (rest.map fun v => v.category).sum + (nativeFrameWords "java/lang/System" "arraycopy" 5 + 11) ≤ R.locals) (hd : decode cc pc = .ok (.invokestatic index, 3)) (kk : ∀ (H1 : Heap) (locs1 : List Loc), zR D tc ad A s (zrJ h a (va_cpy (zJ h a0) (zJ h a) sp.toNatClampNeg dp.toNatClampNeg n.toNatClampNeg)) H1 locs1 → W p l e R s m args below meth c H1 locs1 cells slots Q (F0 m (pc + 3) ls rest)) : W p l e R s m args below meth c H locs cells slots Q (F0 m pc ls (.int n :: .int dp :: .ref (ad a) :: .int sp :: .ref (ad a0) :: rest)) := by
  have hset : (zws tc ad h).set a (ad a, .inl (tc 1, (zK h a).2, .inr (.inl (va_cpy (zJ h a0) (zJ h a) sp.toNatClampNeg dp.toNatClampNeg n.toNatClampNeg)))) = zws tc ad (zrJ h a (va_cpy (zJ h a0) (zJ h a) sp.toNatClampNeg dp.toNatClampNeg n.toNatClampNeg)) := zws_set rfl ha (by
    have e1 : zK (zrJ h a (va_cpy (zJ h a0) (zJ h a) sp.toNatClampNeg dp.toNatClampNeg n.toNatClampNeg)) a = zK h a := rfl
    have e2 : zJ (zrJ h a (va_cpy (zJ h a0) (zJ h a) sp.toNatClampNeg dp.toNatClampNeg n.toNatClampNeg)) a = (va_cpy (zJ h a0) (zJ h a) sp.toNatClampNeg dp.toNatClampNeg n.toNatClampNeg) := zrow_self _ _ _
    simp [zent, e1, e2, hk]) zrJ_ent
  refine va_copyl hx hb hml hown (hts _ hw.1) (hts _ hw.2.1) (hts _ hw.2.2.1) (hts _ hw.2.2.2) hK hR.1 hR.2.1 hR.2.2.1 a0 a 1 1 (c0 := tc 1) (c1 := tc 1) (n0 := (zK h a0).2) (n1 := (zK h a).2) (f := zJ h a0) (g := zJ h a) (ty := .long) (by rw [zws_get ha0]; simp [zent, hk0]) (by rw [zws_get ha]; simp [zent, hk]) rfl rfl rfl h1 h2 h3 h4 h5 hfit hfr hlo hd (fun H1 locs1 hP hD hS => ?_)
  replace hP := hset ▸ hP
  replace hD := hset ▸ hD
  exact kk H1 locs1 ⟨hP, hD, hS, hR.2.2.2⟩
end ZB
