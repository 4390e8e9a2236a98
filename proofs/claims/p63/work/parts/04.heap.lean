/-! THE ABSTRACT HEAP AND THE MACHINE'S: reads, writes, new cells. -/
section ZT
/-- private methods of the builder, called on its heir -/
def zw_pv : List MethodName := [yJ5_ensureCapacityInternal_d00df, yJ5_newCapacity_0f7a4, yJ5_putStringAt_47b60, yJ5_inflateIfNeededFor_a7421]
def zw_tbl : List Cond := zw_pv.map (fun y => Cond.selects RJ4 y y) ++ lw_tbl
/-- the tables' good words -/
def gT : List Cond := zw_tbl.filter goodWord
theorem gT_in {w : Cond} (h : w ∈ zw_tbl) (g : goodWord w = true) : w ∈ gT := List.mem_filter.mpr ⟨h, g⟩
theorem gT_good {ws : List Cond} (h : ∀ w ∈ ws, w ∈ gT) : GoodIn gT ws := fun w hw => ⟨h w hw, good_of_word (List.mem_filter.mp (h w hw)).2⟩
def zcN : Nat → String
  | 0 => RX0 | 1 => RX1 | 2 => RX2 | 3 => RX3 | 4 => RX4 | 5 => RX5 | 6 => RJ4 | _ => RJ0
def zcT : Nat → u_T
  | 0 => TX0 | 1 => TX1 | 2 => TX2 | 3 => TX3 | 4 => TX4 | 5 => TX5 | 6 => TJ4 | _ => TJ0
def zcn : Nat → Nat
  | 0 => 2 | 1 => 3 | 2 => 15 | 3 => 9 | 4 => 7 | 5 => 12 | 6 => 4 | _ => 4
theorem zcl_at : ∀ ci, ci < 8 → vwCl[ci]? = some (zcN ci, zcT ci, zcn ci) := by
  intro ci h
  match ci, h with
  | 0, _ => rfl
  | 1, _ => rfl
  | 2, _ => rfl
  | 3, _ => rfl
  | 4, _ => rfl
  | 5, _ => rfl
  | 6, _ => rfl
  | 7, _ => rfl
theorem zcty_ok : ∀ ci, ci < 8 → ∀ k, k < zcn ci → parseFieldDescriptor (zcT ci k).2.2.1 = some (zty ci k) := by
  intro ci h
  match ci, h with
  | 0, _ => exact tyX0_ok
  | 1, _ => exact tyX1_ok
  | 2, _ => exact tyX2_ok
  | 3, _ => exact tyX3_ok
  | 4, _ => exact tyX4_ok
  | 5, _ => exact tyX5_ok
  | 6, _ => exact tyJ4_ok
  | 7, _ => exact tyJ0_ok
theorem zcnm_ok : ∀ ci, ci < 8 → ∀ a, a < zcn ci → ∀ b, b < zcn ci → a ≠ b → (zcT ci a).2.1 ≠ (zcT ci b).2.1 := by
  intro ci h
  match ci, h with
  | 0, _ => exact nmX0
  | 1, _ => exact nmX1
  | 2, _ => exact nmX2
  | 3, _ => exact nmX3
  | 4, _ => exact nmX4
  | 5, _ => exact nmX5
  | 6, _ => exact nmJ4
  | 7, _ => exact nmJ0
theorem zcin0 : ∀ w ∈ u_ws RX0 TX0 2, w ∈ gT := fun w h => gT_in ((by decide +kernel : ∀ w ∈ u_ws RX0 TX0 2, w ∈ zw_tbl) w h) ((by decide +kernel : ∀ w ∈ u_ws RX0 TX0 2, goodWord w = true) w h)
theorem zcin1 : ∀ w ∈ u_ws RX1 TX1 3, w ∈ gT := fun w h => gT_in ((by decide +kernel : ∀ w ∈ u_ws RX1 TX1 3, w ∈ zw_tbl) w h) ((by decide +kernel : ∀ w ∈ u_ws RX1 TX1 3, goodWord w = true) w h)
theorem zcin2 : ∀ w ∈ u_ws RX2 TX2 15, w ∈ gT := fun w h => gT_in ((by decide +kernel : ∀ w ∈ u_ws RX2 TX2 15, w ∈ zw_tbl) w h) ((by decide +kernel : ∀ w ∈ u_ws RX2 TX2 15, goodWord w = true) w h)
theorem zcin3 : ∀ w ∈ u_ws RX3 TX3 9, w ∈ gT := fun w h => gT_in ((by decide +kernel : ∀ w ∈ u_ws RX3 TX3 9, w ∈ zw_tbl) w h) ((by decide +kernel : ∀ w ∈ u_ws RX3 TX3 9, goodWord w = true) w h)
theorem zcin4 : ∀ w ∈ u_ws RX4 TX4 7, w ∈ gT := fun w h => gT_in ((by decide +kernel : ∀ w ∈ u_ws RX4 TX4 7, w ∈ zw_tbl) w h) ((by decide +kernel : ∀ w ∈ u_ws RX4 TX4 7, goodWord w = true) w h)
theorem zcin5 : ∀ w ∈ u_ws RX5 TX5 12, w ∈ gT := fun w h => gT_in ((by decide +kernel : ∀ w ∈ u_ws RX5 TX5 12, w ∈ zw_tbl) w h) ((by decide +kernel : ∀ w ∈ u_ws RX5 TX5 12, goodWord w = true) w h)
theorem zcin6 : ∀ w ∈ u_ws RJ4 TJ4 4, w ∈ gT := fun w h => gT_in ((by decide +kernel : ∀ w ∈ u_ws RJ4 TJ4 4, w ∈ zw_tbl) w h) ((by decide +kernel : ∀ w ∈ u_ws RJ4 TJ4 4, goodWord w = true) w h)
theorem zcin7 : ∀ w ∈ u_ws RJ0 TJ0 4, w ∈ gT := fun w h => gT_in ((by decide +kernel : ∀ w ∈ u_ws RJ0 TJ0 4, w ∈ zw_tbl) w h) ((by decide +kernel : ∀ w ∈ u_ws RJ0 TJ0 4, goodWord w = true) w h)
theorem zcin : ∀ ci, ci < 8 → ∀ w ∈ u_ws (zcN ci) (zcT ci) (zcn ci), w ∈ gT := by
  intro ci h
  match ci, h with
  | 0, _ => exact zcin0
  | 1, _ => exact zcin1
  | 2, _ => exact zcin2
  | 3, _ => exact zcin3
  | 4, _ => exact zcin4
  | 5, _ => exact zcin5
  | 6, _ => exact zcin6
  | 7, _ => exact zcin7
-- entries
theorem zfv_congr {ad ad' : Nat → Nat} {h h' : zm_H} {b j c : Nat} (i : zI h' b = zI h b) (jj : zJ h' b = zJ h b) (p : ∀ x, (zP h' b x).map ad' = (zP h b x).map ad) : zfv ad' h' b j c = zfv ad h b j c := by
  unfold zfv
  split
  · rw [jj]
  · rw [p]
  · rw [i]
theorem zfs_congr {ad ad' : Nat → Nat} {h h' : zm_H} {b ci n : Nat} (i : zI h' b = zI h b) (jj : zJ h' b = zJ h b) (p : ∀ x, (zP h' b x).map ad' = (zP h b x).map ad) : zfs ad' h' b ci n = zfs ad h b ci n := by
  unfold zfs
  exact List.map_congr_left fun j _ => zfv_congr i jj p
theorem zent_congr {tc : Nat → ClassId} {ad ad' : Nat → Nat} {h h' : zm_H} {b : Nat} (k : zK h' b = zK h b) (i : zI h' b = zI h b) (jj : zJ h' b = zJ h b) (p : ∀ x, (zP h' b x).map ad' = (zP h b x).map ad) (d : zD h' b = zD h b) : zent tc ad' h' b = zent tc ad h b := by
  unfold zent
  rw [k, i, jj, d]
  split
  · rfl
  · rfl
  · rfl
  · rfl
  · rfl
  · simp only [p]
  · rw [zfs_congr i jj p]
theorem zws_len {tc : Nat → ClassId} {ad : Nat → Nat} {h : zm_H} : (zws tc ad h).length = zN h := by simp [zws]
theorem zws_get {tc : Nat → ClassId} {ad : Nat → Nat} {h : zm_H} {a : Nat} (ha : a < zN h) : (zws tc ad h)[a]? = some (ad a, zent tc ad h a) := by
  simp [zws, ha]
theorem zws_set {tc : Nat → ClassId} {ad : Nat → Nat} {h h' : zm_H} {a : Nat} {en : va_E} (hN : zN h' = zN h) (ha : a < zN h) (he : zent tc ad h' a = en) (ho : ∀ b, b ≠ a → zent tc ad h' b = zent tc ad h b) : (zws tc ad h).set a (ad a, en) = zws tc ad h' := by
  apply List.ext_getElem?
  intro i
  by_cases e : i = a
  · subst e
    rw [List.getElem?_set, if_pos rfl, if_pos (by rw [zws_len]; exact ha), zws_get (by rw [hN]; exact ha), he]
  · rw [List.getElem?_set_ne (Ne.symm e)]
    by_cases hi : i < zN h
    · rw [zws_get hi, zws_get (by rw [hN]; exact hi), ho i e]
    · rw [List.getElem?_eq_none (by rw [zws_len]; omega), List.getElem?_eq_none (by rw [zws_len, hN]; omega)]
theorem zws_push {tc : Nat → ClassId} {ad ad' : Nat → Nat} {h h' : zm_H} {q : Nat} {en : va_E} (hN : zN h' = zN h + 1) (hq : ad' (zN h) = q) (he : zent tc ad' h' (zN h) = en) (ho : ∀ b, b < zN h → ad' b = ad b ∧ zent tc ad' h' b = zent tc ad h b) : zws tc ad h ++ [(q, en)] = zws tc ad' h' := by
  unfold zws
  rw [hN, List.range_succ, List.map_append]
  congr 1
  · exact List.map_congr_left fun b hb => by rw [(ho b (List.mem_range.mp hb)).1, (ho b (List.mem_range.mp hb)).2]
  · simp [hq, he]
theorem zfs_at {ad : Nat → Nat} {h : zm_H} {a ci n j : Nat} (hj : j < n) : (zfs ad h a ci n)[j]? = some (zfv ad h a j (zcode (zty ci j))) := by
  simp [zfs, hj]
theorem zfs_set {ad : Nat → Nat} {h h' : zm_H} {a ci n j : Nat} {v : Value} (hv : zfv ad h' a j (zcode (zty ci j)) = v) (ho : ∀ i, i ≠ j → ∀ c, zfv ad h' a i c = zfv ad h a i c) : (zfs ad h a ci n).set j v = zfs ad h' a ci n := by
  apply List.ext_getElem?
  intro i
  by_cases e : i = j
  · subst e
    rw [List.getElem?_set, if_pos rfl]
    by_cases hi : i < n
    · rw [if_pos (by simp [zfs, hi]), zfs_at hi, hv]
    · rw [if_neg (by simp [zfs]; omega), List.getElem?_eq_none (by simp [zfs]; omega)]
  · rw [List.getElem?_set_ne (Ne.symm e)]
    by_cases hi : i < n
    · rw [zfs_at hi, zfs_at hi, ho i e]
    · rw [List.getElem?_eq_none (by simp [zfs]; omega), List.getElem?_eq_none (by simp [zfs]; omega)]
theorem zrow_self {α : Type} (f : Nat → α) (a : Nat) (g : α) : zrow f a g a = g := by simp [zrow]
theorem zrow_ne {α : Type} (f : Nat → α) {a b : Nat} (g : α) (h : b ≠ a) : zrow f a g b = f b := by simp [zrow, h]
theorem zput_self {α : Type} (f : Nat → α) (a : Nat) (g : α) : zput f a g a = g := by simp [zput]
theorem zput_ne {α : Type} (f : Nat → α) {a b : Nat} (g : α) (h : b ≠ a) : zput f a g b = f b := by simp [zput, h]
/-- references stay below the number of cells, or are of the read-only range -/
def zokV (n : Nat) (v : Value) : Prop := match v with | .ref k => k < n ∨ 1000000 ≤ k | _ => True
def zokS (n : Nat) (st : List Value) : Prop := ∀ v ∈ st, zokV n v
def zokL (n : Nat) (la : zm_L) : Prop := ∀ v, some v ∈ la → zokV n v
def zokH (h : zm_H) : Prop := (∀ a i k, zP h a i = some k → k < zN h) ∧ zN h ≤ 900000 ∧ ∀ a, zN h ≤ a → (zK h a).1 = 77
/-- the world -/
def zR (D : va_G) (tc : Nat → ClassId) (ad : Nat → Nat) (A : Nat → Prop) (s : State) (h : zm_H) (H : Heap) (locs : List Loc) : Prop :=
  va_P D vwCl (zws tc ad h) H ∧ va_D A (zws tc ad h) ∧ va_S A s.heap H locs ∧ zokH h
end ZT
section ZU
variable {p : Program} {l : Launch} {e : Env} {R : Room} {s : State} {m : MethodId} {args : Array Value} {below : List Frame} {meth : Method} {c : Code} {H : Heap} {locs : List Loc} {cells slots : Nat} {Q : State → Prop}
variable {cc : ByteArray} {pc : Nat} {ls : Array Slot} {rest : List Value} {D : va_G} {tc : Nat → ClassId} {ad : Nat → Nat} {A : Nat → Prop} {h : zm_H} {own : String}
theorem zobj {ci a : Nat} (hk : zK h a = (ci + 6, zcn ci)) : zent tc ad h a = .inr (ci, zfs ad h a ci (zcn ci)) := by simp [zent, hk]
theorem zsim_get (hx : p.tables.exec = Jvm.exec) (hb : c.code = cc) (hts : ∀ w ∈ gT, w.before args s = true) (hown : s.vm.findClass own = some m.cls) (hK : va_K D vwCl (ztys tc) s) (hR : zR D tc ad A s h H locs)
    {idx ci j a : Nat} (hci : ci < 8) (hj : j < zcn ci) (ha : a < zN h) (hk : zK h a = (ci + 6, zcn ci)) (hlink : Cond.fieldLink own idx (zcT ci j).1 (zcT ci j).2.1 (zcT ci j).2.2.1 ∈ gT) (hd : decode cc pc = .ok (.getfield idx, 3))
    (kk : W p l e R s m args below meth c H locs cells slots Q (F0 m (pc + 3) ls (zfv ad h a j (zcode (zty ci j)) :: rest))) : W p l e R s m args below meth c H locs cells slots Q (F0 m pc ls (.ref (ad a) :: rest)) := by
  refine va_get (D := D) (cl := vwCl) (C := zcN ci) (T := zcT ci) (N := zcn ci) (ci := ci) hx hb hts (zcin ci hci) hown hK hR.1 a (by rw [zws_get ha, zobj hk]) (zcl_at ci hci) j hj (hts _ hlink) (fun _ h9 => h9) (zfs_at hj) hd kk
theorem zsim_getN (hx : p.tables.exec = Jvm.exec) (hb : c.code = cc) (hts : ∀ w ∈ gT, w.before args s = true) (hown : s.vm.findClass own = some m.cls) (hK : va_K D vwCl (ztys tc) s) (hR : zR D tc ad A s h H locs)
    {idx ci j a : Nat} {host : String} (hci : ci < 8) (hj : j < zcn ci) (ha : a < zN h) (hk : zK h a = (ci + 6, zcn ci)) (hlink : Cond.fieldLinkNest own idx (zcT ci j).1 (zcT ci j).2.1 (zcT ci j).2.2.1 host ∈ gT) (hd : decode cc pc = .ok (.getfield idx, 3))
    (kk : W p l e R s m args below meth c H locs cells slots Q (F0 m (pc + 3) ls (zfv ad h a j (zcode (zty ci j)) :: rest))) : W p l e R s m args below meth c H locs cells slots Q (F0 m pc ls (.ref (ad a) :: rest)) := by
  refine va_getN (D := D) (cl := vwCl) (C := zcN ci) (T := zcT ci) (N := zcn ci) (ci := ci) hx hb hts (zcin ci hci) hown hK hR.1 a (by rw [zws_get ha, zobj hk]) (zcl_at ci hci) j hj (hts _ hlink) (fun _ h9 => h9) (zfs_at hj) hd kk
/-- a write of a field: h2 is the heap behind it -/
theorem zsim_put (hx : p.tables.exec = Jvm.exec) (hb : c.code = cc) (hts : ∀ w ∈ gT, w.before args s = true) (hown : s.vm.findClass own = some m.cls) (hK : va_K D vwCl (ztys tc) s) (hR : zR D tc ad A s h H locs)
    {idx ci j a : Nat} (hci : ci < 8) (hj : j < zcn ci) (ha : a < zN h) (hk : zK h a = (ci + 6, zcn ci)) (hlink : Cond.fieldLink own idx (zcT ci j).1 (zcT ci j).2.1 (zcT ci j).2.2.1 ∈ gT)
    (hfin : (zcT ci j).2.2.2 = false ∨ ((zcT ci j).2.2.2 = true ∧ meth.name = "<init>" ∧ (zcT ci j).1 = own)) {v : Value} (hn : narrow (zty ci j) v = v) (hfit : fits (zty ci j) v = true) (hd : decode cc pc = .ok (.putfield idx, 3))
    {h2 : zm_H} (e1 : zN h2 = zN h) (e2 : zK h2 = zK h) (e3 : zfv ad h2 a j (zcode (zty ci j)) = v) (e4 : ∀ i, i ≠ j → ∀ cd, zfv ad h2 a i cd = zfv ad h a i cd) (e5 : ∀ b, b ≠ a → zent tc ad h2 b = zent tc ad h b) (e6 : zokH h2)
    (kk : ∀ (H1 : Heap) (locs1 : List Loc), zR D tc ad A s h2 H1 locs1 → W p l e R s m args below meth c H1 locs1 cells slots Q (F0 m (pc + 3) ls rest)) : W p l e R s m args below meth c H locs cells slots Q (F0 m pc ls (v :: .ref (ad a) :: rest)) := by
  have hset : (zws tc ad h).set a (ad a, .inr (ci, (zfs ad h a ci (zcn ci)).set j v)) = zws tc ad h2 :=
    zws_set e1 ha (by rw [zobj (h := h2) (by rw [e2]; exact hk), zfs_set e3 e4]) e5
  have hlen : j < (zfs ad h a ci (zcn ci)).length := by simp [zfs, hj]
  rcases hfin with hfin | ⟨hfin, hin, hdecl⟩
  · refine va_put (D := D) (cl := vwCl) (C := zcN ci) (T := zcT ci) (N := zcn ci) (ci := ci) hx hb hts (zcin ci hci) (zty ci) (zcty_ok ci hci) (zcnm_ok ci hci) hown hK hR.1 hR.2.1 hR.2.2.1 a (by rw [zws_get ha, zobj hk]) (zcl_at ci hci) j hj (hts _ hlink) (fun _ h9 => h9) hfin (zcty_ok ci hci j hj) hn hfit hlen hd (fun H1 locs1 hP hD hS => ?_)
    rw [hset] at hP hD
    exact kk H1 locs1 ⟨hP, hD, hS, e6⟩
  · refine va_putF (D := D) (cl := vwCl) (C := zcN ci) (T := zcT ci) (N := zcn ci) (ci := ci) hx hb hts (zcin ci hci) (zty ci) (zcty_ok ci hci) (zcnm_ok ci hci) hown hK hR.1 hR.2.1 hR.2.2.1 a (by rw [zws_get ha, zobj hk]) (zcl_at ci hci) j hj (hts _ hlink) (fun _ h9 => h9) hfin hin hdecl (zcty_ok ci hci j hj) hn hfit hlen hd (fun H1 locs1 hP hD hS => ?_)
    rw [hset] at hP hD
    exact kk H1 locs1 ⟨hP, hD, hS, e6⟩
end ZU
