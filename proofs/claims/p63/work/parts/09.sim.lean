/-! ONE ABSTRACT STEP IS A STEP OF THE MACHINE, group by group. -/
section ZX
def zCx (p : Program) (l : Launch) (R : Room) (s : State) (m : MethodId) (args : Array Value) (meth : Method) (c : Code) (own : String) (M : zm_M) (D : va_G) (tc : Nat → ClassId) (A : Nat → Prop) : Prop :=
  p.tables.exec = Jvm.exec ∧ c.code = zmB M ∧ c.maxLocals = zmL M ∧ s.vm.findClass own = some m.cls ∧ (∀ w ∈ gT, w.before args s = true) ∧ va_K D vwCl (ztys tc) s ∧ (∀ q, s.heap.size ≤ q → A q) ∧ (zmRoom M).frames ≤ R.frames ∧ (zmRoom M).locals ≤ R.locals ∧ meth.locks = false ∧ l.stackTraces = false ∧ meth.name = (zmY M).name ∧ meth.sig.returnType = zmR M
theorem zdec_ok {b : ByteArray} {r : zm_R} (h : zdec b r = true) (hn : ∀ d lo hi o, rI r ≠ .tableswitch d lo hi o) : decode b (rP r) = .ok (rI r, zlen (rI r)) := by
  unfold zdec at h
  split at h
  · rename_i d lo hi o e; exact absurd e (hn d lo hi o)
  · exact of_decide_eq_true h
theorem znx_ok {rows : List zm_R} {i : Nat} {r : zm_R} {c s : Nat} (h : znx rows i r c s = true) : ∃ r2, rows[i + 1]? = some r2 ∧ rP r2 = rP r + zlen (rI r) ∧ (rN r).1 + c ≤ (rN r2).1 ∧ (rN r).2 + s ≤ (rN r2).2 := by
  unfold znx at h
  split at h
  · rename_i r2 e
    simp only [Bool.and_eq_true, decide_eq_true_eq] at h
    exact ⟨r2, e, h.1.1, h.1.2, h.2⟩
  · cases h
theorem ztg_ok {rows : List zm_R} {r : zm_R} {t : Nat} {off : Int} (h : ztg rows r t off = true) : ∃ r2, rows[t]? = some r2 ∧ (rP r : Int) + off = (rP r2 : Int) ∧ (rN r).1 ≤ (rN r2).1 ∧ (rN r).2 ≤ (rN r2).2 := by
  unfold ztg at h
  split at h
  · rename_i r2 e
    simp only [Bool.and_eq_true, decide_eq_true_eq] at h
    exact ⟨r2, e, h.1.1, h.1.2, h.2⟩
  · cases h
theorem zlt_of {n : Nat} {h : zm_H} (hh : ∀ a, zN h ≤ a → (zK h a).1 = n) {a : Nat} (hk : (zK h a).1 ≠ n) : a < zN h := by
  rcases Nat.lt_or_ge a (zN h) with q | q
  · exact q
  · exact absurd (hh a q) hk
end ZX
section ZY
variable {p : Program} {l : Launch} {e : Env} {R : Room} {s : State} {m : MethodId} {args : Array Value} {below : List Frame} {meth : Method} {c : Code} {H : Heap} {locs : List Loc} {Q : State → Prop}
variable {own : String} {M : zm_M} {envM : List zm_M} {D : va_G} {tc : Nat → ClassId} {ad : Nat → Nat} {A : Nat → Prop} {h : zm_H} {rows : List zm_R} {i : Nat} {r : zm_R} {la : zm_L} {st : List Value} {ls : Array Slot} {c0 s0 : Nat} {X : Type} {x : X} {k : zm_K X}
/-- on to the next row -/
theorem znext {cc sc : Nat} (hz : zN h ≤ zN h) (hn : znx rows i r cc sc = true)
    (kk : ∀ (i2 : Nat) (r2 : zm_R) (la2 : zm_L) (st2 : List Value) (h2 : zm_H) (ad2 : Nat → Nat) (H2 : Heap) (locs2 : List Loc) (ls2 : Array Slot), rows[i2]? = some r2 → k i2 la2 st2 h2 = some x → zext (zN h) ad ad2 → zN h ≤ zN h2 → zR D tc ad2 A s h2 H2 locs2 → zLh ad2 (zmL M) la2 ls2 → zokS (zN h2) st2 → zokL (zN h2) la2 → W p l e R s m args below meth c H2 locs2 (c0 + (rN r2).1) (s0 + (rN r2).2) Q (F0 m (rP r2) ls2 (st2.map (cv ad2))))
    {la2 : zm_L} {st2 : List Value} {h2 : zm_H} {ad2 : Nat → Nat} {H2 : Heap} {locs2 : List Loc} {ls2 : Array Slot} (hk : k (i + 1) la2 st2 h2 = some x) (he : zext (zN h) ad ad2) (hz2 : zN h ≤ zN h2) (hR2 : zR D tc ad2 A s h2 H2 locs2) (hl2 : zLh ad2 (zmL M) la2 ls2) (hS2 : zokS (zN h2) st2) (hL2 : zokL (zN h2) la2) :
    W p l e R s m args below meth c H2 locs2 (c0 + (rN r).1 + cc) (s0 + (rN r).2 + sc) Q (F0 m (rP r + zlen (rI r)) ls2 (st2.map (cv ad2))) := by
  obtain ⟨r2, e1, e2, e3, e4⟩ := znx_ok hn
  rw [← e2]
  exact W.widen (by omega) (by omega) (kk (i + 1) r2 la2 st2 h2 ad2 H2 locs2 ls2 e1 hk he hz2 hR2 hl2 hS2 hL2)
theorem zjump {t : Nat} {off : Int} (hn : ztg rows r t off = true)
    (kk : ∀ (i2 : Nat) (r2 : zm_R) (la2 : zm_L) (st2 : List Value) (h2 : zm_H) (ad2 : Nat → Nat) (H2 : Heap) (locs2 : List Loc) (ls2 : Array Slot), rows[i2]? = some r2 → k i2 la2 st2 h2 = some x → zext (zN h) ad ad2 → zN h ≤ zN h2 → zR D tc ad2 A s h2 H2 locs2 → zLh ad2 (zmL M) la2 ls2 → zokS (zN h2) st2 → zokL (zN h2) la2 → W p l e R s m args below meth c H2 locs2 (c0 + (rN r2).1) (s0 + (rN r2).2) Q (F0 m (rP r2) ls2 (st2.map (cv ad2))))
    {la2 : zm_L} {st2 : List Value} {h2 : zm_H} {ad2 : Nat → Nat} {H2 : Heap} {locs2 : List Loc} {ls2 : Array Slot} (hk : k t la2 st2 h2 = some x) (he : zext (zN h) ad ad2) (hz2 : zN h ≤ zN h2) (hR2 : zR D tc ad2 A s h2 H2 locs2) (hl2 : zLh ad2 (zmL M) la2 ls2) (hS2 : zokS (zN h2) st2) (hL2 : zokL (zN h2) la2) :
    ∃ tgt : Nat, (rP r : Int) + off = (tgt : Int) ∧ W p l e R s m args below meth c H2 locs2 (c0 + (rN r).1) (s0 + (rN r).2) Q (F0 m tgt ls2 (st2.map (cv ad2))) := by
  obtain ⟨r2, e1, e2, e3, e4⟩ := ztg_ok hn
  exact ⟨rP r2, e2, W.widen (by omega) (by omega) (kk t r2 la2 st2 h2 ad2 H2 locs2 ls2 e1 hk he hz2 hR2 hl2 hS2 hL2)⟩
set_option maxHeartbeats 1000000 in
theorem zs0 (C : zCx p l R s m args meth c own M D tc A) (hdc : zdec (zmB M) r = true) (hR : zR D tc ad A s h H locs) (hl : zLh ad (zmL M) la ls) (hS : zokS (zN h) st) (hL : zokL (zN h) la) (hi : zimm (rI r) (rC r) (rL r) = true) (hsl : zslt (zmL M) (rI r) = true) (hn : znx rows i r 0 0 = true) {la2 : zm_L} {st2 : List Value} (hp : zpure (rI r) (rC r) (rL r) la st = some (la2, st2)) (hk : k (i + 1) la2 st2 h = some x)
    (kk : ∀ (i2 : Nat) (r2 : zm_R) (la2 : zm_L) (st2 : List Value) (h2 : zm_H) (ad2 : Nat → Nat) (H2 : Heap) (locs2 : List Loc) (ls2 : Array Slot), rows[i2]? = some r2 → k i2 la2 st2 h2 = some x → zext (zN h) ad ad2 → zN h ≤ zN h2 → zR D tc ad2 A s h2 H2 locs2 → zLh ad2 (zmL M) la2 ls2 → zokS (zN h2) st2 → zokL (zN h2) la2 → W p l e R s m args below meth c H2 locs2 (c0 + (rN r2).1) (s0 + (rN r2).2) Q (F0 m (rP r2) ls2 (st2.map (cv ad2)))) : W p l e R s m args below meth c H locs (c0 + (rN r).1) (s0 + (rN r).2) Q (F0 m (rP r) ls (st.map (cv ad))) := by
  have hd := zdec_ok hdc (fun d lo hi o e9 => by rw [e9] at hp; cases hp)
  obtain ⟨hL2, hS2⟩ := zpure_ok hp hL hS
  refine zsim_pure (i := rI r) C.1 C.2.1 hd rfl hi hl (fun q => ⟨fun hq => ?_, fun hq => ?_⟩) hp (fun ls2 hl2 => znext (Nat.le_refl _) hn kk hk zext.rf (Nat.le_refl _) hR hl2 hS2 hL2)
  · rcases hq with e9 | e9 | ⟨z, e9⟩ | ⟨f, rfl, e9 | e9⟩ <;> (rw [e9] at hsl; exact of_decide_eq_true hsl)
  · rcases hq with e9 | e9 | ⟨f, rfl, e9 | e9⟩ <;> (rw [e9] at hsl; exact of_decide_eq_true hsl)
set_option maxHeartbeats 4000000 in
theorem zs1 (C : zCx p l R s m args meth c own M D tc A) (hdc : zdec (zmB M) r = true) (hR : zR D tc ad A s h H locs) (hl : zLh ad (zmL M) la ls) (hS : zokS (zN h) st) (hL : zokL (zN h) la) (hs : zg1 r i la st h k = some x) (hc : zchk own M envM rows i r = true) (hg : rG r = 1)
    (kk : ∀ (i2 : Nat) (r2 : zm_R) (la2 : zm_L) (st2 : List Value) (h2 : zm_H) (ad2 : Nat → Nat) (H2 : Heap) (locs2 : List Loc) (ls2 : Array Slot), rows[i2]? = some r2 → k i2 la2 st2 h2 = some x → zext (zN h) ad ad2 → zN h ≤ zN h2 → zR D tc ad2 A s h2 H2 locs2 → zLh ad2 (zmL M) la2 ls2 → zokS (zN h2) st2 → zokL (zN h2) la2 → W p l e R s m args below meth c H2 locs2 (c0 + (rN r2).1) (s0 + (rN r2).2) Q (F0 m (rP r2) ls2 (st2.map (cv ad2)))) : W p l e R s m args below meth c H locs (c0 + (rN r).1) (s0 + (rN r).2) Q (F0 m (rP r) ls (st.map (cv ad))) := by
  unfold zchk at hc
  rw [hg] at hc
  simp only [hdc, Bool.true_and] at hc
  have hx := C.1
  have hb := C.2.1
  unfold zg1 at hs
  split at hs
  · rename_i o t e1 e2
    rw [e1, e2] at hc
    have hd := zdec_ok hdc (fun d lo hi q e9 => by rw [e1] at e9; cases e9)
    rw [e1] at hd
    obtain ⟨tgt, ht, K⟩ := zjump hc kk hs zext.rf (Nat.le_refl _) hR hl hS hL
    exact lv_goto hx hb hd ht K
  · rename_i o t e1 e2
    rw [e1, e2] at hc
    simp only [Bool.and_eq_true] at hc
    have hd := zdec_ok hdc (fun d lo hi q e9 => by rw [e1] at e9; cases e9)
    rw [e1] at hd
    have hzl : zlen (rI r) = 3 := by rw [e1]; rfl
    split at hs
    · obtain ⟨r2, f1, f2, f3, f4⟩ := ztg_ok hc.1
      refine lv_if_eq hx hb hd f2 (fun cq => ?_) (fun cq => ?_)
      · first | rw [if_pos cq] at hs | rw [if_neg cq] at hs
        obtain ⟨tgt, ht, K⟩ := zjump hc.1 kk hs zext.rf (Nat.le_refl _) hR hl (zokS_cons.mp hS).2 hL
        have : tgt = rP r2 := by omega
        rw [← this]; exact K
      · first | rw [if_neg cq] at hs | rw [if_pos cq] at hs
        have K := znext (Nat.le_refl _) hc.2 kk hs zext.rf (Nat.le_refl _) hR hl (zokS_cons.mp hS).2 hL
        rw [hzl] at K
        exact K
    · cases hs
  · rename_i o t e1 e2
    rw [e1, e2] at hc
    simp only [Bool.and_eq_true] at hc
    have hd := zdec_ok hdc (fun d lo hi q e9 => by rw [e1] at e9; cases e9)
    rw [e1] at hd
    have hzl : zlen (rI r) = 3 := by rw [e1]; rfl
    split at hs
    · obtain ⟨r2, f1, f2, f3, f4⟩ := ztg_ok hc.1
      refine lv_if_ne hx hb hd f2 (fun cq => ?_) (fun cq => ?_)
      · first | rw [if_pos cq] at hs | rw [if_neg cq] at hs
        obtain ⟨tgt, ht, K⟩ := zjump hc.1 kk hs zext.rf (Nat.le_refl _) hR hl (zokS_cons.mp hS).2 hL
        have : tgt = rP r2 := by omega
        rw [← this]; exact K
      · first | rw [if_neg cq] at hs | rw [if_pos cq] at hs
        have K := znext (Nat.le_refl _) hc.2 kk hs zext.rf (Nat.le_refl _) hR hl (zokS_cons.mp hS).2 hL
        rw [hzl] at K
        exact K
    · cases hs
  · rename_i o t e1 e2
    rw [e1, e2] at hc
    simp only [Bool.and_eq_true] at hc
    have hd := zdec_ok hdc (fun d lo hi q e9 => by rw [e1] at e9; cases e9)
    rw [e1] at hd
    have hzl : zlen (rI r) = 3 := by rw [e1]; rfl
    split at hs
    · obtain ⟨r2, f1, f2, f3, f4⟩ := ztg_ok hc.1
      refine lv_if_lt hx hb hd f2 (fun cq => ?_) (fun cq => ?_)
      · first | rw [if_pos cq] at hs | rw [if_neg cq] at hs
        obtain ⟨tgt, ht, K⟩ := zjump hc.1 kk hs zext.rf (Nat.le_refl _) hR hl (zokS_cons.mp hS).2 hL
        have : tgt = rP r2 := by omega
        rw [← this]; exact K
      · first | rw [if_neg cq] at hs | rw [if_pos cq] at hs
        have K := znext (Nat.le_refl _) hc.2 kk hs zext.rf (Nat.le_refl _) hR hl (zokS_cons.mp hS).2 hL
        rw [hzl] at K
        exact K
    · cases hs
  · rename_i o t e1 e2
    rw [e1, e2] at hc
    simp only [Bool.and_eq_true] at hc
    have hd := zdec_ok hdc (fun d lo hi q e9 => by rw [e1] at e9; cases e9)
    rw [e1] at hd
    have hzl : zlen (rI r) = 3 := by rw [e1]; rfl
    split at hs
    · obtain ⟨r2, f1, f2, f3, f4⟩ := ztg_ok hc.1
      refine lv_if_ge hx hb hd f2 (fun cq => ?_) (fun cq => ?_)
      · first | rw [if_pos cq] at hs | rw [if_neg cq] at hs
        obtain ⟨tgt, ht, K⟩ := zjump hc.1 kk hs zext.rf (Nat.le_refl _) hR hl (zokS_cons.mp hS).2 hL
        have : tgt = rP r2 := by omega
        rw [← this]; exact K
      · first | rw [if_neg cq] at hs | rw [if_pos cq] at hs
        have K := znext (Nat.le_refl _) hc.2 kk hs zext.rf (Nat.le_refl _) hR hl (zokS_cons.mp hS).2 hL
        rw [hzl] at K
        exact K
    · cases hs
  · rename_i o t e1 e2
    rw [e1, e2] at hc
    simp only [Bool.and_eq_true] at hc
    have hd := zdec_ok hdc (fun d lo hi q e9 => by rw [e1] at e9; cases e9)
    rw [e1] at hd
    have hzl : zlen (rI r) = 3 := by rw [e1]; rfl
    split at hs
    · obtain ⟨r2, f1, f2, f3, f4⟩ := ztg_ok hc.1
      refine lv_if_gt hx hb hd f2 (fun cq => ?_) (fun cq => ?_)
      · first | rw [if_pos cq] at hs | rw [if_neg cq] at hs
        obtain ⟨tgt, ht, K⟩ := zjump hc.1 kk hs zext.rf (Nat.le_refl _) hR hl (zokS_cons.mp hS).2 hL
        have : tgt = rP r2 := by omega
        rw [← this]; exact K
      · first | rw [if_neg cq] at hs | rw [if_pos cq] at hs
        have K := znext (Nat.le_refl _) hc.2 kk hs zext.rf (Nat.le_refl _) hR hl (zokS_cons.mp hS).2 hL
        rw [hzl] at K
        exact K
    · cases hs
  · rename_i o t e1 e2
    rw [e1, e2] at hc
    simp only [Bool.and_eq_true] at hc
    have hd := zdec_ok hdc (fun d lo hi q e9 => by rw [e1] at e9; cases e9)
    rw [e1] at hd
    have hzl : zlen (rI r) = 3 := by rw [e1]; rfl
    split at hs
    · obtain ⟨r2, f1, f2, f3, f4⟩ := ztg_ok hc.1
      refine lv_if_le hx hb hd f2 (fun cq => ?_) (fun cq => ?_)
      · first | rw [if_pos cq] at hs | rw [if_neg cq] at hs
        obtain ⟨tgt, ht, K⟩ := zjump hc.1 kk hs zext.rf (Nat.le_refl _) hR hl (zokS_cons.mp hS).2 hL
        have : tgt = rP r2 := by omega
        rw [← this]; exact K
      · first | rw [if_neg cq] at hs | rw [if_pos cq] at hs
        have K := znext (Nat.le_refl _) hc.2 kk hs zext.rf (Nat.le_refl _) hR hl (zokS_cons.mp hS).2 hL
        rw [hzl] at K
        exact K
    · cases hs
  · rename_i o t e1 e2
    rw [e1, e2] at hc
    simp only [Bool.and_eq_true] at hc
    have hd := zdec_ok hdc (fun d lo hi q e9 => by rw [e1] at e9; cases e9)
    rw [e1] at hd
    have hzl : zlen (rI r) = 3 := by rw [e1]; rfl
    split at hs
    · obtain ⟨r2, f1, f2, f3, f4⟩ := ztg_ok hc.1
      refine lv_icmp_eq hx hb hd f2 (fun cq => ?_) (fun cq => ?_)
      · first | rw [if_pos cq] at hs | rw [if_neg cq] at hs
        obtain ⟨tgt, ht, K⟩ := zjump hc.1 kk hs zext.rf (Nat.le_refl _) hR hl (zokS_cons.mp (zokS_cons.mp hS).2).2 hL
        have : tgt = rP r2 := by omega
        rw [← this]; exact K
      · first | rw [if_neg cq] at hs | rw [if_pos cq] at hs
        have K := znext (Nat.le_refl _) hc.2 kk hs zext.rf (Nat.le_refl _) hR hl (zokS_cons.mp (zokS_cons.mp hS).2).2 hL
        rw [hzl] at K
        exact K
    · cases hs
  · rename_i o t e1 e2
    rw [e1, e2] at hc
    simp only [Bool.and_eq_true] at hc
    have hd := zdec_ok hdc (fun d lo hi q e9 => by rw [e1] at e9; cases e9)
    rw [e1] at hd
    have hzl : zlen (rI r) = 3 := by rw [e1]; rfl
    split at hs
    · obtain ⟨r2, f1, f2, f3, f4⟩ := ztg_ok hc.1
      refine lv_icmp_ne hx hb hd f2 (fun cq => ?_) (fun cq => ?_)
      · first | rw [if_pos cq] at hs | rw [if_neg cq] at hs
        obtain ⟨tgt, ht, K⟩ := zjump hc.1 kk hs zext.rf (Nat.le_refl _) hR hl (zokS_cons.mp (zokS_cons.mp hS).2).2 hL
        have : tgt = rP r2 := by omega
        rw [← this]; exact K
      · first | rw [if_neg cq] at hs | rw [if_pos cq] at hs
        have K := znext (Nat.le_refl _) hc.2 kk hs zext.rf (Nat.le_refl _) hR hl (zokS_cons.mp (zokS_cons.mp hS).2).2 hL
        rw [hzl] at K
        exact K
    · cases hs
  · rename_i o t e1 e2
    rw [e1, e2] at hc
    simp only [Bool.and_eq_true] at hc
    have hd := zdec_ok hdc (fun d lo hi q e9 => by rw [e1] at e9; cases e9)
    rw [e1] at hd
    have hzl : zlen (rI r) = 3 := by rw [e1]; rfl
    split at hs
    · obtain ⟨r2, f1, f2, f3, f4⟩ := ztg_ok hc.1
      refine lv_icmp_lt hx hb hd f2 (fun cq => ?_) (fun cq => ?_)
      · first | rw [if_pos cq] at hs | rw [if_neg cq] at hs
        obtain ⟨tgt, ht, K⟩ := zjump hc.1 kk hs zext.rf (Nat.le_refl _) hR hl (zokS_cons.mp (zokS_cons.mp hS).2).2 hL
        have : tgt = rP r2 := by omega
        rw [← this]; exact K
      · first | rw [if_neg cq] at hs | rw [if_pos cq] at hs
        have K := znext (Nat.le_refl _) hc.2 kk hs zext.rf (Nat.le_refl _) hR hl (zokS_cons.mp (zokS_cons.mp hS).2).2 hL
        rw [hzl] at K
        exact K
    · cases hs
  · rename_i o t e1 e2
    rw [e1, e2] at hc
    simp only [Bool.and_eq_true] at hc
    have hd := zdec_ok hdc (fun d lo hi q e9 => by rw [e1] at e9; cases e9)
    rw [e1] at hd
    have hzl : zlen (rI r) = 3 := by rw [e1]; rfl
    split at hs
    · obtain ⟨r2, f1, f2, f3, f4⟩ := ztg_ok hc.1
      refine lv_icmp_ge hx hb hd f2 (fun cq => ?_) (fun cq => ?_)
      · first | rw [if_pos cq] at hs | rw [if_neg cq] at hs
        obtain ⟨tgt, ht, K⟩ := zjump hc.1 kk hs zext.rf (Nat.le_refl _) hR hl (zokS_cons.mp (zokS_cons.mp hS).2).2 hL
        have : tgt = rP r2 := by omega
        rw [← this]; exact K
      · first | rw [if_neg cq] at hs | rw [if_pos cq] at hs
        have K := znext (Nat.le_refl _) hc.2 kk hs zext.rf (Nat.le_refl _) hR hl (zokS_cons.mp (zokS_cons.mp hS).2).2 hL
        rw [hzl] at K
        exact K
    · cases hs
  · rename_i o t e1 e2
    rw [e1, e2] at hc
    simp only [Bool.and_eq_true] at hc
    have hd := zdec_ok hdc (fun d lo hi q e9 => by rw [e1] at e9; cases e9)
    rw [e1] at hd
    have hzl : zlen (rI r) = 3 := by rw [e1]; rfl
    split at hs
    · obtain ⟨r2, f1, f2, f3, f4⟩ := ztg_ok hc.1
      refine lv_icmp_gt hx hb hd f2 (fun cq => ?_) (fun cq => ?_)
      · first | rw [if_pos cq] at hs | rw [if_neg cq] at hs
        obtain ⟨tgt, ht, K⟩ := zjump hc.1 kk hs zext.rf (Nat.le_refl _) hR hl (zokS_cons.mp (zokS_cons.mp hS).2).2 hL
        have : tgt = rP r2 := by omega
        rw [← this]; exact K
      · first | rw [if_neg cq] at hs | rw [if_pos cq] at hs
        have K := znext (Nat.le_refl _) hc.2 kk hs zext.rf (Nat.le_refl _) hR hl (zokS_cons.mp (zokS_cons.mp hS).2).2 hL
        rw [hzl] at K
        exact K
    · cases hs
  · rename_i o t e1 e2
    rw [e1, e2] at hc
    simp only [Bool.and_eq_true] at hc
    have hd := zdec_ok hdc (fun d lo hi q e9 => by rw [e1] at e9; cases e9)
    rw [e1] at hd
    have hzl : zlen (rI r) = 3 := by rw [e1]; rfl
    split at hs
    · obtain ⟨r2, f1, f2, f3, f4⟩ := ztg_ok hc.1
      refine lv_icmp_le hx hb hd f2 (fun cq => ?_) (fun cq => ?_)
      · first | rw [if_pos cq] at hs | rw [if_neg cq] at hs
        obtain ⟨tgt, ht, K⟩ := zjump hc.1 kk hs zext.rf (Nat.le_refl _) hR hl (zokS_cons.mp (zokS_cons.mp hS).2).2 hL
        have : tgt = rP r2 := by omega
        rw [← this]; exact K
      · first | rw [if_neg cq] at hs | rw [if_pos cq] at hs
        have K := znext (Nat.le_refl _) hc.2 kk hs zext.rf (Nat.le_refl _) hR hl (zokS_cons.mp (zokS_cons.mp hS).2).2 hL
        rw [hzl] at K
        exact K
    · cases hs
  · rename_i o t e1 e2
    rw [e1, e2] at hc
    have hd := zdec_ok hdc (fun d lo hi q e9 => by rw [e1] at e9; cases e9)
    rw [e1] at hd
    split at hs
    · rename_i a s9
      obtain ⟨tgt, ht, K⟩ := zjump hc kk hs zext.rf (Nat.le_refl _) hR hl (zokS_cons.mp hS).2 hL
      exact lv_ifnonnull hx hb hd ht K
    · cases hs
  · rename_i d lo hi os t0 ts e1 e2
    rw [e1, e2] at hc
    simp only [Bool.and_eq_true, decide_eq_true_eq, List.all_eq_true, List.mem_range] at hc
    obtain ⟨⟨hc0, hlen⟩, hts⟩ := hc
    obtain ⟨n9, hd⟩ : ∃ n9, decode (zmB M) (rP r) = .ok (.tableswitch d lo hi os, n9) := by
      unfold zdec at hdc
      rw [e1] at hdc
      simp only [] at hdc
      split at hdc
      · rename_i d2 lo2 hi2 os2 n2 e3
        obtain ⟨rfl, rfl, rfl, rfl⟩ := of_decide_eq_true hdc
        exact ⟨_, e3⟩
      · cases hdc
    split at hs
    · rename_i y s9
      split at hs
      · rename_i ho
        obtain ⟨tgt, ht, K⟩ := zjump hc0 kk hs zext.rf (Nat.le_refl _) hR hl (zokS_cons.mp hS).2 hL
        exact lv_tableOut hx hb hd ho ht K
      · rename_i ho
        split at hs
        · rename_i t e3
          have hj := (List.getElem?_eq_some_iff.mp e3).1
          have h9 := hts _ hj
          rw [show ts.getD (y.toInt - lo).toNat 0 = t by rw [List.getD_eq_getElem?_getD, e3]; rfl] at h9
          obtain ⟨tgt, ht, K⟩ := zjump h9 kk hs zext.rf (Nat.le_refl _) hR hl (zokS_cons.mp hS).2 hL
          refine lv_tableIn hx hb hd (fun q => ho (Or.inl q)) (fun q => ho (Or.inr q)) (off := os.getD (y.toInt - lo).toNat 0) ?_ ht K
          rw [Array.getD_eq_getD_getElem?]
          have h10 : (y.toInt - lo).toNat < os.size := by omega
          simp [h10]
        · cases hs
    · cases hs
  · cases hs
end ZY
