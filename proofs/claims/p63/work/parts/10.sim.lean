/-! ONE ABSTRACT STEP IS A STEP OF THE MACHINE: fields, arrays, new cells, copies, constants. -/
section ZZ
theorem zok_lt {h : zm_H} (hk : zokH h) {a : Nat} : a < zN h ∨ zN h ≤ a := Nat.lt_or_ge _ _
end ZZ
section ZY2
variable {sc : Nat × (Nat → Int32)}
variable {p : Program} {l : Launch} {e : Env} {R : Room} {s : State} {m : MethodId} {args : Array Value} {below : List Frame} {meth : Method} {c : Code} {H : Heap} {locs : List Loc} {Q : State → Prop}
variable {own : String} {M : zm_M} {envM : List zm_M} {D : va_G} {tc : Nat → ClassId} {ad : Nat → Nat} {A : Nat → Prop} {h : zm_H} {rows : List zm_R} {i : Nat} {r : zm_R} {la : zm_L} {st : List Value} {ls : Array Slot} {c0 s0 : Nat} {X : Type} {x : X} {k : zm_K X}
theorem zK77 {h : zm_H} (hk : ∀ a, zN h ≤ a → (zK h a).1 = 77) {a n : Nat} (e : (zK h a).1 = n) (hn : n < 77) : a < zN h := by
  rcases Nat.lt_or_ge a (zN h) with q | q
  · exact q
  · have := hk a q; omega
set_option maxHeartbeats 4000000 in
theorem zs2 (C : zCx p l R s m args meth c own M D tc A) (hdc : zdec (zmB M) r = true) (hR : zR D tc ad A s h H locs) (hl : zLh ad (zmL M) la ls) (hS : zokS (zN h) st) (hL : zokL (zN h) la) (h77 : ∀ a, zN h ≤ a → (zK h a).1 = 77) (hwd : ∀ w ∈ zwd own M envM r, w ∈ gT) (hs : zg2 r i la st h k = some x) (hc : zchk own M envM rows i r = true) (hg : rG r = 2)
    (kk : ∀ (i2 : Nat) (r2 : zm_R) (la2 : zm_L) (st2 : List Value) (h2 : zm_H) (ad2 : Nat → Nat) (H2 : Heap) (locs2 : List Loc) (ls2 : Array Slot), rows[i2]? = some r2 → k i2 la2 st2 h2 = some x → zext (zN h) ad ad2 → zN h ≤ zN h2 → zR D tc ad2 A s h2 H2 locs2 → zLh ad2 (zmL M) la2 ls2 → zokS (zN h2) st2 → zokL (zN h2) la2 → W p l e R s m args below meth c H2 locs2 (c0 + (rN r2).1) (s0 + (rN r2).2) Q (F0 m (rP r2) ls2 (st2.map (cv ad2)))) : W p l e R s m args below meth c H locs (c0 + (rN r).1) (s0 + (rN r).2) Q (F0 m (rP r) ls (st.map (cv ad))) := by
  unfold zchk at hc
  rw [hg] at hc
  simp only [hdc, Bool.true_and] at hc
  have hx := C.1
  have hb := C.2.1
  have hts := C.2.2.2.2.1
  have hown := C.2.2.2.1
  have hK := C.2.2.2.2.2.1
  have hA := C.2.2.2.2.2.2.1
  unfold zg2 at hs
  split at hs
  · rename_i idx ci j nf cd e1 e2
    rw [e1, e2] at hc
    simp only [Bool.and_eq_true, decide_eq_true_eq] at hc
    obtain ⟨⟨⟨⟨hci, hj⟩, rfl⟩, hcd⟩, hn⟩ := hc
    have hd := zdec_ok hdc (fun d lo hi q e9 => by rw [e1] at e9; cases e9)
    have hzl : zlen (rI r) = 3 := by rw [e1]; rfl
    rw [e1] at hd
    have hlink := hwd (.fieldLink own idx (zcT ci j).1 (zcT ci j).2.1 (zcT ci j).2.2.1) (by unfold zwd; rw [hg, e1, e2]; exact List.mem_cons_self)
    split at hs
    · rename_i a s9
      obtain ⟨hk, hs⟩ := zgd_some hs
      have ha : a < zN h := zK77 h77 (congrArg Prod.fst hk) (by simp only []; omega)
      have hS2 := (zokS_cons.mp hS).2
      refine zsim_get hx hb hts hown hK hR hci hj ha hk hlink hd ?_
      rw [← hcd]
      split at hs
      · have K := znext (Nat.le_refl _) hn kk hs zext.rf (Nat.le_refl _) hR hl (zokS_cons.mpr ⟨trivial, hS2⟩) hL
        rw [hzl] at K
        exact K
      · split at hs
        · rename_i q hq
          have K := znext (Nat.le_refl _) hn kk hs zext.rf (Nat.le_refl _) hR hl (zokS_cons.mpr ⟨Or.inl (hR.2.2.2.1 _ _ _ hq), hS2⟩) hL
          rw [hzl] at K
          have ez : zfv ad h a j 2 = .ref (ad q) := by show va_rf ((zP h a j).map ad) = _; rw [hq]; rfl
          rw [ez]
          exact K
        · cases hs
      · rename_i n1 n2
        have K := znext (Nat.le_refl _) hn kk hs zext.rf (Nat.le_refl _) hR hl (zokS_cons.mpr ⟨trivial, hS2⟩) hL
        rw [hzl] at K
        have ez : zfv ad h a j cd = .int (zI h a j) := by
          unfold zfv
          split
          · rename_i q; exact absurd rfl n1
          · rename_i q; exact absurd rfl n2
          · rfl
        rw [ez]
        exact K
    · cases hs
  · rename_i idx ci j nf cd e1 e2
    rw [e1, e2] at hc
    simp only [Bool.and_eq_true, decide_eq_true_eq] at hc
    obtain ⟨⟨⟨⟨⟨hci, hj⟩, rfl⟩, hcd⟩, hfi⟩, hn⟩ := hc
    have hd := zdec_ok hdc (fun d lo hi q e9 => by rw [e1] at e9; cases e9)
    have hzl : zlen (rI r) = 3 := by rw [e1]; rfl
    rw [e1] at hd
    have hlink := hwd (.fieldLink own idx (zcT ci j).1 (zcT ci j).2.1 (zcT ci j).2.2.1) (by unfold zwd; rw [hg, e1, e2]; exact List.mem_cons_self)
    have hfin : (zcT ci j).2.2.2 = false ∨ ((zcT ci j).2.2.2 = true ∧ meth.name = "<init>" ∧ (zcT ci j).1 = own) := by
      split at hfi
      · rename_i hf; exact Or.inl hf
      · rename_i hf
        simp only [Bool.and_eq_true, decide_eq_true_eq] at hfi
        exact Or.inr ⟨hf, by rw [C.2.2.2.2.2.2.2.2.2.2.2.1]; exact hfi.1, hfi.2⟩
    split at hs
    · rename_i y a s9
      obtain ⟨hk, hs⟩ := zgd_some hs
      have ha : a < zN h := zK77 h77 (congrArg Prod.fst hk) (by simp only []; omega)
      refine zsim_putI hx hb hts hown hK hR hci hj ha hk hlink hfin (of_decide_eq_true hcd) hd (fun H1 locs1 hR1 => ?_)
      have K := znext (Nat.le_refl _) hn kk hs zext.rf (Nat.le_refl _) hR1 hl (zokS_cons.mp (zokS_cons.mp hS).2).2 hL
      rw [hzl] at K
      exact K
    · rename_i y a s9
      obtain ⟨⟨hk, hz⟩, hs⟩ := zgd_some hs
      have ha : a < zN h := zK77 h77 (congrArg Prod.fst hk) (by simp only []; omega)
      refine zsim_putZ hx hb hts hown hK hR hci hj ha hk hlink hfin (of_decide_eq_true hcd) hz hd (fun H1 locs1 hR1 => ?_)
      have K := znext (Nat.le_refl _) hn kk hs zext.rf (Nat.le_refl _) hR1 hl (zokS_cons.mp (zokS_cons.mp hS).2).2 hL
      rw [hzl] at K
      exact K
    · rename_i y a s9
      obtain ⟨⟨hk, hz⟩, hs⟩ := zgd_some hs
      have ha : a < zN h := zK77 h77 (congrArg Prod.fst hk) (by simp only []; omega)
      refine zsim_putB hx hb hts hown hK hR hci hj ha hk hlink hfin (of_decide_eq_true hcd) hz hd (fun H1 locs1 hR1 => ?_)
      have K := znext (Nat.le_refl _) hn kk hs zext.rf (Nat.le_refl _) hR1 hl (zokS_cons.mp (zokS_cons.mp hS).2).2 hL
      rw [hzl] at K
      exact K
    · rename_i y a s9
      obtain ⟨hk, hs⟩ := zgd_some hs
      have ha : a < zN h := zK77 h77 (congrArg Prod.fst hk) (by simp only []; omega)
      refine zsim_putJ hx hb hts hown hK hR hci hj ha hk hlink hfin (of_decide_eq_true hcd) hd (fun H1 locs1 hR1 => ?_)
      have K := znext (Nat.le_refl _) hn kk hs zext.rf (Nat.le_refl _) hR1 hl (zokS_cons.mp (zokS_cons.mp hS).2).2 hL
      rw [hzl] at K
      exact K
    · rename_i y a s9
      obtain ⟨⟨hk, hq⟩, hs⟩ := zgd_some hs
      have ha : a < zN h := zK77 h77 (congrArg Prod.fst hk) (by simp only []; omega)
      refine zsim_putP hx hb hts hown hK hR hci hj ha hk hlink hfin (of_decide_eq_true hcd) hq hd (fun H1 locs1 hR1 => ?_)
      have K := znext (Nat.le_refl _) hn kk hs zext.rf (Nat.le_refl _) hR1 hl (zokS_cons.mp (zokS_cons.mp hS).2).2 hL
      rw [hzl] at K
      exact K
    · cases hs
  · cases hs
set_option maxHeartbeats 8000000 in
theorem zs3 {scr : Nat × (Nat → Int32)} (C : zCx p l R s m args meth c own M D tc A) (hdc : zdec (zmB M) r = true) (hR : zR D tc ad A s h H locs) (hl : zLh ad (zmL M) la ls) (hS : zokS (zN h) st) (hL : zokL (zN h) la) (h77 : ∀ a, zN h ≤ a → (zK h a).1 = 77) (hscr : (zmY M).name = "draw" → scr = sc) (hRO : zRO sc A ad s s.heap) (hs : zg3 scr r i la st h k = some x) (hc : zchk own M envM rows i r = true) (hg : rG r = 3)
    (kk : ∀ (i2 : Nat) (r2 : zm_R) (la2 : zm_L) (st2 : List Value) (h2 : zm_H) (ad2 : Nat → Nat) (H2 : Heap) (locs2 : List Loc) (ls2 : Array Slot), rows[i2]? = some r2 → k i2 la2 st2 h2 = some x → zext (zN h) ad ad2 → zN h ≤ zN h2 → zR D tc ad2 A s h2 H2 locs2 → zLh ad2 (zmL M) la2 ls2 → zokS (zN h2) st2 → zokL (zN h2) la2 → W p l e R s m args below meth c H2 locs2 (c0 + (rN r2).1) (s0 + (rN r2).2) Q (F0 m (rP r2) ls2 (st2.map (cv ad2)))) : W p l e R s m args below meth c H locs (c0 + (rN r).1) (s0 + (rN r).2) Q (F0 m (rP r) ls (st.map (cv ad))) := by
  unfold zchk at hc
  rw [hg] at hc
  simp only [hdc, Bool.true_and] at hc
  have hx := C.1
  have hb := C.2.1
  have hts := C.2.2.2.2.1
  have hown := C.2.2.2.1
  have hK := C.2.2.2.2.2.1
  have hA := C.2.2.2.2.2.2.1
  simp only [Bool.and_eq_true] at hc
  have hn := hc.1
  have hc := hc.2
  unfold zg3 at hs
  split at hs
  · rename_i e1 e2
    have hd := zdec_ok hdc (fun d lo hi q e9 => by rw [e1] at e9; cases e9)
    have hzl : zlen (rI r) = 1 := by rw [e1]; rfl
    rw [e1] at hd
    split at hs
    · rename_i j a s9
      obtain ⟨⟨hk, hin⟩, hs⟩ := zgd_some hs
      have ha : a < zN h := zK77 h77 hk (by omega)
      have K := znext (Nat.le_refl _) hn kk hs zext.rf (Nat.le_refl _) hR hl (zokS_cons.mpr ⟨trivial, (zokS_cons.mp (zokS_cons.mp hS).2).2⟩) hL
      rw [hzl] at K
      exact zsim_iald hx hb hK hR ha hk hin hd K
    · cases hs
  · rename_i e1 e2
    have hd := zdec_ok hdc (fun d lo hi q e9 => by rw [e1] at e9; cases e9)
    have hzl : zlen (rI r) = 1 := by rw [e1]; rfl
    rw [e1] at hd
    split at hs
    · rename_i j a s9
      obtain ⟨⟨ha, hin⟩, hs2⟩ := zgd_some hs
      subst ha
      have K := znext (Nat.le_refl _) hn kk hs2 zext.rf (Nat.le_refl _) hR hl (zokS_cons.mpr ⟨trivial, (zokS_cons.mp (zokS_cons.mp hS).2).2⟩) hL
      rw [hzl] at K
      rw [e2] at hc
      simp only [Bool.or_eq_true, Bool.and_eq_true, decide_eq_true_eq] at hc
      have hq := hscr (hc.elim (fun q => absurd q (by omega)) (fun q => q.2))
      subst hq
      exact va_ti hx hb hRO.2.2.2.1.2.2.1 hR.2.2.1 hin rfl hd K
    · cases hs
  · rename_i e1 e2
    have hd := zdec_ok hdc (fun d lo hi q e9 => by rw [e1] at e9; cases e9)
    have hzl : zlen (rI r) = 1 := by rw [e1]; rfl
    rw [e1] at hd
    split at hs
    · rename_i j a s9
      obtain ⟨⟨hk, hin⟩, hs⟩ := zgd_some hs
      have ha : a < zN h := zK77 h77 hk (by omega)
      have K := znext (Nat.le_refl _) hn kk hs zext.rf (Nat.le_refl _) hR hl (zokS_cons.mpr ⟨trivial, (zokS_cons.mp (zokS_cons.mp hS).2).2⟩) hL
      rw [hzl] at K
      exact zsim_lald hx hb hK hR ha hk hin hd K
    · cases hs
  · rename_i e1 e2
    have hd := zdec_ok hdc (fun d lo hi q e9 => by rw [e1] at e9; cases e9)
    have hzl : zlen (rI r) = 1 := by rw [e1]; rfl
    rw [e1] at hd
    split at hs
    · rename_i j a s9
      obtain ⟨⟨hk, hin⟩, hs⟩ := zgd_some hs
      have ha : a < zN h := zK77 h77 hk (by omega)
      have K := znext (Nat.le_refl _) hn kk hs zext.rf (Nat.le_refl _) hR hl (zokS_cons.mpr ⟨trivial, (zokS_cons.mp (zokS_cons.mp hS).2).2⟩) hL
      rw [hzl] at K
      exact zsim_bald hx hb hK hR ha hk hin hd K
    · cases hs
  · rename_i e1 e2
    have hd := zdec_ok hdc (fun d lo hi q e9 => by rw [e1] at e9; cases e9)
    have hzl : zlen (rI r) = 1 := by rw [e1]; rfl
    rw [e1] at hd
    split at hs
    · rename_i j a s9
      obtain ⟨⟨hk, hin⟩, hs⟩ := zgd_some hs
      have ha : a < zN h := zK77 h77 hk (by omega)
      have K := znext (Nat.le_refl _) hn kk hs zext.rf (Nat.le_refl _) hR hl (zokS_cons.mpr ⟨trivial, (zokS_cons.mp (zokS_cons.mp hS).2).2⟩) hL
      rw [hzl] at K
      exact zsim_zald hx hb hK hR ha hk hin hd K
    · cases hs
  · rename_i e1 e2
    have hd := zdec_ok hdc (fun d lo hi q e9 => by rw [e1] at e9; cases e9)
    have hzl : zlen (rI r) = 1 := by rw [e1]; rfl
    rw [e1] at hd
    split at hs
    · rename_i j a s9
      obtain ⟨⟨hk, hin⟩, hs⟩ := zgd_some hs
      have ha : a < zN h := zK77 h77 hk (by omega)
      split at hs
      · rename_i q hq
        have K := znext (Nat.le_refl _) hn kk hs zext.rf (Nat.le_refl _) hR hl (zokS_cons.mpr ⟨Or.inl (hR.2.2.2.1 _ _ _ hq), (zokS_cons.mp (zokS_cons.mp hS).2).2⟩) hL
        rw [hzl] at K
        exact zsim_aald hx hb hK hR ha hk hin hq hd K
      · cases hs
    · cases hs
  · rename_i e1 e2
    have hd := zdec_ok hdc (fun d lo hi q e9 => by rw [e1] at e9; cases e9)
    have hzl : zlen (rI r) = 1 := by rw [e1]; rfl
    rw [e1] at hd
    split at hs
    · rename_i y j a s9
      obtain ⟨⟨hk, hin⟩, hs⟩ := zgd_some hs
      have ha : a < zN h := zK77 h77 hk (by omega)
      refine zsim_iast hx hb hK hR ha hk hin hd (fun H1 locs1 hR1 => ?_)
      have K := znext (Nat.le_refl _) hn kk hs zext.rf (Nat.le_refl _) hR1 hl (zokS_cons.mp (zokS_cons.mp (zokS_cons.mp hS).2).2).2 hL
      rw [hzl] at K
      exact K
    · cases hs
  · rename_i e1 e2
    have hd := zdec_ok hdc (fun d lo hi q e9 => by rw [e1] at e9; cases e9)
    have hzl : zlen (rI r) = 1 := by rw [e1]; rfl
    rw [e1] at hd
    split at hs
    · rename_i y j a s9
      obtain ⟨⟨hk, hin⟩, hs⟩ := zgd_some hs
      have ha : a < zN h := zK77 h77 hk (by omega)
      refine zsim_last hx hb hK hR ha hk hin hd (fun H1 locs1 hR1 => ?_)
      have K := znext (Nat.le_refl _) hn kk hs zext.rf (Nat.le_refl _) hR1 hl (zokS_cons.mp (zokS_cons.mp (zokS_cons.mp hS).2).2).2 hL
      rw [hzl] at K
      exact K
    · cases hs
  · rename_i e1 e2
    have hd := zdec_ok hdc (fun d lo hi q e9 => by rw [e1] at e9; cases e9)
    have hzl : zlen (rI r) = 1 := by rw [e1]; rfl
    rw [e1] at hd
    split at hs
    · rename_i y j a s9
      obtain ⟨⟨hk, hin⟩, hs⟩ := zgd_some hs
      have ha : a < zN h := zK77 h77 hk (by omega)
      refine zsim_bast hx hb hK hR ha hk hin hd (fun H1 locs1 hR1 => ?_)
      have K := znext (Nat.le_refl _) hn kk hs zext.rf (Nat.le_refl _) hR1 hl (zokS_cons.mp (zokS_cons.mp (zokS_cons.mp hS).2).2).2 hL
      rw [hzl] at K
      exact K
    · cases hs
  · rename_i e1 e2
    have hd := zdec_ok hdc (fun d lo hi q e9 => by rw [e1] at e9; cases e9)
    have hzl : zlen (rI r) = 1 := by rw [e1]; rfl
    rw [e1] at hd
    split at hs
    · rename_i y j a s9
      obtain ⟨⟨⟨hk, hin⟩, hz⟩, hs⟩ := zgd_some hs
      have ha : a < zN h := zK77 h77 hk (by omega)
      refine zsim_zast hx hb hK hR ha hk hin hz hd (fun H1 locs1 hR1 => ?_)
      have K := znext (Nat.le_refl _) hn kk hs zext.rf (Nat.le_refl _) hR1 hl (zokS_cons.mp (zokS_cons.mp (zokS_cons.mp hS).2).2).2 hL
      rw [hzl] at K
      exact K
    · cases hs
  · rename_i e1 e2
    have hd := zdec_ok hdc (fun d lo hi q e9 => by rw [e1] at e9; cases e9)
    have hzl : zlen (rI r) = 1 := by rw [e1]; rfl
    rw [e1] at hd
    split at hs
    · rename_i y j a s9
      obtain ⟨⟨⟨hk, hin⟩, hkq⟩, hs⟩ := zgd_some hs
      have hq : y < zN h := zK77 h77 hkq (by omega)
      have ha : a < zN h := zK77 h77 hk (by omega)
      refine zsim_aast hx hb hK hR ha hk hq hkq hin hd (fun H1 locs1 hR1 => ?_)
      have K := znext (Nat.le_refl _) hn kk hs zext.rf (Nat.le_refl _) hR1 hl (zokS_cons.mp (zokS_cons.mp (zokS_cons.mp hS).2).2).2 hL
      rw [hzl] at K
      exact K
    · cases hs
  · rename_i e1 e2
    have hd := zdec_ok hdc (fun d lo hi q e9 => by rw [e1] at e9; cases e9)
    have hzl : zlen (rI r) = 1 := by rw [e1]; rfl
    rw [e1] at hd
    split at hs
    · rename_i a s9
      obtain ⟨ha, hs2⟩ := zgd_some hs
      subst ha
      have K := znext (Nat.le_refl _) hn kk hs2 zext.rf (Nat.le_refl _) hR hl (zokS_cons.mpr ⟨trivial, (zokS_cons.mp hS).2⟩) hL
      rw [hzl] at K
      rw [e2] at hc
      simp only [Bool.or_eq_true, Bool.and_eq_true, decide_eq_true_eq] at hc
      have hq := hscr (hc.elim (fun q => absurd q (by omega)) (fun q => q.2))
      subst hq
      exact va_tlen hx hb hRO.2.2.2.1.2.2.1 hR.2.2.1 rfl hd K
    · cases hs
  · rename_i t n9 e1 e2
    have hd := zdec_ok hdc (fun d lo hi q e9 => by rw [e1] at e9; cases e9)
    have hzl : zlen (rI r) = 1 := by rw [e1]; rfl
    rw [e1] at hd
    rw [e2] at hc
    simp only [Bool.or_eq_true, Bool.and_eq_true, decide_eq_true_eq] at hc
    have ht : t < 6 := hc.elim id (fun q => absurd q.1 n9)
    split at hs
    · rename_i a s9
      obtain ⟨hk, hs⟩ := zgd_some hs
      have K := znext (Nat.le_refl _) hn kk hs zext.rf (Nat.le_refl _) hR hl (zokS_cons.mpr ⟨trivial, (zokS_cons.mp hS).2⟩) hL
      rw [hzl] at K
      exact zsim_alen hx hb hK hR (zK77 h77 hk (by omega)) hk ht hd K
    · cases hs
  · cases hs
set_option maxHeartbeats 4000000 in
theorem zs4 (C : zCx p l R s m args meth c own M D tc A) (hdc : zdec (zmB M) r = true) (hR : zR D tc ad A s h H locs) (hl : zLh ad (zmL M) la ls) (hS : zokS (zN h) st) (hL : zokL (zN h) la) (hRO : zRO sc A ad s s.heap) (hcR : c0 + zmC M ≤ R.cells) (hsR : s0 + zmS M ≤ R.slots) (hwd : ∀ w ∈ zwd own M envM r, w ∈ gT) (hs : zg4 r i la st h k = some x) (hc : zchk own M envM rows i r = true) (hg : rG r = 4)
    (kk : ∀ (i2 : Nat) (r2 : zm_R) (la2 : zm_L) (st2 : List Value) (h2 : zm_H) (ad2 : Nat → Nat) (H2 : Heap) (locs2 : List Loc) (ls2 : Array Slot), rows[i2]? = some r2 → k i2 la2 st2 h2 = some x → zext (zN h) ad ad2 → zN h ≤ zN h2 → zR D tc ad2 A s h2 H2 locs2 → zLh ad2 (zmL M) la2 ls2 → zokS (zN h2) st2 → zokL (zN h2) la2 → W p l e R s m args below meth c H2 locs2 (c0 + (rN r2).1) (s0 + (rN r2).2) Q (F0 m (rP r2) ls2 (st2.map (cv ad2)))) : W p l e R s m args below meth c H locs (c0 + (rN r).1) (s0 + (rN r).2) Q (F0 m (rP r) ls (st.map (cv ad))) := by
  unfold zchk at hc
  rw [hg] at hc
  simp only [hdc, Bool.true_and] at hc
  have hx := C.1
  have hb := C.2.1
  have hts := C.2.2.2.2.1
  have hown := C.2.2.2.1
  have hK := C.2.2.2.2.2.1
  have hA := C.2.2.2.2.2.2.1
  unfold zg4 at hs
  split at hs
  · rename_i idx ci nf e1 e2
    rw [e1, e2] at hc
    simp only [Bool.and_eq_true, decide_eq_true_eq] at hc
    obtain ⟨⟨⟨⟨hci, rfl⟩, hn⟩, h8⟩, h9⟩ := hc
    have hd := zdec_ok hdc (fun d lo hi q e9 => by rw [e1] at e9; cases e9)
    have hzl : zlen (rI r) = 3 := by rw [e1]; rfl
    rw [e1] at hd
    obtain ⟨hnn, hs⟩ := zgd_some hs
    have hw : ∀ w ∈ ([.classLink own idx (zcN ci), .instantiable (zcN ci) (zcn ci), .initialized (zcN ci)] : List Cond), w ∈ gT := fun w hw => hwd w (by unfold zwd; rw [hg, e1, e2]; exact hw)
    refine zsim_new hx hb hts hown hK hR hA hci ⟨hw _ (by simp), hw _ (by simp), hw _ (by simp)⟩ hnn (by omega) (by omega) hd (fun ad2 H1 he hR1 => ?_)
    have hz2 : zN h ≤ zN (znew h (ci + 6) (zcn ci)) := Nat.le_succ _
    have K := znext (Nat.le_refl _) hn kk hs he hz2 hR1 (hl.ext he hL) (zokS_cons.mpr ⟨Or.inl (Nat.lt_succ_self _), hS.mono hz2⟩) (hL.mono hz2)
    rw [hzl] at K
    rw [← cvs_ext he hS]
    exact K
  · rename_i at9 kd bd e1 e2
    rw [e1, e2] at hc
    simp only [Bool.and_eq_true, decide_eq_true_eq] at hc
    obtain ⟨⟨⟨⟨⟨hkd, rfl⟩, hbd⟩, hn⟩, h8⟩, h9⟩ := hc
    have hd := zdec_ok hdc (fun d lo hi q e9 => by rw [e1] at e9; cases e9)
    have hzl : zlen (rI r) = 2 := by rw [e1]; rfl
    rw [e1] at hd
    split at hs
    · rename_i n s9
      obtain ⟨⟨hnn, hn0, hnb⟩, hs⟩ := zgd_some hs
      have hw : Cond.arrayClass (newarray.typeOf (zaty kd)) ∈ gT := hwd _ (by unfold zwd; rw [hg, e1, e2]; exact List.mem_cons_self)
      refine zsim_newa hx hb hts hK hR hA hkd hw hnn hn0 rfl (by omega) (by omega) (by omega) hd (fun ad2 H1 he hR1 => ?_)
      have hz2 : zN h ≤ zN (znew h kd n.toNatClampNeg) := Nat.le_succ _
      have hS9 := (zokS_cons.mp hS).2
      have K := znext (Nat.le_refl _) hn kk hs he hz2 hR1 (hl.ext he hL) (zokS_cons.mpr ⟨Or.inl (Nat.lt_succ_self _), hS9.mono hz2⟩) (hL.mono hz2)
      rw [hzl] at K
      rw [← cvs_ext he hS9]
      exact W.widen (Nat.le_refl _) (by omega) K
    · cases hs
  · rename_i idx b9 bd e1 e2
    rw [e1, e2] at hc
    simp only [Bool.and_eq_true, decide_eq_true_eq] at hc
    obtain ⟨⟨⟨hbd, hn⟩, h8⟩, h9⟩ := hc
    have hd := zdec_ok hdc (fun d lo hi q e9 => by rw [e1] at e9; cases e9)
    have hzl : zlen (rI r) = 3 := by rw [e1]; rfl
    rw [e1] at hd
    split at hs
    · rename_i n s9
      obtain ⟨⟨hnn, hn0, hnb⟩, hs⟩ := zgd_some hs
      have hw : Cond.classLink own idx "KeyTour$Level" ∈ gT := hwd _ (by unfold zwd; rw [hg, e1, e2]; exact List.mem_cons_self)
      refine zsim_newq hx hb hts hown hK hR hA hw hRO.2.2.2.2.2.2.1 hnn hn0 rfl (by omega) (by omega) (by omega) hd (fun ad2 H1 he hR1 => ?_)
      have hz2 : zN h ≤ zN (znew h 5 n.toNatClampNeg) := Nat.le_succ _
      have hS9 := (zokS_cons.mp hS).2
      have K := znext (Nat.le_refl _) hn kk hs he hz2 hR1 (hl.ext he hL) (zokS_cons.mpr ⟨Or.inl (Nat.lt_succ_self _), hS9.mono hz2⟩) (hL.mono hz2)
      rw [hzl] at K
      rw [← cvs_ext he hS9]
      exact W.widen (Nat.le_refl _) (by omega) K
    · cases hs
  · cases hs
set_option maxHeartbeats 4000000 in
theorem zs8 (C : zCx p l R s m args meth c own M D tc A) (hdc : zdec (zmB M) r = true) (hR : zR D tc ad A s h H locs) (hl : zLh ad (zmL M) la ls) (hS : zokS (zN h) st) (hL : zokL (zN h) la) (h77 : ∀ a, zN h ≤ a → (zK h a).1 = 77) (hwd : ∀ w ∈ zwd own M envM r, w ∈ gT) (hs : zg8 r i la st h k = some x) (hc : zchk own M envM rows i r = true) (hg : rG r = 8)
    (kk : ∀ (i2 : Nat) (r2 : zm_R) (la2 : zm_L) (st2 : List Value) (h2 : zm_H) (ad2 : Nat → Nat) (H2 : Heap) (locs2 : List Loc) (ls2 : Array Slot), rows[i2]? = some r2 → k i2 la2 st2 h2 = some x → zext (zN h) ad ad2 → zN h ≤ zN h2 → zR D tc ad2 A s h2 H2 locs2 → zLh ad2 (zmL M) la2 ls2 → zokS (zN h2) st2 → zokL (zN h2) la2 → W p l e R s m args below meth c H2 locs2 (c0 + (rN r2).1) (s0 + (rN r2).2) Q (F0 m (rP r2) ls2 (st2.map (cv ad2)))) : W p l e R s m args below meth c H locs (c0 + (rN r).1) (s0 + (rN r).2) Q (F0 m (rP r) ls (st.map (cv ad))) := by
  unfold zchk at hc
  rw [hg] at hc
  simp only [hdc, Bool.true_and] at hc
  have hx := C.1
  have hb := C.2.1
  have hts := C.2.2.2.2.1
  have hown := C.2.2.2.1
  have hK := C.2.2.2.2.2.1
  have hA := C.2.2.2.2.2.2.1
  simp only [Bool.and_eq_true, decide_eq_true_eq] at hc
  obtain ⟨⟨⟨hc, hn⟩, hf1⟩, hf2⟩ := hc
  obtain ⟨idx, e1⟩ : ∃ idx, rI r = .invokestatic idx := by
    split at hc
    · exact ⟨_, by assumption⟩
    · cases hc
  have hd := zdec_ok hdc (fun d lo hi q e9 => by rw [e1] at e9; cases e9)
  have hzl : zlen (rI r) = 3 := by rw [e1]; rfl
  rw [e1] at hd
  have hw : ∀ w ∈ ([.methodLink own idx arraycopyName, .native arraycopyName, .static arraycopyName, .initialized "java/lang/System"] : List Cond), w ∈ gT := fun w hw => hwd w (by unfold zwd; rw [hg, e1]; exact hw)
  have hws := (⟨hw _ (by simp), hw _ (by simp), hw _ (by simp), hw _ (by simp)⟩ : Cond.methodLink own idx arraycopyName ∈ gT ∧ Cond.native arraycopyName ∈ gT ∧ Cond.static arraycopyName ∈ gT ∧ Cond.initialized "java/lang/System" ∈ gT)
  have hml : c.maxLocals = ls.size := C.2.2.1.trans hl.1.symm
  have hfr : 1 ≤ R.frames := Nat.le_trans hf1 C.2.2.2.2.2.2.2.1
  have hlo : (([] : List Value).map fun v => v.category).sum + (nativeFrameWords "java/lang/System" "arraycopy" 5 + 11) ≤ R.locals := by
    have := C.2.2.2.2.2.2.2.2.1
    simp only [List.map_nil, List.sum_nil, Nat.zero_add]
    exact Nat.le_trans hf2 this
  unfold zg8 at hs
  split at hs
  · rename_i n dp a sp a0 e2
    obtain ⟨⟨hk, hk0, h1, h2, h3, h4, h5⟩, hs⟩ := zgd_some hs
    refine zsim_copyi (rest := []) hx hb hml hown hts hws hK hR (zK77 h77 hk (by omega)) (zK77 h77 hk0 (by omega)) hk hk0 h1 h2 h3 h4 h5 (fun _ _ => rfl) hfr hlo hd (fun H1 locs1 hR1 => ?_)
    have K := znext (Nat.le_refl _) hn kk hs zext.rf (Nat.le_refl _) hR1 hl zokS_nil hL
    rw [hzl] at K
    exact K
  · rename_i n dp a sp a0 e2
    obtain ⟨⟨hk, hk0, h1, h2, h3, h4, h5⟩, hs⟩ := zgd_some hs
    refine zsim_copyl (rest := []) hx hb hml hown hts hws hK hR (zK77 h77 hk (by omega)) (zK77 h77 hk0 (by omega)) hk hk0 h1 h2 h3 h4 h5 (fun _ _ => rfl) hfr hlo hd (fun H1 locs1 hR1 => ?_)
    have K := znext (Nat.le_refl _) hn kk hs zext.rf (Nat.le_refl _) hR1 hl zokS_nil hL
    rw [hzl] at K
    exact K
  · rename_i n dp a sp a0 e2
    obtain ⟨⟨⟨hk, hk0, h1, h2, h3, h4, h5⟩, hft⟩, hs⟩ := zgd_some hs
    refine zsim_copyz (rest := []) hx hb hml hown hts hws hK hR (zK77 h77 hk (by omega)) (zK77 h77 hk0 (by omega)) hk hk0 h1 h2 h3 h4 h5 ((fun j hj => by rcases hft j hj with q | q <;> rw [q] <;> rfl)) hfr hlo hd (fun H1 locs1 hR1 => ?_)
    have K := znext (Nat.le_refl _) hn kk hs zext.rf (Nat.le_refl _) hR1 hl zokS_nil hL
    rw [hzl] at K
    exact K
  · cases hs
set_option maxHeartbeats 4000000 in
theorem zs9 (C : zCx p l R s m args meth c own M D tc A) (hdc : zdec (zmB M) r = true) (hR : zR D tc ad A s h H locs) (hl : zLh ad (zmL M) la ls) (hS : zokS (zN h) st) (hL : zokL (zN h) la) (hRO : zRO sc A ad s s.heap) (hwd : ∀ w ∈ zwd own M envM r, w ∈ gT) (hs : zg9 r i la st h k = some x) (hc : zchk own M envM rows i r = true) (hg : rG r = 9)
    (kk : ∀ (i2 : Nat) (r2 : zm_R) (la2 : zm_L) (st2 : List Value) (h2 : zm_H) (ad2 : Nat → Nat) (H2 : Heap) (locs2 : List Loc) (ls2 : Array Slot), rows[i2]? = some r2 → k i2 la2 st2 h2 = some x → zext (zN h) ad ad2 → zN h ≤ zN h2 → zR D tc ad2 A s h2 H2 locs2 → zLh ad2 (zmL M) la2 ls2 → zokS (zN h2) st2 → zokL (zN h2) la2 → W p l e R s m args below meth c H2 locs2 (c0 + (rN r2).1) (s0 + (rN r2).2) Q (F0 m (rP r2) ls2 (st2.map (cv ad2)))) : W p l e R s m args below meth c H locs (c0 + (rN r).1) (s0 + (rN r).2) Q (F0 m (rP r) ls (st.map (cv ad))) := by
  unfold zchk at hc
  rw [hg] at hc
  simp only [hdc, Bool.true_and] at hc
  have hx := C.1
  have hb := C.2.1
  have hts := C.2.2.2.2.1
  have hown := C.2.2.2.1
  have hK := C.2.2.2.2.2.1
  have hA := C.2.2.2.2.2.2.1
  have hstr : ∀ (ix j : Nat), j < 28 → (zstr.getD j ("", 0, "")).1 = own ∧ (zstr.getD j ("", 0, "")).2.1 = ix → ∃ tx, vk_R own ix tx (ad (1000000 + j)) s := by
    intro ix j hj hq
    obtain ⟨q, hq9⟩ : ∃ q, zstr[j]? = some q := ⟨_, List.getElem?_eq_getElem (by simpa [zstr] using hj)⟩
    have h9 := hRO.2.1 j q hq9
    rw [List.getD_eq_getElem?_getD, hq9] at hq
    simp only [Option.getD_some] at hq
    rw [← hq.1, ← hq.2]
    exact ⟨_, h9⟩
  unfold zg9 at hs
  split at hs
  · rename_i ix j e1 e2
    rw [e1, e2] at hc
    simp only [Bool.and_eq_true, decide_eq_true_eq] at hc
    have hd := zdec_ok hdc (fun d lo hi q e9 => by rw [e1] at e9; cases e9)
    have hzl : zlen (rI r) = 2 := by rw [e1]; rfl
    rw [e1] at hd
    obtain ⟨tx, hv⟩ := hstr ix j hc.1.1 hc.1.2
    have K := znext (Nat.le_refl _) hc.2 kk hs zext.rf (Nat.le_refl _) hR hl (zokS_cons.mpr ⟨Or.inr (Nat.le_add_right _ _), hS⟩) hL
    rw [hzl] at K
    exact va_ldcS hx hb hown hv hd K
  · rename_i ix e1 e2
    rw [e1, e2] at hc
    have hd := zdec_ok hdc (fun d lo hi q e9 => by rw [e1] at e9; cases e9)
    have hzl : zlen (rI r) = 2 := by rw [e1]; rfl
    rw [e1] at hd
    have K := znext (Nat.le_refl _) hc kk hs zext.rf (Nat.le_refl _) hR hl (zokS_cons.mpr ⟨trivial, hS⟩) hL
    rw [hzl] at K
    exact lv_ldc hx hb hown (hts _ (hwd (.constant own ix (rC r)) (by unfold zwd; rw [hg, e1, e2]; exact List.mem_cons_self))) hd K
  · rename_i ix e1 e2
    rw [e1, e2] at hc
    have hd := zdec_ok hdc (fun d lo hi q e9 => by rw [e1] at e9; cases e9)
    have hzl : zlen (rI r) = 3 := by rw [e1]; rfl
    rw [e1] at hd
    have K := znext (Nat.le_refl _) hc kk hs zext.rf (Nat.le_refl _) hR hl (zokS_cons.mpr ⟨trivial, hS⟩) hL
    rw [hzl] at K
    exact lv_ldcw hx hb hown (hts _ (hwd (.constant own ix (rC r)) (by unfold zwd; rw [hg, e1, e2]; exact List.mem_cons_self))) hd K
  · rename_i ix e1 e2
    rw [e1, e2] at hc
    have hd := zdec_ok hdc (fun d lo hi q e9 => by rw [e1] at e9; cases e9)
    have hzl : zlen (rI r) = 3 := by rw [e1]; rfl
    rw [e1] at hd
    have K := znext (Nat.le_refl _) hc kk hs zext.rf (Nat.le_refl _) hR hl (zokS_cons.mpr ⟨trivial, hS⟩) hL
    rw [hzl] at K
    exact lv_ldc2 hx hb hown (hts _ (hwd (.constantLong own ix (rL r)) (by unfold zwd; rw [hg, e1, e2]; exact List.mem_cons_self))) hd K
  · cases hs
set_option maxHeartbeats 4000000 in
theorem zs10 (C : zCx p l R s m args meth c own M D tc A) (hdc : zdec (zmB M) r = true) (hR : zR D tc ad A s h H locs) (hl : zLh ad (zmL M) la ls) (hS : zokS (zN h) st) (hL : zokL (zN h) la) (hwd : ∀ w ∈ zwd own M envM r, w ∈ gT) {a : Nat} (hst : st = [.ref a]) (hs : k (i + 1) la [] h = some x) (hc : zchk own M envM rows i r = true) (hg : rG r = 10)
    (kk : ∀ (i2 : Nat) (r2 : zm_R) (la2 : zm_L) (st2 : List Value) (h2 : zm_H) (ad2 : Nat → Nat) (H2 : Heap) (locs2 : List Loc) (ls2 : Array Slot), rows[i2]? = some r2 → k i2 la2 st2 h2 = some x → zext (zN h) ad ad2 → zN h ≤ zN h2 → zR D tc ad2 A s h2 H2 locs2 → zLh ad2 (zmL M) la2 ls2 → zokS (zN h2) st2 → zokL (zN h2) la2 → W p l e R s m args below meth c H2 locs2 (c0 + (rN r2).1) (s0 + (rN r2).2) Q (F0 m (rP r2) ls2 (st2.map (cv ad2)))) : W p l e R s m args below meth c H locs (c0 + (rN r).1) (s0 + (rN r).2) Q (F0 m (rP r) ls (st.map (cv ad))) := by
  unfold zchk at hc
  rw [hg] at hc
  simp only [hdc, Bool.true_and] at hc
  have hx := C.1
  have hb := C.2.1
  have hts := C.2.2.2.2.1
  have hown := C.2.2.2.1
  have hK := C.2.2.2.2.2.1
  have hA := C.2.2.2.2.2.2.1
  simp only [Bool.and_eq_true, decide_eq_true_eq] at hc
  obtain ⟨⟨⟨hc, hn⟩, hf1⟩, hf2⟩ := hc
  obtain ⟨idx, e1⟩ : ∃ idx, rI r = .invokespecial idx := by
    split at hc
    · exact ⟨_, by assumption⟩
    · cases hc
  have hd := zdec_ok hdc (fun d lo hi q e9 => by rw [e1] at e9; cases e9)
  have hzl : zlen (rI r) = 3 := by rw [e1]; rfl
  rw [e1] at hd
  have hw : ∀ w ∈ ([.methodLink own idx objectInit, .instanceMethod objectInit, .code objectInit ⟨#[0xb1]⟩ 1 none] : List Cond), w ∈ gT := fun w hw => hwd w (by unfold zwd; rw [hg, e1]; exact hw)
  subst hst
  have K := znext (Nat.le_refl _) hn kk hs zext.rf (Nat.le_refl _) hR hl zokS_nil hL
  rw [hzl] at K
  refine W.objInit hx hb hown (hts _ (hw _ (by simp))) (hts _ (hw _ (by simp))) (hts _ (hw _ (by simp))) (g := F0 m (rP r) ls [.ref (ad a)]) rfl (by show ls.size = _; rw [hl.1]; exact C.2.2.1.symm) (rest := []) rfl hd (Nat.le_trans hf1 C.2.2.2.2.2.2.2.1) ?_ K
  have := C.2.2.2.2.2.2.2.2.1
  show 2 * 0 + 0 + 12 ≤ _
  omega
set_option maxHeartbeats 4000000 in
theorem zs11 (C : zCx p l R s m args meth c own M D tc A) (hdc : zdec (zmB M) r = true) (hR : zR D tc ad A s h H locs) (hl : zLh ad (zmL M) la ls) (hS : zokS (zN h) st) (hL : zokL (zN h) la) (hs : zg11 r i la st h k = some x) (hc : zchk own M envM rows i r = true) (hg : rG r = 11)
    (kk : ∀ (i2 : Nat) (r2 : zm_R) (la2 : zm_L) (st2 : List Value) (h2 : zm_H) (ad2 : Nat → Nat) (H2 : Heap) (locs2 : List Loc) (ls2 : Array Slot), rows[i2]? = some r2 → k i2 la2 st2 h2 = some x → zext (zN h) ad ad2 → zN h ≤ zN h2 → zR D tc ad2 A s h2 H2 locs2 → zLh ad2 (zmL M) la2 ls2 → zokS (zN h2) st2 → zokL (zN h2) la2 → W p l e R s m args below meth c H2 locs2 (c0 + (rN r2).1) (s0 + (rN r2).2) Q (F0 m (rP r2) ls2 (st2.map (cv ad2)))) : W p l e R s m args below meth c H locs (c0 + (rN r).1) (s0 + (rN r).2) Q (F0 m (rP r) ls (st.map (cv ad))) := by
  unfold zchk at hc
  rw [hg] at hc
  simp only [hdc, Bool.true_and] at hc
  have hx := C.1
  have hb := C.2.1
  have hts := C.2.2.2.2.1
  have hown := C.2.2.2.1
  have hK := C.2.2.2.2.2.1
  have hA := C.2.2.2.2.2.2.1
  unfold zg11 at hs
  split at hs
  · rename_i y z s9 e1
    obtain ⟨hq, hs⟩ := zgd_some hs
    have hd := zdec_ok hdc (fun d lo hi q e9 => by rw [e1] at e9; cases e9)
    have hzl : zlen (rI r) = 1 := by rw [e1]; rfl
    rw [e1] at hd
    have K := znext (Nat.le_refl _) hc kk hs zext.rf (Nat.le_refl _) hR hl (zokS_cons.mpr ⟨trivial, (zokS_cons.mp (zokS_cons.mp hS).2).2⟩) hL
    rw [hzl] at K
    exact lv_idiv hx hb hd hq K
  · rename_i y z s9 e1
    obtain ⟨hq, hs⟩ := zgd_some hs
    have hd := zdec_ok hdc (fun d lo hi q e9 => by rw [e1] at e9; cases e9)
    have hzl : zlen (rI r) = 1 := by rw [e1]; rfl
    rw [e1] at hd
    have K := znext (Nat.le_refl _) hc kk hs zext.rf (Nat.le_refl _) hR hl (zokS_cons.mpr ⟨trivial, (zokS_cons.mp (zokS_cons.mp hS).2).2⟩) hL
    rw [hzl] at K
    exact lv_lrem hx hb hd hq K
  · rename_i y z s9 e1
    obtain ⟨hq, hs⟩ := zgd_some hs
    have hd := zdec_ok hdc (fun d lo hi q e9 => by rw [e1] at e9; cases e9)
    have hzl : zlen (rI r) = 1 := by rw [e1]; rfl
    rw [e1] at hd
    have K := znext (Nat.le_refl _) hc kk hs zext.rf (Nat.le_refl _) hR hl (zokS_cons.mpr ⟨trivial, (zokS_cons.mp (zokS_cons.mp hS).2).2⟩) hL
    rw [hzl] at K
    exact lv_irem hx hb hd hq K
  · rename_i y z s9 e1
    obtain ⟨hq, hs⟩ := zgd_some hs
    have hd := zdec_ok hdc (fun d lo hi q e9 => by rw [e1] at e9; cases e9)
    have hzl : zlen (rI r) = 1 := by rw [e1]; rfl
    rw [e1] at hd
    have K := znext (Nat.le_refl _) hc kk hs zext.rf (Nat.le_refl _) hR hl (zokS_cons.mpr ⟨trivial, (zokS_cons.mp (zokS_cons.mp hS).2).2⟩) hL
    rw [hzl] at K
    exact lv_fdiv hx hb hd hq K
  · rename_i y z s9 e1
    obtain ⟨hq, hs⟩ := zgd_some hs
    have hd := zdec_ok hdc (fun d lo hi q e9 => by rw [e1] at e9; cases e9)
    have hzl : zlen (rI r) = 1 := by rw [e1]; rfl
    rw [e1] at hd
    have K := znext (Nat.le_refl _) hc kk hs zext.rf (Nat.le_refl _) hR hl (zokS_cons.mpr ⟨trivial, (zokS_cons.mp (zokS_cons.mp hS).2).2⟩) hL
    rw [hzl] at K
    exact lv_ddiv hx hb hd hq K
  · rename_i y s9 e1
    obtain ⟨hq, hs⟩ := zgd_some hs
    have hd := zdec_ok hdc (fun d lo hi q e9 => by rw [e1] at e9; cases e9)
    have hzl : zlen (rI r) = 1 := by rw [e1]; rfl
    rw [e1] at hd
    have K := znext (Nat.le_refl _) hc kk hs zext.rf (Nat.le_refl _) hR hl (zokS_cons.mpr ⟨trivial, (zokS_cons.mp hS).2⟩) hL
    rw [hzl] at K
    exact lv_f2d hx hb hd hq K
  · cases hs
set_option maxHeartbeats 4000000 in
theorem zs13 (C : zCx p l R s m args meth c own M D tc A) (hdc : zdec (zmB M) r = true) (hR : zR D tc ad A s h H locs) (hl : zLh ad (zmL M) la ls) (hS : zokS (zN h) st) (hL : zokL (zN h) la) (hcR : c0 + zmC M ≤ R.cells) (hsR : s0 + zmS M ≤ R.slots) (hwd : ∀ w ∈ zwd own M envM r, w ∈ gT) (hs : zg13 r i la st h k = some x) (hc : zchk own M envM rows i r = true) (hg : rG r = 13)
    (kk : ∀ (i2 : Nat) (r2 : zm_R) (la2 : zm_L) (st2 : List Value) (h2 : zm_H) (ad2 : Nat → Nat) (H2 : Heap) (locs2 : List Loc) (ls2 : Array Slot), rows[i2]? = some r2 → k i2 la2 st2 h2 = some x → zext (zN h) ad ad2 → zN h ≤ zN h2 → zR D tc ad2 A s h2 H2 locs2 → zLh ad2 (zmL M) la2 ls2 → zokS (zN h2) st2 → zokL (zN h2) la2 → W p l e R s m args below meth c H2 locs2 (c0 + (rN r2).1) (s0 + (rN r2).2) Q (F0 m (rP r2) ls2 (st2.map (cv ad2)))) : W p l e R s m args below meth c H locs (c0 + (rN r).1) (s0 + (rN r).2) Q (F0 m (rP r) ls (st.map (cv ad))) := by
  unfold zchk at hc
  rw [hg] at hc
  simp only [hdc, Bool.true_and] at hc
  have hx := C.1
  have hb := C.2.1
  have hts := C.2.2.2.2.1
  have hown := C.2.2.2.1
  have hK := C.2.2.2.2.2.1
  have hA := C.2.2.2.2.2.2.1
  simp only [Bool.and_eq_true, decide_eq_true_eq] at hc
  obtain ⟨⟨⟨⟨⟨hc, hn⟩, hf1⟩, hf2⟩, hf3⟩, hf4⟩ := hc
  obtain ⟨idx, e1⟩ : ∃ idx, rI r = .invokestatic idx := by
    split at hc
    · exact ⟨_, by assumption⟩
    · cases hc
  have hd := zdec_ok hdc (fun d lo hi q e9 => by rw [e1] at e9; cases e9)
  have hzl : zlen (rI r) = 3 := by rw [e1]; rfl
  rw [e1] at hd
  have hml : c.maxLocals = ls.size := C.2.2.1.trans hl.1.symm
  have hfr : 1 ≤ R.frames := Nat.le_trans hf1 C.2.2.2.2.2.2.2.1
  have hlo := Nat.le_trans hf2 C.2.2.2.2.2.2.2.2.1
  have hsm : ∀ s9 : List Value, Nat.ble (s9.map fun v => v.category).sum 8 = true → ((s9.map (cv ad)).map fun v => v.category).sum ≤ 8 := fun s9 h9 => by
    rw [List.map_map, show ((fun v : Value => v.category) ∘ cv ad) = fun v => v.category from funext fun v => cv_cat ad v]
    exact Nat.ble_eq.mp h9
  unfold zg13 at hs
  split at hs
  · rename_i y z s9 e2
    split at hs
    · rename_i hb9
      have hw : ∀ w ∈ ([.methodLink own idx Lib.Math.max.name, .static Lib.Math.max.name, .initialized "java/lang/Math", .code Lib.Math.max.name Lib.Math.max.code 2 (some .int)] : List Cond), w ∈ gT := fun w hw => hwd w (by unfold zwd; rw [hg, e1, e2]; exact hw)
      have K := znext (Nat.le_refl _) hn kk hs zext.rf (Nat.le_refl _) hR hl (zokS_cons.mpr ⟨trivial, (zokS_cons.mp (zokS_cons.mp hS).2).2⟩) hL
      rw [hzl] at K
      have h8 := hsm s9 hb9
      exact va_mmax hx hb hml hown (hts _ (hw _ (by simp))) (hts _ (hw _ (by simp))) (hts _ (hw _ (by simp))) (hts _ (hw _ (by simp))) hfr (by omega) (by omega) (by omega) hd K
    · cases hs
  · rename_i y z s9 e2
    split at hs
    · rename_i hb9
      have hw : ∀ w ∈ ([.methodLink own idx Lib.Math.min.name, .static Lib.Math.min.name, .initialized "java/lang/Math", .code Lib.Math.min.name Lib.Math.min.code 2 (some .int)] : List Cond), w ∈ gT := fun w hw => hwd w (by unfold zwd; rw [hg, e1, e2]; exact hw)
      have K := znext (Nat.le_refl _) hn kk hs zext.rf (Nat.le_refl _) hR hl (zokS_cons.mpr ⟨trivial, (zokS_cons.mp (zokS_cons.mp hS).2).2⟩) hL
      rw [hzl] at K
      have h8 := hsm s9 hb9
      exact va_mmin hx hb hml hown (hts _ (hw _ (by simp))) (hts _ (hw _ (by simp))) (hts _ (hw _ (by simp))) (hts _ (hw _ (by simp))) hfr (by omega) (by omega) (by omega) hd K
    · cases hs
  · rename_i y z s9 e2
    split at hs
    · rename_i hb9
      have hw : ∀ w ∈ ([.methodLink own idx Lib.MathLoose.max_long.x, .static Lib.MathLoose.max_long.x, .initialized "java/lang/Math", .code Lib.MathLoose.max_long.x Lib.MathLoose.max_long.code 4 (some .long)] : List Cond), w ∈ gT := fun w hw => hwd w (by unfold zwd; rw [hg, e1, e2]; exact hw)
      have K := znext (Nat.le_refl _) hn kk hs zext.rf (Nat.le_refl _) hR hl (zokS_cons.mpr ⟨trivial, (zokS_cons.mp (zokS_cons.mp hS).2).2⟩) hL
      rw [hzl] at K
      have h8 := hsm s9 hb9
      exact va_mmax_long hx hb hml hown (hts _ (hw _ (by simp))) (hts _ (hw _ (by simp))) (hts _ (hw _ (by simp))) (hts _ (hw _ (by simp))) hfr (by omega) (by omega) (by omega) hd K
    · cases hs
  · cases hs
theorem zokV_ro {n k : Nat} (h : 1000000 ≤ k) : zokV n (.ref k) := Or.inr h
theorem zro_a {a : Nat} (h : 1000000 ≤ a ∧ a < 1000010) : 1000000 + (a - 1000000) = a ∧ 1000200 + (a - 1000000) = a + 200 ∧ a - 1000000 < 10 ∧ 1000000 ≤ a + 200 := by omega
theorem zro_t {t : Nat} : 1000000 ≤ 1000299 + t := by omega
theorem zdig_len : ∀ t, t < 2 → (zdig t).length = 100 := fun t _ => by simp [zdig]
/-- what is read alone lies there -/
theorem zro_T {U : State} {Hh : Heap} (hRO : zRO sc A ad U Hh) {a : Nat} {bs : List Int32} (h : zro a = some bs) : va_T .byte (ad a) bs.length (fun j => .int (bs.getD j 0)) A U Hh := by
  unfold zro at h
  split at h
  · rename_i q
    obtain rfl := Option.some.inj h
    have h1 := ((hRO.2.2.1 (a - 1000200) (by omega)).1 0 (by omega)).2.2.2
    rw [show (1000200 + (a - 1000200)) = a by omega] at h1
    obtain ⟨bs, hbs⟩ : ∃ bs, bs = zkey.getD (a - 1000200) [] := ⟨_, rfl⟩
    rw [← hbs] at h1 ⊢
    exact h1
  · split at h
    · rename_i q
      obtain rfl := Option.some.inj h
      have h1 := hRO.2.2.2.1.2.2.2.1 0 (by omega)
      rw [zdig_len 0 (by omega), q]
      exact h1
    · split at h
      · rename_i q
        obtain rfl := Option.some.inj h
        have h1 := hRO.2.2.2.1.2.2.2.1 1 (by omega)
        rw [zdig_len 1 (by omega), q]
        exact h1
      · cases h
theorem zbl_cases {a n : Nat} (h9 : zbl h a = some n) : (∃ bs, zro a = some bs ∧ n = bs.length ∧ zby h a = fun i => bs.getD i 0) ∨ (zro a = none ∧ (zK h a).1 = 2 ∧ n = (zK h a).2 ∧ zby h a = zI h a) := by
  unfold zbl at h9
  split at h9
  · rename_i bs e
    cases h9
    exact Or.inl ⟨bs, e, rfl, funext fun i => by unfold zby; rw [e]⟩
  · rename_i e
    split at h9
    · rename_i q
      cases h9
      exact Or.inr ⟨e, q, rfl, funext fun i => by unfold zby; rw [e]⟩
    · cases h9
set_option maxHeartbeats 8000000 in
theorem zs14 (C : zCx p l R s m args meth c own M D tc A) (hdc : zdec (zmB M) r = true) (hR : zR D tc ad A s h H locs) (hl : zLh ad (zmL M) la ls) (hS : zokS (zN h) st) (hL : zokL (zN h) la) (h77 : ∀ a, zN h ≤ a → (zK h a).1 = 77) (hRO : zRO sc A ad s s.heap) (hcR : c0 + zmC M ≤ R.cells) (hsR : s0 + zmS M ≤ R.slots) (hwd : ∀ w ∈ zwd own M envM r, w ∈ gT) (hwx : ∀ w ∈ zwx own M envM r, va_Nw w s) (hs : zg14 r i la st h k = some x) (hc : zchk own M envM rows i r = true) (hg : rG r = 14)
    (kk : ∀ (i2 : Nat) (r2 : zm_R) (la2 : zm_L) (st2 : List Value) (h2 : zm_H) (ad2 : Nat → Nat) (H2 : Heap) (locs2 : List Loc) (ls2 : Array Slot), rows[i2]? = some r2 → k i2 la2 st2 h2 = some x → zext (zN h) ad ad2 → zN h ≤ zN h2 → zR D tc ad2 A s h2 H2 locs2 → zLh ad2 (zmL M) la2 ls2 → zokS (zN h2) st2 → zokL (zN h2) la2 → W p l e R s m args below meth c H2 locs2 (c0 + (rN r2).1) (s0 + (rN r2).2) Q (F0 m (rP r2) ls2 (st2.map (cv ad2)))) : W p l e R s m args below meth c H locs (c0 + (rN r).1) (s0 + (rN r).2) Q (F0 m (rP r) ls (st.map (cv ad))) := by
  unfold zchk at hc
  rw [hg] at hc
  simp only [hdc, Bool.true_and] at hc
  have hx := C.1
  have hb := C.2.1
  have hts := C.2.2.2.2.1
  have hown := C.2.2.2.1
  have hK := C.2.2.2.2.2.1
  have hA := C.2.2.2.2.2.2.1
  unfold zg14 at hs
  split at hs
  · rename_i ix e1 e2
    rw [e1, e2] at hc
    simp only [Bool.and_eq_true, decide_eq_true_eq] at hc
    have hd := zdec_ok hdc (fun d lo hi q e9 => by rw [e1] at e9; cases e9)
    have hzl : zlen (rI r) = 3 := by rw [e1]; rfl
    rw [e1] at hd
    have hw : Cond.fieldLink own ix "java/lang/String" "COMPACT_STRINGS" "Z" ∈ gT := hwd _ (by unfold zwd; rw [hg, e1, e2]; exact List.mem_cons_self)
    have K := znext (Nat.le_refl _) hc.2 kk hs zext.rf (Nat.le_refl _) hR hl (zokS_cons.mpr ⟨trivial, hS⟩) hL
    rw [hzl] at K
    exact va_gets hx hb hRO.2.2.2.1.1 hR.2.2.1 hown (hts _ hw) (fun _ h9 => h9) hd K
  · rename_i ix t n9 e1 e2
    rw [e1, e2] at hc
    simp only [Bool.and_eq_true, decide_eq_true_eq] at hc
    have hd := zdec_ok hdc (fun d lo hi q e9 => by rw [e1] at e9; cases e9)
    have hzl : zlen (rI r) = 3 := by rw [e1]; rfl
    rw [e1] at hd
    have hw : Cond.fieldLink own ix (zgsF t).1 (zgsF t).2.1 (zgsF t).2.2 ∈ gT := hwd _ (by unfold zwd; rw [hg, e1, e2]; exact List.mem_cons_self)
    have K := znext (Nat.le_refl _) hc.2 kk hs zext.rf (Nat.le_refl _) hR hl (zokS_cons.mpr ⟨zokV_ro zro_t, hS⟩) hL
    rw [hzl] at K
    have ht : t = 1 ∨ t = 2 := by
      have := hc.1
      have h0 : t ≠ 0 := fun q => n9 q
      omega
    rcases ht with rfl | rfl
    · exact va_gets hx hb hRO.2.2.2.1.2.2.2.2.1 hR.2.2.1 hown (hts _ hw) (fun _ h9 => h9) hd K
    · exact va_gets hx hb hRO.2.2.2.1.2.2.2.2.2 hR.2.2.1 hown (hts _ hw) (fun _ h9 => h9) hd K
  · rename_i ix e1 e2
    rw [e1, e2] at hc
    simp only [Bool.and_eq_true, decide_eq_true_eq] at hc
    have hd := zdec_ok hdc (fun d lo hi q e9 => by rw [e1] at e9; cases e9)
    have hzl : zlen (rI r) = 3 := by rw [e1]; rfl
    rw [e1] at hd
    have hw : Cond.fieldLink own ix "java/lang/String" "value" "[B" ∈ gT := hwd _ (by unfold zwd; rw [hg, e1, e2]; exact List.mem_cons_self)
    split at hs
    · rename_i a s9
      have hS2 := (zokS_cons.mp hS).2
      split at hs
      · rename_i q hq
        unfold zsv at hq
        split at hq
        · rename_i ha
          cases hq
          obtain ⟨a1, a2, a3, a4⟩ := zro_a ha
          have K := znext (Nat.le_refl _) hc.2 kk hs zext.rf (Nat.le_refl _) hR hl (zokS_cons.mpr ⟨zokV_ro a4, hS2⟩) hL
          rw [hzl] at K
          have h1 := ((hRO.2.2.1 (a - 1000000) a3).1 0 (by omega)).2.2.1
          rw [a1, a2] at h1
          exact vk_getf hx hb h1 hR.2.2.1 hown (hts _ hw) (fun _ h9 => h9) hd K
        · split at hq
          · rename_i hk
            have K := znext (Nat.le_refl _) hc.2 kk hs zext.rf (Nat.le_refl _) hR hl (zokS_cons.mpr ⟨Or.inl (hR.2.2.2.1 _ _ _ hq), hS2⟩) hL
            rw [hzl] at K
            refine zsim_get (ci := 7) (j := 0) hx hb hts hown hK hR (by decide) (by decide) (zK77 h77 (congrArg Prod.fst hk) (by decide)) hk hw hd ?_
            have ez : zfv ad h a 0 (zcode (zty 7 0)) = .ref (ad q) := by show va_rf ((zP h a 0).map ad) = _; rw [hq]; rfl
            rw [ez]
            exact K
          · cases hq
      · cases hs
    · cases hs
  · rename_i ix t n9 e1 e2
    rw [e1, e2] at hc
    simp only [Bool.and_eq_true, decide_eq_true_eq] at hc
    have hd := zdec_ok hdc (fun d lo hi q e9 => by rw [e1] at e9; cases e9)
    have hzl : zlen (rI r) = 3 := by rw [e1]; rfl
    rw [e1] at hd
    have ht : t = 1 := by
      have := hc.1
      have h0 : t ≠ 0 := fun q => n9 q
      omega
    subst ht
    have hw : Cond.fieldLink own ix "java/lang/String" "coder" "B" ∈ gT := hwd _ (by unfold zwd; rw [hg, e1, e2]; exact List.mem_cons_self)
    split at hs
    · rename_i a s9
      have hS2 := (zokS_cons.mp hS).2
      split at hs
      · rename_i q hq
        have K := znext (Nat.le_refl _) hc.2 kk hs zext.rf (Nat.le_refl _) hR hl (zokS_cons.mpr ⟨trivial, hS2⟩) hL
        rw [hzl] at K
        unfold zsd at hq
        split at hq
        · rename_i ha
          cases hq
          obtain ⟨a1, a2, a3, a4⟩ := zro_a ha
          have h1 := ((hRO.2.2.1 (a - 1000000) a3).1 0 (by omega)).2.1
          rw [a1] at h1
          exact vk_getf hx hb h1 hR.2.2.1 hown (hts _ hw) (fun _ h9 => h9) hd K
        · split at hq
          · rename_i hk
            cases hq
            exact zsim_get (ci := 7) (j := 1) hx hb hts hown hK hR (by decide) (by decide) (zK77 h77 (congrArg Prod.fst hk) (by decide)) hk hw hd K
          · cases hq
      · cases hs
    · cases hs
  · rename_i n8 e1 e2
    have hd := zdec_ok hdc (fun d lo hi q e9 => by rw [e1] at e9; cases e9)
    have hzl : zlen (rI r) = 1 := by rw [e1]; rfl
    rw [e1] at hd
    have hn : znx rows i r 0 0 = true := by
      rw [e1, e2] at hc
      split at hc <;> simp_all
    split at hs
    · rename_i j a s9
      split at hs
      · rename_i n hq
        obtain ⟨hin, hs⟩ := zgd_some hs
        have K := znext (Nat.le_refl _) hn kk hs zext.rf (Nat.le_refl _) hR hl (zokS_cons.mpr ⟨trivial, (zokS_cons.mp (zokS_cons.mp hS).2).2⟩) hL
        rw [hzl] at K
        rcases zbl_cases hq with ⟨bs, e3, rfl, e4⟩ | ⟨e3, e4, rfl, e5⟩
        · rw [e4] at K
          exact va_tb hx hb (zro_T hRO e3) hR.2.2.1 hin rfl hd K
        · rw [e5] at K
          exact zsim_bald hx hb hK hR (zK77 h77 e4 (by decide)) e4 hin hd K
      · cases hs
    · cases hs
  · rename_i n8 e1 e2
    have hd := zdec_ok hdc (fun d lo hi q e9 => by rw [e1] at e9; cases e9)
    have hzl : zlen (rI r) = 1 := by rw [e1]; rfl
    rw [e1] at hd
    have hn : znx rows i r 0 0 = true := by
      rw [e1, e2] at hc
      split at hc <;> simp_all
    split at hs
    · rename_i a s9
      split at hs
      · rename_i n hq
        have K := znext (Nat.le_refl _) hn kk hs zext.rf (Nat.le_refl _) hR hl (zokS_cons.mpr ⟨trivial, (zokS_cons.mp hS).2⟩) hL
        rw [hzl] at K
        rcases zbl_cases hq with ⟨bs, e3, rfl, e4⟩ | ⟨e3, e4, rfl, e5⟩
        · exact va_tlen hx hb (zro_T hRO e3) hR.2.2.1 rfl hd K
        · exact zsim_alen hx hb hK hR (zK77 h77 e4 (by decide)) e4 (by decide) hd K
      · cases hs
    · cases hs
  · rename_i ix bd e1 e2
    rw [e1, e2] at hc
    simp only [Bool.and_eq_true, decide_eq_true_eq] at hc
    obtain ⟨⟨⟨⟨hn, h8⟩, h9⟩, hf1⟩, hf2⟩ := hc
    have hd := zdec_ok hdc (fun d lo hi q e9 => by rw [e1] at e9; cases e9)
    have hzl : zlen (rI r) = 3 := by rw [e1]; rfl
    rw [e1] at hd
    have hw : ∀ w ∈ ([.methodLink own ix zcloB, .sameMethod "[B" "java/lang/Object" "clone" "()Ljava/lang/Object;", .native zclo, .instanceMethod zclo, .selects "[B" zcloB zclo] : List Cond), w ∈ gT := fun w hw => hwd w (by unfold zwd; rw [hg, e1, e2]; exact hw)
    have hcl : va_Nw (.castable "[B" "java/lang/Cloneable") s := hwx _ (by unfold zwx; rw [hg, e1, e2]; exact List.mem_cons_self)
    split at hs
    · rename_i a s9
      obtain ⟨⟨⟨hnn, hk, hb9, hsm⟩, hft⟩, hs⟩ := zgd_some hs
      have ha : a < zN h := zK77 h77 hk (by decide)
      have hS9 := (zokS_cons.mp hS).2
      have hfr : 1 ≤ R.frames := Nat.le_trans hf1 C.2.2.2.2.2.2.2.1
      have hlo9 := Nat.le_trans hf2 C.2.2.2.2.2.2.2.2.1
      have h88 : ((s9.map (cv ad)).map fun v => v.category).sum ≤ 8 := by
        rw [List.map_map, show ((fun v : Value => v.category) ∘ cv ad) = fun v => v.category from funext fun v => cv_cat ad v]
        exact Nat.ble_eq.mp hsm
      refine zsim_clone hx hb (C.2.2.1.trans hl.1.symm) hts hown hK hR hA ⟨hw _ (by simp [zcloB]), hw _ (by simp), hw _ (by simp [zclo]), hw _ (by simp [zclo]), hw _ (by simp [zclo, zcloB])⟩ hcl ha hk hnn hft hfr (by omega) (by omega) (by omega) hd (fun ad2 H1 he hR1 => ?_)
      have hz2 : zN h ≤ zN (zrI (znew h 2 (zK h a).2) (zN h) (zI h a)) := Nat.le_succ _
      have K := znext (Nat.le_refl _) hn kk hs he hz2 hR1 (hl.ext he hL) (zokS_cons.mpr ⟨Or.inl (Nat.lt_succ_self _), hS9.mono hz2⟩) (hL.mono hz2)
      rw [hzl] at K
      rw [← cvs_ext he hS9]
      exact W.widen (Nat.le_refl _) (by omega) K
    · cases hs
  · rename_i ix n8 e1 e2
    have hd := zdec_ok hdc (fun d lo hi q e9 => by rw [e1] at e9; cases e9)
    have hzl : zlen (rI r) = 3 := by rw [e1]; rfl
    rw [e1] at hd
    have hn : znx rows i r 0 0 = true := by
      rw [e1, e2] at hc
      split at hc <;> simp_all
    have hw : Cond.classLink own ix "[B" ∈ gT := hwd _ (by unfold zwd; rw [hg, e1]; exact List.mem_cons_self)
    split at hs
    · rename_i a s9
      obtain ⟨hk, hs⟩ := zgd_some hs
      have ha : a < zN h := zK77 h77 hk (by decide)
      have K := znext (Nat.le_refl _) hn kk hs zext.rf (Nat.le_refl _) hR hl hS hL
      rw [hzl] at K
      exact va_castA hx hb hown (hts _ hw) hR.1 a (cA := tc 2) (x := ((zK h a).2, .inl (zI h a))) (by rw [zws_get ha]; simp [zent, hk]) (va_nm_byte (hK.2 2 (tc 2, .byte) rfl).2) hd K
    · cases hs
  · cases hs
set_option maxHeartbeats 4000000 in
theorem zs15 (C : zCx p l R s m args meth c own M D tc A) (hdc : zdec (zmB M) r = true) (hR : zR D tc ad A s h H locs) (hl : zLh ad (zmL M) la ls) (hS : zokS (zN h) st) (hL : zokL (zN h) la) (h77 : ∀ a, zN h ≤ a → (zK h a).1 = 77) (hRO : zRO sc A ad s s.heap) (hwd : ∀ w ∈ zwd own M envM r, w ∈ gT) (hs : zg15 r i la st h k = some x) (hc : zchk own M envM rows i r = true) (hg : rG r = 15)
    (kk : ∀ (i2 : Nat) (r2 : zm_R) (la2 : zm_L) (st2 : List Value) (h2 : zm_H) (ad2 : Nat → Nat) (H2 : Heap) (locs2 : List Loc) (ls2 : Array Slot), rows[i2]? = some r2 → k i2 la2 st2 h2 = some x → zext (zN h) ad ad2 → zN h ≤ zN h2 → zR D tc ad2 A s h2 H2 locs2 → zLh ad2 (zmL M) la2 ls2 → zokS (zN h2) st2 → zokL (zN h2) la2 → W p l e R s m args below meth c H2 locs2 (c0 + (rN r2).1) (s0 + (rN r2).2) Q (F0 m (rP r2) ls2 (st2.map (cv ad2)))) : W p l e R s m args below meth c H locs (c0 + (rN r).1) (s0 + (rN r).2) Q (F0 m (rP r) ls (st.map (cv ad))) := by
  unfold zchk at hc
  rw [hg] at hc
  simp only [hdc, Bool.true_and] at hc
  have hx := C.1
  have hb := C.2.1
  have hts := C.2.2.2.2.1
  have hown := C.2.2.2.1
  have hK := C.2.2.2.2.2.1
  have hA := C.2.2.2.2.2.2.1
  simp only [Bool.and_eq_true, decide_eq_true_eq] at hc
  obtain ⟨⟨⟨hc, hn⟩, hf1⟩, hf2⟩ := hc
  obtain ⟨idx, e1⟩ : ∃ idx, rI r = .invokestatic idx := by
    split at hc
    · exact ⟨_, by assumption⟩
    · cases hc
  have hd := zdec_ok hdc (fun d lo hi q e9 => by rw [e1] at e9; cases e9)
  have hzl : zlen (rI r) = 3 := by rw [e1]; rfl
  rw [e1] at hd
  have hw : ∀ w ∈ ([.methodLink own idx arraycopyName, .native arraycopyName, .static arraycopyName, .initialized "java/lang/System"] : List Cond), w ∈ gT := fun w hw => hwd w (by unfold zwd; rw [hg, e1]; exact hw)
  have hws := (⟨hw _ (by simp), hw _ (by simp), hw _ (by simp), hw _ (by simp)⟩ : Cond.methodLink own idx arraycopyName ∈ gT ∧ Cond.native arraycopyName ∈ gT ∧ Cond.static arraycopyName ∈ gT ∧ Cond.initialized "java/lang/System" ∈ gT)
  have hml : c.maxLocals = ls.size := C.2.2.1.trans hl.1.symm
  have hfr : 1 ≤ R.frames := Nat.le_trans hf1 C.2.2.2.2.2.2.2.1
  have hlo : (([] : List Value).map fun v => v.category).sum + (nativeFrameWords "java/lang/System" "arraycopy" 5 + 11) ≤ R.locals := by
    have := C.2.2.2.2.2.2.2.2.1
    simp only [List.map_nil, List.sum_nil, Nat.zero_add]
    exact Nat.le_trans hf2 this
  unfold zg15 at hs
  split at hs
  · rename_i n dp a sp a0
    split at hs
    · rename_i n0 hq
      obtain ⟨⟨⟨hk, h1, h2, h3, h4, h5⟩, hft⟩, hs⟩ := zgd_some hs
      have ha : a < zN h := zK77 h77 hk (by decide)
      have key : ∀ (H1 : Heap) (locs1 : List Loc), zR D tc ad A s (zrI h a (va_cpy (zby h a0) (zI h a) sp.toNatClampNeg dp.toNatClampNeg n.toNatClampNeg)) H1 locs1 → W p l e R s m args below meth c H1 locs1 (c0 + (rN r).1) (s0 + (rN r).2) Q (F0 m (rP r + 3) ls []) := fun H1 locs1 hR1 => by
        have K := znext (Nat.le_refl _) hn kk hs zext.rf (Nat.le_refl _) hR1 hl zokS_nil hL
        rw [hzl] at K
        exact K
      rcases zbl_cases hq with ⟨bs, e3, rfl, e4⟩ | ⟨e3, e4, rfl, e5⟩
      · obtain ⟨f, hf⟩ : ∃ f : Nat → Int32, f = fun i => bs.getD i 0 := ⟨_, rfl⟩
        have hT : va_T .byte (ad a0) bs.length (fun j => .int (f j)) A s s.heap := by rw [hf]; exact zro_T hRO e3
        rw [e4, ← hf] at key hft
        refine vk_copyt (rest := []) hx hb hml hown (hts _ hws.1) (hts _ hws.2.1) (hts _ hws.2.2.1) (hts _ hws.2.2.2) hK hR.1 hR.2.1 hR.2.2.1 hT a 2 (c1 := tc 2) (n1 := (zK h a).2) (g := zI h a) (by rw [zws_get ha]; simp [zent, hk]) rfl h1 h2 h3 h4 h5 (fun j hj => by rw [← hft j hj]; exact pk_fb _) hfr hlo hd (fun H1 locs1 hP hD hS => ?_)
        have hset : (zws tc ad h).set a (ad a, .inl (tc 2, (zK h a).2, .inl (va_cpy f (zI h a) sp.toNatClampNeg dp.toNatClampNeg n.toNatClampNeg))) = zws tc ad (zrI h a (va_cpy f (zI h a) sp.toNatClampNeg dp.toNatClampNeg n.toNatClampNeg)) := zws_set rfl ha (by
          have e1 : zK (zrI h a (va_cpy f (zI h a) sp.toNatClampNeg dp.toNatClampNeg n.toNatClampNeg)) a = zK h a := rfl
          have e2 : zI (zrI h a (va_cpy f (zI h a) sp.toNatClampNeg dp.toNatClampNeg n.toNatClampNeg)) a = (va_cpy f (zI h a) sp.toNatClampNeg dp.toNatClampNeg n.toNatClampNeg) := zrow_self _ _ _
          simp [zent, e1, e2, hk]) zrI_ent
        replace hP := hset ▸ hP
        replace hD := hset ▸ hD
        exact key H1 locs1 ⟨hP, hD, hS, hR.2.2.2⟩
      · rw [e5] at key hft
        exact zsim_copyb (rest := []) hx hb hml hown hts hws hK hR ha (zK77 h77 e4 (by decide)) hk e4 h1 h2 h3 h4 h5 (fun j hj => by rw [← hft j hj]; exact pk_fb _) hfr hlo hd key
    · cases hs
  · cases hs
end ZY2
