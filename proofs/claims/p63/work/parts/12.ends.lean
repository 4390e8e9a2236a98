/-! ANSWERS, CALLS WITH WHAT FOLLOWS, THROWS, HANDLERS. -/
section ZR1
theorem zLh_drop {ad : Nat → Nat} {nL : Nat} {la : zm_L} {ls' : Array Slot} {i : Nat} {w : Value} (hn : la.length = nL)
    (h : lv_has ls' nL ((i, w) :: (zasc ad la).filter (fun q => !(q.1 == i) && !(q.1 + 1 == i && q.2.category == 2)))) : zLh ad nL ((zclr i la).set i none) ls' := by
  refine ⟨h.1, h.2.1, by simp [zclr_len, hn], fun j u hj => ?_⟩
  by_cases e : j = i
  · subst e
    rw [List.getElem?_set] at hj
    simp at hj
  · rw [List.getElem?_set_ne (Ne.symm e)] at hj
    obtain ⟨h1, h2⟩ := zclr_at hj
    refine h.2.2 (j, cv ad u) (List.mem_cons_of_mem _ (List.mem_filter.mpr ⟨zasc_mem.mpr ⟨u, h1, rfl⟩, ?_⟩))
    simp only [Bool.and_eq_true, Bool.not_eq_true', beq_eq_false_iff_ne, ne_eq, Bool.and_eq_false_iff]
    refine ⟨e, ?_⟩
    rw [cv_cat]
    by_cases e2 : j + 1 = i
    · exact Or.inr (fun hc => h2 ⟨e2, hc⟩)
    · exact Or.inl e2
end ZR1
section ZR2
variable {sc : Nat × (Nat → Int32)}
variable {p : Program} {l : Launch} {e : Env} {R : Room} {s : State} {m : MethodId} {args : Array Value} {below : List Frame} {meth : Method} {c : Code} {H : Heap} {locs : List Loc} {cells slots : Nat} {Q : State → Prop}
variable {own : String} {M : zm_M} {envM : List zm_M} {D : va_G} {tc : Nat → ClassId} {ad : Nat → Nat} {A : Nat → Prop} {h : zm_H} {rows : List zm_R} {i : Nat} {r : zm_R} {la : zm_L} {st : List Value} {ls : Array Slot} {c0 s0 : Nat} {X : Type} {x : X} {k : zm_K X}
set_option maxHeartbeats 4000000 in
theorem zs5 (C : zCx p l R s m args meth c own M D tc A) (hdc : zdec (zmB M) r = true) (hR : zR D tc ad A s h H locs) (hl : zLh ad (zmL M) la ls) (hS : zokS (zN h) st) (hL : zokL (zN h) la) {o : zm_O} (hs : zg5 r st h = some o) (hc : zchk own M envM rows i r = true) (hg : rG r = 5) {Qc : Array Value → State → Outcome → State → Prop} {XC : String → State → State → Prop} {free : Addr → Prop} (h1 : cells ≤ (rN r).1) (h2 : slots ≤ (rN r).2)
    (hq : ∀ v : Option Value, o = (.inl v, h) → (∀ w, v = some w → zokV (zN h) w) → ∀ t : State, t.heap = H → s.WarmedH t.vm → Qc args s (.returned (v.map (cv ad))) t) (hf : ∀ q ∈ locs, free q.base) :
    W p l e R s m args below meth c H locs cells slots (vx_MQ below Qc XC args s (zmC M) (zmS M) free) (F0 m (rP r) ls (st.map (cv ad))) := by
  unfold zchk at hc
  rw [hg] at hc
  simp only [hdc, Bool.true_and, Bool.and_eq_true, decide_eq_true_eq] at hc
  obtain ⟨⟨hc1, hc2⟩, hc⟩ := hc
  have hx := C.1
  have hb := C.2.1
  have hlk := C.2.2.2.2.2.2.2.2.2.1
  have hret := C.2.2.2.2.2.2.2.2.2.2.2.2
  refine W.widen (k := zmC M) (n := zmS M) (by omega) (by omega) (vx_ret ?_)
  unfold zg5 at hs
  split at hs
  · rename_i e1 e2
    have hd := zdec_ok hdc (fun d lo hi q e9 => by rw [e1] at e9; cases e9)
    rw [e1] at hd
    rw [e1, e2] at hc
    have hr := hret.trans (of_decide_eq_true hc)
    split at hs
    · rename_i v
      cases hs
      exact W.iret hx hb hr (fun t ht hW => hq (some (.int v)) rfl (fun w hw => by cases hw; trivial) t ht hW) hf hd hlk
    · cases hs
  · rename_i e1 e2
    have hd := zdec_ok hdc (fun d lo hi q e9 => by rw [e1] at e9; cases e9)
    rw [e1] at hd
    rw [e1, e2] at hc
    have hr := hret.trans (of_decide_eq_true hc)
    split at hs
    · rename_i v
      obtain ⟨hz, hs⟩ := zgd_some hs
      cases hs
      exact W.zret hx hb hr (by rcases hz with q | q <;> rw [q] <;> rfl) (fun t ht hW => hq (some (.int v)) rfl (fun w hw => by cases hw; trivial) t ht hW) hf hd hlk
    · cases hs
  · rename_i e1 e2
    have hd := zdec_ok hdc (fun d lo hi q e9 => by rw [e1] at e9; cases e9)
    rw [e1] at hd
    rw [e1, e2] at hc
    have hr := hret.trans (of_decide_eq_true hc)
    split at hs
    · rename_i v
      obtain ⟨hz, hs⟩ := zgd_some hs
      cases hs
      exact W.zret hx hb hr (by have := pk_nb v; rw [hz] at this; exact this) (fun t ht hW => hq (some (.int v)) rfl (fun w hw => by cases hw; trivial) t ht hW) hf hd hlk
    · cases hs
  · rename_i e1 e2
    have hd := zdec_ok hdc (fun d lo hi q e9 => by rw [e1] at e9; cases e9)
    rw [e1] at hd
    rw [e1, e2] at hc
    have hr := hret.trans (of_decide_eq_true hc)
    split at hs
    · rename_i v
      obtain ⟨hz, hs⟩ := zgd_some hs
      cases hs
      exact W.zret hx hb hr (by have := pk_nc v; rw [hz] at this; exact this) (fun t ht hW => hq (some (.int v)) rfl (fun w hw => by cases hw; trivial) t ht hW) hf hd hlk
    · cases hs
  · rename_i e1
    have hd := zdec_ok hdc (fun d lo hi q e9 => by rw [e1] at e9; cases e9)
    rw [e1] at hd
    rw [e1] at hc
    have hr := hret.trans (of_decide_eq_true hc)
    split at hs
    · rename_i v
      cases hs
      exact W.lret hx hb hr (fun t ht hW => hq (some (.long v)) rfl (fun w hw => by cases hw; trivial) t ht hW) hf hd hlk
    · cases hs
  · rename_i e1
    have hd := zdec_ok hdc (fun d lo hi q e9 => by rw [e1] at e9; cases e9)
    rw [e1] at hd
    rw [e1] at hc
    have hr := hret.trans (of_decide_eq_true hc)
    split at hs
    · rename_i v
      cases hs
      exact W.dret hx hb hr (fun t ht hW => hq (some (.double v)) rfl (fun w hw => by cases hw; trivial) t ht hW) hf hd hlk
    · cases hs
  · rename_i e1
    have hd := zdec_ok hdc (fun d lo hi q e9 => by rw [e1] at e9; cases e9)
    rw [e1] at hd
    rw [e1] at hc
    have hr := hret.trans (of_decide_eq_true hc)
    split at hs
    · rename_i v
      cases hs
      exact W.fret hx hb hr (fun t ht hW => hq (some (.float v)) rfl (fun w hw => by cases hw; trivial) t ht hW) hf hd hlk
    · cases hs
  · rename_i e1
    have hd := zdec_ok hdc (fun d lo hi q e9 => by rw [e1] at e9; cases e9)
    rw [e1] at hd
    rw [e1] at hc
    split at hs
    · rename_i v
      cases hs
      obtain ⟨rt, hrt, hk9⟩ : ∃ rt, zmR M = some rt ∧ ((∃ n, rt = .object n) ∨ ∃ t, rt = .array t) := by
        have hc : zref (zmR M) = true := hc
        unfold zref at hc
        split at hc
        · rename_i n e9; exact ⟨_, e9, Or.inl ⟨_, rfl⟩⟩
        · rename_i n e9; exact ⟨_, e9, Or.inr ⟨_, rfl⟩⟩
        · cases hc
      have hv9 := (zokS_cons.mp hS).1
      exact W.aret hx hb (hret.trans hrt) hk9 (Or.inr ⟨ad v, rfl⟩) (fun t ht hW => hq (some (.ref v)) rfl (fun w hw => by cases hw; exact hv9) t ht hW) hf hd hlk
    · cases hs
  · rename_i e1
    have hd := zdec_ok hdc (fun d lo hi q e9 => by rw [e1] at e9; cases e9)
    rw [e1] at hd
    rw [e1] at hc
    have hr := hret.trans (of_decide_eq_true hc)
    split at hs
    · cases hs
      exact W.vret hx hb hr (fun t ht hW => hq none rfl (fun w hw => by cases hw) t ht hW) hf hd hlk
    · cases hs
  · cases hs
set_option maxHeartbeats 4000000 in
theorem zs5G {mc ms : Nat} (C : zCx p l R s m args meth c own M D tc A) (hdc : zdec (zmB M) r = true) (hR : zR D tc ad A s h H locs) (hl : zLh ad (zmL M) la ls) (hS : zokS (zN h) st) (hL : zokL (zN h) la) {o : zm_O} (hs : zg5 r st h = some o) (hc : zchk own M envM rows i r = true) (hg : rG r = 5) {Qc : Array Value → State → Outcome → State → Prop} {XC : String → State → State → Prop} {free : Addr → Prop} (h1 : cells ≤ mc) (h2 : slots ≤ ms)
    (hq : ∀ v : Option Value, o = (.inl v, h) → (∀ w, v = some w → zokV (zN h) w) → ∀ t : State, t.heap = H → s.WarmedH t.vm → Qc args s (.returned (v.map (cv ad))) t) (hf : ∀ q ∈ locs, free q.base) :
    W p l e R s m args below meth c H locs cells slots (vx_MQ below Qc XC args s mc ms free) (F0 m (rP r) ls (st.map (cv ad))) := by
  unfold zchk at hc
  rw [hg] at hc
  simp only [hdc, Bool.true_and, Bool.and_eq_true, decide_eq_true_eq] at hc
  obtain ⟨⟨hc1, hc2⟩, hc⟩ := hc
  have hx := C.1
  have hb := C.2.1
  have hlk := C.2.2.2.2.2.2.2.2.2.1
  have hret := C.2.2.2.2.2.2.2.2.2.2.2.2
  refine W.widen (k := mc) (n := ms) h1 h2 (vx_ret ?_)
  unfold zg5 at hs
  split at hs
  · rename_i e1 e2
    have hd := zdec_ok hdc (fun d lo hi q e9 => by rw [e1] at e9; cases e9)
    rw [e1] at hd
    rw [e1, e2] at hc
    have hr := hret.trans (of_decide_eq_true hc)
    split at hs
    · rename_i v
      cases hs
      exact W.iret hx hb hr (fun t ht hW => hq (some (.int v)) rfl (fun w hw => by cases hw; trivial) t ht hW) hf hd hlk
    · cases hs
  · rename_i e1 e2
    have hd := zdec_ok hdc (fun d lo hi q e9 => by rw [e1] at e9; cases e9)
    rw [e1] at hd
    rw [e1, e2] at hc
    have hr := hret.trans (of_decide_eq_true hc)
    split at hs
    · rename_i v
      obtain ⟨hz, hs⟩ := zgd_some hs
      cases hs
      exact W.zret hx hb hr (by rcases hz with q | q <;> rw [q] <;> rfl) (fun t ht hW => hq (some (.int v)) rfl (fun w hw => by cases hw; trivial) t ht hW) hf hd hlk
    · cases hs
  · rename_i e1 e2
    have hd := zdec_ok hdc (fun d lo hi q e9 => by rw [e1] at e9; cases e9)
    rw [e1] at hd
    rw [e1, e2] at hc
    have hr := hret.trans (of_decide_eq_true hc)
    split at hs
    · rename_i v
      obtain ⟨hz, hs⟩ := zgd_some hs
      cases hs
      exact W.zret hx hb hr (by have := pk_nb v; rw [hz] at this; exact this) (fun t ht hW => hq (some (.int v)) rfl (fun w hw => by cases hw; trivial) t ht hW) hf hd hlk
    · cases hs
  · rename_i e1 e2
    have hd := zdec_ok hdc (fun d lo hi q e9 => by rw [e1] at e9; cases e9)
    rw [e1] at hd
    rw [e1, e2] at hc
    have hr := hret.trans (of_decide_eq_true hc)
    split at hs
    · rename_i v
      obtain ⟨hz, hs⟩ := zgd_some hs
      cases hs
      exact W.zret hx hb hr (by have := pk_nc v; rw [hz] at this; exact this) (fun t ht hW => hq (some (.int v)) rfl (fun w hw => by cases hw; trivial) t ht hW) hf hd hlk
    · cases hs
  · rename_i e1
    have hd := zdec_ok hdc (fun d lo hi q e9 => by rw [e1] at e9; cases e9)
    rw [e1] at hd
    rw [e1] at hc
    have hr := hret.trans (of_decide_eq_true hc)
    split at hs
    · rename_i v
      cases hs
      exact W.lret hx hb hr (fun t ht hW => hq (some (.long v)) rfl (fun w hw => by cases hw; trivial) t ht hW) hf hd hlk
    · cases hs
  · rename_i e1
    have hd := zdec_ok hdc (fun d lo hi q e9 => by rw [e1] at e9; cases e9)
    rw [e1] at hd
    rw [e1] at hc
    have hr := hret.trans (of_decide_eq_true hc)
    split at hs
    · rename_i v
      cases hs
      exact W.dret hx hb hr (fun t ht hW => hq (some (.double v)) rfl (fun w hw => by cases hw; trivial) t ht hW) hf hd hlk
    · cases hs
  · rename_i e1
    have hd := zdec_ok hdc (fun d lo hi q e9 => by rw [e1] at e9; cases e9)
    rw [e1] at hd
    rw [e1] at hc
    have hr := hret.trans (of_decide_eq_true hc)
    split at hs
    · rename_i v
      cases hs
      exact W.fret hx hb hr (fun t ht hW => hq (some (.float v)) rfl (fun w hw => by cases hw; trivial) t ht hW) hf hd hlk
    · cases hs
  · rename_i e1
    have hd := zdec_ok hdc (fun d lo hi q e9 => by rw [e1] at e9; cases e9)
    rw [e1] at hd
    rw [e1] at hc
    split at hs
    · rename_i v
      cases hs
      obtain ⟨rt, hrt, hk9⟩ : ∃ rt, zmR M = some rt ∧ ((∃ n, rt = .object n) ∨ ∃ t, rt = .array t) := by
        have hc : zref (zmR M) = true := hc
        unfold zref at hc
        split at hc
        · rename_i n e9; exact ⟨_, e9, Or.inl ⟨_, rfl⟩⟩
        · rename_i n e9; exact ⟨_, e9, Or.inr ⟨_, rfl⟩⟩
        · cases hc
      have hv9 := (zokS_cons.mp hS).1
      exact W.aret hx hb (hret.trans hrt) hk9 (Or.inr ⟨ad v, rfl⟩) (fun t ht hW => hq (some (.ref v)) rfl (fun w hw => by cases hw; exact hv9) t ht hW) hf hd hlk
    · cases hs
  · rename_i e1
    have hd := zdec_ok hdc (fun d lo hi q e9 => by rw [e1] at e9; cases e9)
    rw [e1] at hd
    rw [e1] at hc
    have hr := hret.trans (of_decide_eq_true hc)
    split at hs
    · cases hs
      exact W.vret hx hb hr (fun t ht hW => hq none rfl (fun w hw => by cases hw) t ht hW) hf hd hlk
    · cases hs
  · cases hs
set_option maxHeartbeats 4000000 in
theorem zs7 (C : zCx p l R s m args meth c own M D tc A) (hdc : zdec (zmB M) r = true) (hR : zR D tc ad A s h H locs) (hl : zLh ad (zmL M) la ls) (hS : zokS (zN h) st) (hL : zokL (zN h) la) (hRO : zRO sc A ad s s.heap) (hwd : ∀ w ∈ zwd own M envM r, w ∈ gT) (hwx : ∀ w ∈ zwx own M envM r, va_Nw w s) (hout : ∀ z ∈ c.exceptionTable.toList, False) (hc : zchk own M envM rows i r = true) (hg : rG r = 7) {y : Nat} {os : List Nat} (e2 : rO r = y :: os) (hst : (st.map fun v => v.category).sum ≤ 8) (hcR : c0 + zmTc M ≤ R.cells) (hsR : s0 + zmTs M ≤ R.slots) (hc0 : c0 = 0) (hs0 : s0 = 0)
    {Qc : Array Value → State → Outcome → State → Prop} {XC : String → State → State → Prop} {free : Addr → Prop}
    (hx9 : ∀ t : State, s.vm.Alike t.vm → H.size ≤ t.heap.size → (∀ q : Nat, q < H.size → t.heap[q]? = H[q]?) → XC (zex y) s t) (hf : ∀ q ∈ locs, free q.base) :
    W p l e R s m args below meth c H locs (c0 + (rN r).1) (s0 + (rN r).2) (vx_MQ below Qc XC args s (zmTc M) (zmTs M) free) (F0 m (rP r) ls (st.map (cv ad))) := by
  unfold zchk at hc
  rw [hg] at hc
  simp only [hdc, Bool.true_and] at hc
  split at hc
  · rename_i y9 k9 ik is ic wd e3
    rw [e2] at e3
    cases e3
    simp only [Bool.and_eq_true, decide_eq_true_eq, List.all_eq_true] at hc
    obtain ⟨⟨⟨⟨⟨⟨⟨⟨⟨⟨⟨⟨q1, q2, q3⟩, q4, q5⟩, q6⟩, q7⟩, q8⟩, q12⟩, q13⟩, q14⟩, q15⟩, q16⟩, q17⟩, q18⟩ := hc
    obtain ⟨hx, hb, hml, hown, hts, hK, hA, hRf, hRl, hlk, hlt, hnm, hret⟩ := C
    have hd := zdec_ok hdc (fun d lo hi q e9 => by rw [q6] at e9; cases e9)
    rw [q6] at hd
    have hw0 : ∀ w ∈ zwd own M envM r, w.before args s = true := fun w hw => hts w (hwd w hw)
    have hz : zwd own M envM r = .classLink own ik (zex y) :: .initialized (zex y) :: (zat own ic y).filter goodWord := by unfold zwd; rw [hg, e2, q6]; rfl
    have hz2 : zwx own M envM r = (zat own ic y).filter (fun w => !goodWord w) := by unfold zwx; rw [hg, e2, q6]; rfl
    rw [hz] at hw0
    rw [hz2] at hwx
    have hk := hw0 _ List.mem_cons_self
    have hini := hw0 _ (List.mem_cons_of_mem _ List.mem_cons_self)
    have hat : ∀ w ∈ zat own ic y, w.before args s = true :=
      vx_hat (fun w hw => hw0 w (List.mem_cons_of_mem _ (List.mem_cons_of_mem _ hw))) (fun w hw => hw) (fun w hw => by
        have hot : w.onTables = true := by
          have h1 := (List.mem_filter.mp hw)
          have h2 := q14 w (List.mem_cons_of_mem _ (List.mem_cons_of_mem _ h1.1))
          have h3 : goodWord w = false := by simpa using h1.2
          unfold vx_ot at h2
          rw [h3, Bool.or_false] at h2
          exact h2
        exact va_Nw.use hot (hwx w hw))
    obtain ⟨tx, hstr⟩ : ∃ tx, vk_R own is tx (ad (1000000 + k9)) s := by
      obtain ⟨q, hq9⟩ : ∃ q, zstr[k9]? = some q := ⟨_, List.getElem?_eq_getElem (by simpa [zstr] using q3)⟩
      have h9 := hRO.2.1 k9 q hq9
      rw [List.getD_eq_getElem?_getD, hq9] at q4 q5
      simp only [Option.getD_some] at q4 q5
      rw [← q4, ← q5]
      exact ⟨_, h9⟩
    have hnames : ∀ n ∈ (["java/lang/RuntimeException", "java/lang/Exception"] : List String), Bundle.fit n = true := by decide +kernel
    have hsum : ((st.map (cv ad)).map fun v => v.category).sum ≤ 8 := by
      rw [List.map_map, show ((fun v : Value => v.category) ∘ cv ad) = fun v => v.category from funext fun v => cv_cat ad v]
      exact hst
    have hRl2 := Nat.le_trans q16 hRl
    have hRf2 := Nat.le_trans q15 hRf
    by_cases hy3 : y = 3
    · subst hy3
      split at q8
      · simp only [Bool.and_eq_true, decide_eq_true_eq] at q8
        exact zthrowN hx hb hlt hown hk hini hstr hat q14 hRO.2.2.2.2.1 hRO.2.2.2.2.2.1 hR.2.2.1 (hl.1.trans hml.symm) hd q7 q8.1.1 q8.1.2 q8.2 (fun z hz9 => absurd (hout z hz9) id) (by omega) (by omega) (by omega) (by omega) hlk hx9 hf (by omega) (by omega)
      · simp only [Bool.and_eq_true, decide_eq_true_eq] at q8
        exact zthrowNW hx hb hlt hown hk hini hstr hat q14 hRO.2.2.2.2.1 hRO.2.2.2.2.2.1 hR.2.2.1 (hl.1.trans hml.symm) hd q7 q8.1.1 q8.1.2 q8.2 (fun z hz9 => absurd (hout z hz9) id) (by omega) (by omega) (by omega) (by omega) hlk hx9 hf (by omega) (by omega)
    · have hza : zat own ic y = vx_atS own ic (zex y) ["java/lang/RuntimeException", "java/lang/Exception"] := by
        unfold zat
        split
        · exact absurd rfl hy3
        · rfl
      rw [hza] at hat q14
      split at q8
      · simp only [Bool.and_eq_true, decide_eq_true_eq] at q8
        exact vx_throwS (names := ["java/lang/RuntimeException", "java/lang/Exception"]) hx hb hlt hown q13 hnames hk hini hstr hat q14 hRO.2.2.2.2.1 hRO.2.2.2.2.2.1 hR.2.2.1 (hl.1.trans hml.symm) hd q7 q8.1.1 q8.1.2 q8.2 (fun z hz9 => absurd (hout z hz9) id) (by show 2 + 3 < R.frames; omega) (by show ((st.map (cv ad)).map fun v => v.category).sum + (13 * (2 + 1) + 43) ≤ R.locals; omega) (by omega) (by omega) hlk hx9 hf (by omega) (by omega)
      · simp only [Bool.and_eq_true, decide_eq_true_eq] at q8
        exact vx_throwSW (names := ["java/lang/RuntimeException", "java/lang/Exception"]) hx hb hlt hown q13 hnames hk hini hstr hat q14 hRO.2.2.2.2.1 hRO.2.2.2.2.2.1 hR.2.2.1 (hl.1.trans hml.symm) hd q7 q8.1.1 q8.1.2 q8.2 (fun z hz9 => absurd (hout z hz9) id) (by show 2 + 3 < R.frames; omega) (by show ((st.map (cv ad)).map fun v => v.category).sum + (13 * (2 + 1) + 43) ≤ R.locals; omega) (by omega) (by omega) hlk hx9 hf (by omega) (by omega)
  · cases hc
theorem zhck_catch (C : zCx p l R s m args meth c own M D tc A) (hRO : zRO sc A ad s s.heap) {H : Heap} {locs : List Loc} {cells slots cc ss : Nat} {E q9 : Nat} {ce : Cell} (hcell : H[q9]? = some ce) (hcv : ce.vm = .none) (hcl : s.vm.findClass (zex E) = some ce.cls) {rest : List Value} {la : zm_L} (hl : zLh ad (zmL M) la ls) {p9 j9 : Nat}
    (hdec : ∀ (i2 : Nat) (r2 : zm_R), rows[i2]? = some r2 → zdec (zmB M) r2 = true) :
    ∀ (hs : List Nat) (hh pre : List (Nat × Nat × Nat × Nat)) (seen : List Nat), zhck rows r (zmL M) cc ss hs hh seen = true → c.exceptionTable.toList = tableOf (pre ++ hh) →
      (∀ z ∈ pre, z.2.2.2 ≠ 0 ∧ ∃ E0 ∈ seen, Cond.classLink own z.2.2.2 (zex E0) ∈ gT) → (∀ w ∈ zhwd own hs hh, w ∈ gT) → (∀ w ∈ zhwx hs, va_Nw w s) → zhnd hs E = some (p9, j9) →
      (∀ (rp r2 : zm_R) (ls2 : Array Slot), rows[p9]? = some rp → rows[p9 + 1]? = some r2 → rP r2 = rP rp + zlen (rI rp) → (rN r).1 + cc ≤ (rN r2).1 → (rN r).2 + ss ≤ (rN r2).2 → zLh ad (zmL M) ((zclr j9 la).set j9 none) ls2 → W p l e R s m args below meth c H locs cells slots Q (F0 m (rP r2) ls2 [])) →
      vx_W p l e R s m args below meth c H locs cells slots Q (F0 m (rP r) ls rest) q9 := by
  intro hs hh
  obtain ⟨hx, hb, hml, hown, hts, hK, hA, hRf, hRl, hlk, hlt, hnm, hret⟩ := C
  induction hh generalizing hs with
  | nil =>
    intro pre seen h1 h2 h3 h4 h5 h6 h7
    match hs, h1, h6 with
    | [], _, h6 => cases h6
    | [_], h1, _ => cases h1
    | [_, _], h1, _ => cases h1
    | _ :: _ :: _ :: _, h1, _ => cases h1
  | cons z hh ih =>
    intro pre seen h1 h2 h3 h4 h5 h6 h7
    match hs, h1, h4, h5, h6 with
    | [], h1, _, _, _ => cases h1
    | [_], h1, _, _, _ => cases h1
    | [_, _], h1, _, _, _ => cases h1
    | E1 :: p :: j :: t, h1, h4, h5, h6 =>
      unfold zhck at h1
      simp only [Bool.and_eq_true, decide_eq_true_eq, List.all_eq_true] at h1
      obtain ⟨⟨⟨⟨⟨hrow, hrng⟩, hct⟩, hE4⟩, hseen⟩, hrest⟩ := h1
      have hlink : Cond.classLink own z.2.2.2 (zex E1) ∈ gT := h4 _ List.mem_cons_self
      have hcast : va_Nw (.castable (zex E1) (zex E1)) s := h5 _ List.mem_cons_self
      unfold zhnd at h6
      split at h6
      · rename_i eE
        subst eE
        cases h6
        split at hrow
        · rename_i rp erp
          simp only [Bool.and_eq_true, decide_eq_true_eq] at hrow
          obtain ⟨⟨hi1, hi2⟩, hi3⟩ := hrow
          split at hi3
          · rename_i r2 er2
            simp only [Bool.and_eq_true, decide_eq_true_eq] at hi3
            obtain ⟨⟨g1, g2⟩, g3⟩ := hi3
            have hdp := hdec _ _ erp
            refine vx_catch (name := zex E) hown (tableOf pre) ⟨z.1, z.2.1, z.2.2.1, z.2.2.2⟩ (tableOf hh) (by rw [h2]; simp [tableOf]) (fun y hy => ?_) ?_ hct (hts _ hlink) (va_Nw.use rfl hcast) hcell hcv hcl ?_
            · obtain ⟨y9, hy9, rfl⟩ := List.mem_map.mp hy
              obtain ⟨a1, E0, a2, a3⟩ := h3 y9 hy9
              exact Or.inr ⟨a1, zex E0, hts _ a3, hRO.2.2.2.2.2.2.2 (E, E0) (hseen E0 a2)⟩
            · simp only [covers, Bool.and_eq_true, decide_eq_true_eq]
              exact hrng
            · have key : ∀ ls2 : Array Slot, zLh ad (zmL M) ((zclr j9 la).set j9 none) ls2 → W p l e R s m args below meth c H locs cells slots Q (F0 m (rP rp + zlen (rI rp)) ls2 []) := fun ls2 hl2 => by
                have := h7 rp r2 ls2 erp er2 g1 g2 g3 hl2
                rw [g1] at this
                exact this
              show W p l e R s m args below meth c H locs cells slots Q (F0 m z.2.2.1 ls [.ref q9])
              rw [hi2]
              split at hi1
              · rename_i k9 e9
                have hd := zdec_ok hdp (fun d lo hi q e8 => by rw [e9] at e8; cases e8)
                rw [e9] at hd key
                have hkj : k9 = j9 := of_decide_eq_true hi1
                subst hkj
                exact lv_astore hx hb hd hl.has hE4.2 rfl (fun ls2 hh2 => key ls2 (zLh_drop hl.2.2.1 hh2))
              · rename_i f9 e9
                have hd := zdec_ok hdp (fun d lo hi q e8 => by rw [e9] at e8; cases e8)
                rw [e9] at hd key
                have hkj : f9.val = j9 := of_decide_eq_true hi1
                subst hkj
                exact lv_astore_n hx hb hd rfl hl.has hE4.2 rfl (fun ls2 hh2 => key ls2 (zLh_drop hl.2.2.1 hh2))
              · cases hi1
          · cases hi3
        · cases hrow
      · exact ih t (pre ++ [z]) (E1 :: seen) hrest (by rw [h2, List.append_assoc]; rfl) (fun y hy => by
          rcases List.mem_append.mp hy with q | q
          · obtain ⟨a1, E0, a2, a3⟩ := h3 y q
            exact ⟨a1, E0, List.mem_cons_of_mem _ a2, a3⟩
          · have : y = z := by simpa using q
            subst this
            exact ⟨hct, E1, List.mem_cons_self, hlink⟩) (fun w hw => h4 w (List.mem_cons_of_mem _ hw)) (fun w hw => h5 w (List.mem_cons_of_mem _ hw)) h6 h7
end ZR2
