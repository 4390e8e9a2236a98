/-! CALLS, ANSWERS, THROWS. -/
section ZV
variable {sc : Nat × (Nat → Int32)}
theorem znrm_inv {X : Type} {rk : Nat} {o : Option zm_O} {pc : Nat} {ls : zm_L} {rest : List Value} {k : zm_K X} {x : X} (h : znrm rk o pc ls rest k = some x) : ∃ v h2, o = some (.inl v, h2) ∧ k (pc + 1) ls (v.toList ++ rest) h2 = some x := by
  unfold znrm at h
  split at h
  · unfold zcV at h; split at h
    · exact ⟨_, _, rfl, h⟩
    · cases h
  · unfold zcI at h; split at h
    · exact ⟨_, _, rfl, h⟩
    · cases h
  · unfold zcJ at h; split at h
    · exact ⟨_, _, rfl, h⟩
    · cases h
  · unfold zcA at h; split at h
    · exact ⟨_, _, rfl, h⟩
    · cases h
  · unfold zcD at h; split at h
    · exact ⟨_, _, rfl, h⟩
    · cases h
  · unfold zcF at h; split at h
    · exact ⟨_, _, rfl, h⟩
    · cases h
theorem zthr_inv {X : Type} {o : Option zm_O} {kx : Nat → zm_H → Option X} {k : Option X} {x : X} (h : zthr o kx k = some x) : (∃ E h2, o = some (.inr E, h2) ∧ kx E h2 = some x) ∨ k = some x := by
  unfold zthr at h
  split at h
  · exact Or.inl ⟨_, _, rfl, h⟩
  · exact Or.inr h
theorem zRO_same {A : Nat → Prop} {ad : Nat → Nat} {u U : State} {H : Heap} (hv : u.vm = U.vm) (h : zRO sc A ad u H) : zRO sc A ad U H := by
  obtain ⟨h1, h2, h3, ⟨h41, h42, h43, h44, h45, h46⟩, h5, h6, h7, h8⟩ := h
  have ha : u.vm.Alike U.vm := hv ▸ Vm.Alike.refl _
  refine ⟨fun w hw hs => ?_, fun k q hq => (h2 k q hq).same hv.symm, fun k hk8 => (h3 k hk8).moved ha, ⟨h41.moved ha, h42.moved ha, h43.moved ha, fun t ht => (h44 t ht).moved ha, h45.moved ha, h46.moved ha⟩, h5.moved ha, h6.moved ha, h7.moved ha, fun q hq => (h8 q hq).moved ha⟩
  have hw1 := h1 w hw hs
  unfold zspc at hs
  split at hs
  · exact va_Nw.same rfl hv hw1
  · exact va_Nw.same rfl hv hw1
  · exact va_Nw.same rfl hv hw1
  · cases hs
theorem zPre_blind {D : va_G} {tc : Nat → ClassId} {ad : Nat → Nat} {h : zm_H} {sz : Nat} {vs : List Value} : FrameBlind (va_Pc vs (zPre sc D tc ad h sz)) := by
  intro a U g mk q
  obtain ⟨q0, q1, q2, q3, q4, q5⟩ := q
  exact ⟨q0, q1, q2, va_K.moved (u := U) (U := U.calling g mk a) (Vm.Alike.refl U.vm) q3, q4, zRO_same (u := U) (U := U.calling g mk a) rfl q5⟩
theorem zBA {D : va_G} {tc : Nat → ClassId} {ad : Nat → Nat} {A : Nat → Prop} {s : State} {h : zm_H} {H : Heap} {locs : List Loc} (hR : zR D tc ad A s h H locs) (hA : ∀ q, s.heap.size ≤ q → A q) : ∀ q, va_A (zws tc ad h) H.size q → A q := by
  rintro q (⟨k, en, hk⟩ | hq)
  · exact hR.2.1.2 k _ hk
  · exact hA q (Nat.le_trans hR.2.2.1.1 hq)
theorem zPre_of {D : va_G} {tc : Nat → ClassId} {ad : Nat → Nat} {A : Nat → Prop} {s : State} {h : zm_H} {H : Heap} {locs : List Loc} (hR : zR D tc ad A s h H locs) (hA : ∀ q, s.heap.size ≤ q → A q) (hK : va_K D vwCl (ztys tc) s) (hRO : zRO sc A ad s s.heap) : ∀ U : State, U.heap = H → s.WarmedH U.vm → zPre sc D tc ad h H.size U := by
  intro U hU hW
  refine ⟨by rw [hU], by rw [hU]; exact hR.1, va_K.moved hW.alike hK, ⟨hR.2.1.1, fun _ _ _ => trivial⟩, ?_⟩
  rw [hU]
  exact zRO_go hRO hR.2.2.1 hW (zBA hR hA)
/-- a contract without throws, where nothing is thrown -/
theorem Met_of_vx {l : Launch} {y : MethodName} {ws : List Cond} {rm : Room} {Pc : Array Value → State → Prop} {Qc : Array Value → State → Outcome → State → Prop} {XC : String → State → State → Prop} {mc ms : Nat} {free : Addr → Prop} (hM : vx_Met l y ws rm Pc Qc XC mc ms free) (hn : ∀ E st t, ¬ XC E st t) : Met l y ws rm Pc Qc mc ms free := by
  intro p e a1 a2 a3 s m args below hf ha hp hk
  obtain ⟨n, o, h1, h2, h3, h4⟩ := hM p e a1 a2 a3 s m args below hf ha hp hk
  refine ⟨n, o, h1, h2, h3, ?_⟩
  rcases h4 with h4 | ⟨q, rfl, E, ce, L, hx, -⟩
  · exact h4
  · exact absurd hx (hn E _ _)
end ZV
section ZW
variable {sc : Nat × (Nat → Int32)}
variable {p : Program} {l : Launch} {e : Env} {R : Room} {s : State} {m : MethodId} {args : Array Value} {below : List Frame} {meth : Method} {c : Code} {H : Heap} {locs : List Loc} {cells slots : Nat} {Q : State → Prop}
variable {own : String} {M : zm_M} {envM : List zm_M} {D : va_G} {tc : Nat → ClassId} {ad : Nat → Nat} {A : Nat → Prop} {h : zm_H} {rows : List zm_R} {i : Nat} {r : zm_R} {la : zm_L} {st : List Value} {ls : Array Slot} {c0 s0 : Nat} {X : Type} {x : X} {k : zm_K X}
theorem zkind_inv {kd : Nat} {ir : Instr} {n th ci : Nat} {Mc : zm_M} (h : zkind kd ir n th ci Mc = true) :
    ((kd = 0 ∧ ci < 8 ∧ zcN ci = (zmY Mc).cls ∨ kd = 6 ∧ (zmY Mc).cls = "java/lang/String") ∧ ∃ ix, ir = .invokevirtual ix ∧ n = zmN Mc + 1 ∧ (zmH Mc).isEmpty = true) ∨ (kd = 1 ∧ ∃ ix, ir = .invokestatic ix ∧ n = zmN Mc ∧ (zmH Mc).isEmpty = true ∧ th < 2) ∨
    (kd = 2 ∧ ∃ ix, ir = .invokespecial ix ∧ n = zmN Mc + 1 ∧ (zmH Mc).isEmpty = true ∧ (zmY Mc).name = "<init>" ∧ zmR Mc = none ∧ th = 0) ∨ (kd = 3 ∧ ∃ ix, ir = .invokestatic ix ∧ n = zmN Mc ∧ (zmH Mc).isEmpty = true ∧ th = 0) ∨
    (kd = 4 ∧ ∃ ix, ir = .invokespecial ix ∧ n = zmN Mc + 1 ∧ (zmH Mc).isEmpty = true ∧ (zmY Mc).name = "<init>" ∧ zmR Mc = none ∧ th = 0) ∨ (kd = 5 ∧ ∃ ix, ir = .invokestatic ix ∧ n = zmN Mc ∧ ¬ (zmH Mc).isEmpty = true ∧ th = 0) ∨
    ((kd = 7 ∧ (∃ ix, ir = .invokespecial ix) ∧ (zmY Mc).name ≠ "<init>" ∨ kd = 8 ∧ (∃ ix, ir = .invokevirtual ix) ∧ (zmY Mc).cls = RJ5 ∨ kd = 10 ∧ (∃ ix, ir = .invokevirtual ix) ∧ (zmY Mc).name = "length" ∧ (zmY Mc).desc = "()I") ∧ n = zmN Mc + 1 ∧ (zmH Mc).isEmpty = true ∧ th = 0) := by
  unfold zkind at h
  split at h
  · simp only [Bool.and_eq_true, decide_eq_true_eq] at h
    exact Or.inr (Or.inr (Or.inr (Or.inr (Or.inr (Or.inr ⟨Or.inl ⟨rfl, ⟨_, rfl⟩, h.1.2⟩, h.1.1.1, h.1.1.2, h.2⟩)))))
  · simp only [Bool.and_eq_true, decide_eq_true_eq] at h
    exact Or.inr (Or.inr (Or.inr (Or.inr (Or.inr (Or.inr ⟨Or.inr (Or.inl ⟨rfl, ⟨_, rfl⟩, h.1.2⟩), h.1.1.1, h.1.1.2, h.2⟩)))))
  · simp only [Bool.and_eq_true, decide_eq_true_eq] at h
    exact Or.inr (Or.inr (Or.inr (Or.inr (Or.inr (Or.inr ⟨Or.inr (Or.inr ⟨rfl, ⟨_, rfl⟩, h.1.2⟩), h.1.1.1, h.1.1.2, h.2⟩)))))
  · simp only [Bool.and_eq_true, decide_eq_true_eq] at h
    exact Or.inl ⟨Or.inl ⟨rfl, h.2⟩, _, rfl, h.1⟩
  · simp only [Bool.and_eq_true, decide_eq_true_eq] at h
    exact Or.inl ⟨Or.inr ⟨rfl, h.2⟩, _, rfl, h.1⟩
  · simp only [Bool.and_eq_true, decide_eq_true_eq] at h
    exact Or.inr (Or.inl ⟨rfl, _, rfl, h.1.1, h.1.2, h.2⟩)
  · simp only [Bool.and_eq_true, decide_eq_true_eq] at h
    exact Or.inr (Or.inr (Or.inl ⟨rfl, _, rfl, h.1.1.1.1, h.1.1.1.2, h.1.1.2, h.1.2, h.2⟩))
  · simp only [Bool.and_eq_true, decide_eq_true_eq] at h
    exact Or.inr (Or.inr (Or.inr (Or.inl ⟨rfl, _, rfl, h.1.1, h.1.2, h.2⟩)))
  · simp only [Bool.and_eq_true, decide_eq_true_eq] at h
    exact Or.inr (Or.inr (Or.inr (Or.inr (Or.inl ⟨rfl, _, rfl, h.1.1.1.1, h.1.1.1.2, h.1.1.2, h.1.2, h.2⟩))))
  · simp only [Bool.and_eq_true, decide_eq_true_eq, Bool.not_eq_true'] at h
    exact Or.inr (Or.inr (Or.inr (Or.inr (Or.inr (Or.inl ⟨rfl, _, rfl, h.1.1, by rw [h.1.2]; decide, h.2⟩)))))
  · cases h
theorem zcallN {v : Option Value} {h2 : zm_H} {rest st0 : List Value} {mc ms pc : Nat} (hR : zR D tc ad A s h H locs) (hA : ∀ q, s.heap.size ≤ q → A q)
    (hr : vx_Run p l e R s m args below meth c H locs cells slots mc ms (F0 m pc ls st0) rest
      (fun st oc t => (∃ (ad2 : Nat → Nat), oc = .returned (v.map (cv ad2)) ∧ zPst D tc ad h H.size ad2 h2 t ∧ ∀ w, v = some w → zokV (zN h2) w) ∧ va_F (va_A (zws tc ad h) H.size) st t)
      (fun _ _ _ => False) (va_A (zws tc ad h) H.size))
    (kv : ∀ (ad2 : Nat → Nat) (H2 : Heap) (locs2 : List Loc), zext (zN h) ad ad2 → zN h ≤ zN h2 → zR D tc ad2 A s h2 H2 locs2 → (∀ w, v = some w → zokV (zN h2) w) → W p l e R s m args below meth c H2 locs2 (cells + mc) (slots + ms) Q (F0 m (pc + 3) ls ((v.map (cv ad2)).toList ++ rest))) :
    W p l e R s m args below meth c H locs cells slots Q (F0 m pc ls st0) := by
  have hBA := zBA hR hA
  intro T hT X
  rcases hr T hT X with ⟨v9, st₀, t, T', L, h0, X', hL, e1, e2, ⟨⟨ad2, hv, ⟨p1, p2, p3, p4, p5, p6⟩, hok⟩, hF⟩, st9⟩ | ⟨q, st₀, t, T', L, E, ce, h0, X', hL, e1, e2, hx, -⟩
  · cases hv
    obtain ⟨k1, k2, k3⟩ := vx_keep h0 e1 hR.2.2.1 (fun q _ hq => hBA q hq) hBA hL hF
    obtain ⟨t2, a1, b1⟩ := kv ad2 T'.heap (locs ++ L) p1 p6 ⟨by rw [e1]; exact p2, ⟨p4.1, fun k q hk => hBA _ (p4.2 k q hk)⟩, k3, p5⟩ hok T' rfl X'
    exact ⟨t2, st9 t2 a1, b1⟩
  · exact hx.elim
theorem zcallT {y : Nat} {h2 : zm_H} {rest st0 : List Value} {mc ms pc : Nat} (hR : zR D tc ad A s h H locs) (hA : ∀ q, s.heap.size ≤ q → A q)
    (hr : vx_Run p l e R s m args below meth c H locs cells slots mc ms (F0 m pc ls st0) rest (fun _ _ _ => False)
      (fun E st t => (∃ (ad2 : Nat → Nat), E = zex y ∧ zPst D tc ad h H.size ad2 h2 t) ∧ va_F (va_A (zws tc ad h) H.size) st t) (va_A (zws tc ad h) H.size))
    (kx : ∀ (ad2 : Nat → Nat) (H2 : Heap) (locs2 : List Loc) (ce : Cell) (q : Addr), zext (zN h) ad ad2 → zN h ≤ zN h2 → zR D tc ad2 A s h2 H2 locs2 → H2[q]? = some ce → ce.vm = .none → s.vm.findClass (zex y) = some ce.cls → vx_W p l e R s m args below meth c H2 locs2 (cells + mc) (slots + ms) Q (F0 m pc ls rest) q) :
    W p l e R s m args below meth c H locs cells slots Q (F0 m pc ls st0) := by
  have hBA := zBA hR hA
  intro T hT X
  rcases hr T hT X with ⟨v9, st₀, t, T', L, h0, X', hL, e1, e2, hx, -⟩ | ⟨q, st₀, t, T', L, E, ce, h0, X', hL, e1, e2, ⟨⟨ad2, rfl, ⟨p1, p2, p3, p4, p5, p6⟩⟩, hF⟩, hce, hcv, hcl, st9⟩
  · exact hx.elim
  · obtain ⟨k1, k2, k3⟩ := vx_keep h0 e1 hR.2.2.1 (fun q _ hq => hBA q hq) hBA hL hF
    obtain ⟨t2, a1, b1⟩ := kx ad2 T'.heap (locs ++ L) ce q p1 p6 ⟨by rw [e1]; exact p2, ⟨p4.1, fun k q hk => hBA _ (p4.2 k q hk)⟩, k3, p5⟩ (by rw [e1]; exact hce) hcv hcl T' rfl X'
    exact ⟨t2, st9.trans a1, b1⟩
theorem zmW_plain {M : zm_M} (h : (zmH M).isEmpty = true) : zmW M = .code (zmY M) (zmB M) (zmL M) (zmR M) := by unfold zmW; rw [if_pos h]
theorem zmW_hand {M : zm_M} (h : ¬ (zmH M).isEmpty = true) : zmW M = .codeWith (zmY M) (zmB M) (zmL M) (zmR M) (zmH M) := by unfold zmW; rw [if_neg h]
theorem zplain_ok {y : MethodName} {n : Nat} (h : zplain y n = true) : y.cls ≠ "java/lang/invoke/MethodHandle" ∧ y.cls ≠ "java/lang/invoke/VarHandle" ∧ (parseMethodDescriptor y.desc).map (fun d => d.parameters.length) = some n := by
  unfold zplain at h
  simp only [Bool.and_eq_true, decide_eq_true_eq] at h
  exact ⟨h.1.1, h.1.2, h.2⟩
theorem zgW {M : zm_M} (h : zmW M ∈ gT) : GoodIn gT (zmWs M) := gT_good (fun w hw => (List.mem_cons.mp hw).elim (fun q => by rw [q]; exact h) id)
theorem gT_app {as bs : List Cond} (h1 : ∀ w ∈ as, w ∈ gT) (h2 : ∀ w ∈ bs, w ∈ gT) : ∀ w ∈ as ++ bs, w ∈ gT := fun w h => (List.mem_append.mp h).elim (h1 w) (h2 w)
set_option maxHeartbeats 4000000 in
/-- the run of a call, of whatever kind -/
theorem zrunc {Mc : zm_M} {rm : Room} {mc ms : Nat} {Qc : Array Value → State → Outcome → State → Prop} {XC : String → State → State → Prop} (hrm : rm.frames = (zmRoom Mc).frames ∧ rm.locals = (zmRoom Mc).locals ∧ rm.cells = mc ∧ rm.slots = ms) (C : zCx p l R s m args meth c own M D tc A) (hdc : zdec (zmB M) r = true) (hR : zR D tc ad A s h H locs) (hl : zLh ad (zmL M) la ls) (hS : zokS (zN h) st) (hRO : zRO sc A ad s s.heap) (hcR : cells + mc ≤ R.cells) (hsR : slots + ms ≤ R.slots) (hwd : ∀ w ∈ zwd own M envM r, w ∈ gT) (hwx : ∀ w ∈ zwx own M envM r, va_Nw w s) (hg : rG r = 6)
    {kd ei n rk th ci : Nat} {hs9 : List Nat} (e2 : rO r = kd :: ei :: n :: rk :: th :: ci :: hs9) (hM : envM[ei]? = some Mc) (hMt : vx_Met l (zmY Mc) (zmWs Mc) rm (va_Pc ((st.take n).reverse.map (cv ad)) (zPre sc D tc ad h H.size)) Qc XC mc ms (va_A (zws tc ad h) H.size)) (h77 : ∀ a, zN h ≤ a → (zK h a).1 = 77)
    (hrcv : ∀ y rest, (kd = 0 ∨ kd = 6) → st.drop (zmN Mc) = .ref y :: rest → (∃ cell : Cell, H[ad y]? = some cell ∧ cell.vm.isStatics = false ∧ s.vm.findClass (zmY Mc).cls = some cell.cls))
    (f1 : (zmRoom Mc).frames + 1 ≤ (zmRoom M).frames) (f2 : 8 + (zmL Mc + 11) + (zmRoom Mc).locals ≤ (zmRoom M).locals) (f3 : zplain (zmY Mc) (zmN Mc) = true)
    (f4 : zkind kd (rI r) n th ci Mc = true)
    (hn : n ≤ st.length) (hsum : ((st.drop n).map fun v => v.category).sum ≤ 8) (hth : th = 0 → ∀ E st9 t, ¬ XC E st9 t) (hnull : ∀ v rest, (kd = 0 ∨ kd = 6 ∨ kd = 2 ∨ kd = 4 ∨ kd = 7 ∨ kd = 8 ∨ kd = 10) → st.drop (zmN Mc) = v :: rest → ∃ y, v = .ref y)
    (hrcvB : ∀ y rest, (kd = 7 ∨ kd = 8 ∨ kd = 10) → st.drop (zmN Mc) = .ref y :: rest → (∃ cell : Cell, H[ad y]? = some cell ∧ cell.vm.isStatics = false ∧ s.vm.findClass RJ4 = some cell.cls)) :
    vx_Run p l e R s m args below meth c H locs cells slots mc ms (F0 m (rP r) ls (st.map (cv ad))) ((st.drop n).map (cv ad)) (Qc ((st.take n).reverse.map (cv ad)).toArray) XC (va_A (zws tc ad h) H.size) := by
  obtain ⟨hx, hb, hml, hown, hts, hK, hA, hRf, hRl, hlk, hlt, hnm, hret⟩ := C
  have hav : zokS (zN h) (st.take n).reverse := fun v hv => hS v (List.mem_of_mem_take (List.mem_reverse.mp hv))
  have hpl := zplain_ok f3
  have hRR : rm.frames + 1 ≤ R.frames ∧ 8 + (zmL Mc + 11) + rm.locals ≤ R.locals := ⟨by rw [hrm.1]; exact Nat.le_trans f1 hRf, by rw [hrm.2.1]; exact Nat.le_trans f2 hRl⟩
  have hfit : cells + mc ≤ R.cells ∧ slots + ms ≤ R.slots := ⟨hcR, hsR⟩
  have hFix : CallFix p m c (zmB M) (zmL M) s args gT own := ⟨hx, hb, hml, hown, hts⟩
  have hpre := zPre_of hR hA hK hRO
  have hsumc : 2 * (F0 m (rP r) ls (st.map (cv ad))).monitorRoom + (((st.drop n).map (cv ad)).map fun v => v.category).sum ≤ 8 := by
    refine lv_room ?_
    rw [List.map_map]
    have : ((fun v : Value => v.category) ∘ cv ad) = fun v => v.category := funext fun v => cv_cat ad v
    rw [this]
    exact hsum
  have hsplit : st.map (cv ad) = (((st.take n).reverse.map (cv ad)).reverse) ++ (st.drop n).map (cv ad) := by
    rw [← List.map_reverse, List.reverse_reverse, ← List.map_append, List.take_append_drop]
  have hlenAv : ((st.take n).reverse.map (cv ad)).length = n := by simp; omega
  -- a receiver: the last of what is taken
  have hrecv : ∀ n', n = n' + 1 → (∀ v rest, st.drop n' = v :: rest → ∃ y, v = .ref y) → ∃ y, (st.take n).reverse = .ref y :: (st.take n').reverse ∧ st.drop n' = .ref y :: st.drop n := by
    intro n' e3 hv
    subst e3
    have hlt : n' < st.length := by omega
    obtain ⟨y, hy⟩ := hv _ _ (List.drop_eq_getElem_cons hlt)
    refine ⟨y, ?_, ?_⟩
    · rw [List.take_add_one, List.getElem?_eq_getElem hlt, hy]
      simp
    · rw [List.drop_eq_getElem_cons hlt, hy]
  have hdd := zdec_ok hdc
  rcases zkind_inv f4 with ⟨hkd, ix, e1, rfl, hH⟩ | ⟨rfl, ix, e1, rfl, hH, hth1⟩ | ⟨rfl, ix, e1, rfl, hH, hi, hrn, rfl⟩ | ⟨rfl, ix, e1, rfl, hH, rfl⟩ | ⟨rfl, ix, e1, rfl, hH, hi, hrn, rfl⟩ | ⟨rfl, ix, e1, rfl, hH, rfl⟩ | ⟨⟨rfl, ⟨ix, e1⟩, hno⟩ | ⟨rfl, ⟨ix, e1⟩, hcls⟩ | ⟨rfl, ⟨ix, e1⟩, hnm9, hds9⟩, rfl, hH, rfl⟩
  · -- virtual
    have hd := hdd (fun d lo hi q e9 => by rw [e1] at e9; cases e9)
    rw [e1] at hd
    have hW := zmW_plain hH
    have hw0 : ∀ w ∈ ([.methodLink own ix (zmY Mc), .instanceMethod (zmY Mc), .selects (zmY Mc).cls (zmY Mc) (zmY Mc), .initialized (zmY Mc).cls, zmW Mc] : List Cond), w ∈ gT := fun w hw => hwd w (by rcases hkd with z | z <;> (rw [z.1] at e2; unfold zwd; rw [hg, e1, e2]; simp only [hM]; exact List.mem_append_left _ hw))
    obtain ⟨y, ey, ed⟩ := hrecv _ rfl (fun v rest q => hnull v rest (hkd.elim (fun z => Or.inl z.1) (fun z => Or.inr (Or.inl z.1))) q)
    have hgood : GoodIn gT (wsV own ix (zmY Mc).cls (zmY Mc) (zmWs Mc)) := gT_good (gT_app (fun w hw => hw0 w (by simp at hw ⊢; rcases hw with q | q | q | q <;> simp [q])) (fun w hw => ((zgW (M := Mc) (hw0 _ (by simp))) w hw).1))
    have cw := cwV (R := R) (y := zmY Mc) (bytes := zmB Mc) (maxL := zmL Mc) (ret := zmR Mc) (mc := mc) (ms := ms) (rm := rm) (zmN Mc) hts hgood (ws' := gT) (by unfold zmWs; rw [hW]) hrm.2.2.1 hrm.2.2.2 ⟨rfl, hpl⟩ hRR
    rw [ey] at hMt ⊢
    have hrun := vx_runV (p := p) (e := e) (below := below) (meth := meth) (locs := locs) (cells := cells) (slots := slots) (H := H) hFix hMt cw (b := ad y) (As := (st.take (zmN Mc)).reverse.map (cv ad)) (rest := (st.drop (zmN Mc + 1)).map (cv ad)) ⟨zPre_blind, hrcv y _ (hkd.elim (fun z => Or.inl z.1) (fun z => Or.inr z.1)) ed, fun U hU hW9 => ⟨rfl, hpre U hU hW9⟩⟩ (g := F0 m (rP r) ls (st.map (cv ad))) rfl (by simp; omega) (hl.1) (by
      show st.map (cv ad) = _
      rw [hsplit, ey]
      simp [cv]) hsumc hd hfit
    exact hrun
  · -- static
    have hd := hdd (fun d lo hi q e9 => by rw [e1] at e9; cases e9)
    rw [e1] at hd
    have hW := zmW_plain hH
    have hw0 : ∀ w ∈ ([.methodLink own ix (zmY Mc), .static (zmY Mc), .initialized (zmY Mc).cls, zmW Mc] : List Cond), w ∈ gT := fun w hw => hwd w (by unfold zwd; rw [hg, e1, e2]; simp only [hM]; exact hw)
    have hgood : GoodIn gT (va_wsS own ix (zmY Mc) (zmWs Mc)) := gT_good (gT_app (fun w hw => hw0 w (by simp at hw ⊢; rcases hw with q | q | q <;> simp [q])) (fun w hw => ((zgW (M := Mc) (hw0 _ (by simp))) w hw).1))
    have cw := va_cwS (R := R) (y := zmY Mc) (bytes := zmB Mc) (maxL := zmL Mc) (ret := zmR Mc) (mc := mc) (ms := ms) (rm := rm) (zmN Mc) hts hgood (ws' := gT) (by unfold zmWs; rw [hW]) hrm.2.2.1 hrm.2.2.2 hpl hRR
    exact vx_runS (p := p) (e := e) (below := below) (meth := meth) (locs := locs) (cells := cells) (slots := slots) (H := H) hFix hMt cw (As := (st.take (zmN Mc)).reverse.map (cv ad)) (rest := (st.drop (zmN Mc)).map (cv ad)) ⟨zPre_blind, fun U hU hW9 => ⟨rfl, hpre U hU hW9⟩⟩ (g := F0 m (rP r) ls (st.map (cv ad))) rfl hlenAv hl.1 hsplit hsumc hd hfit
  · -- a constructor
    have hd := hdd (fun d lo hi q e9 => by rw [e1] at e9; cases e9)
    rw [e1] at hd
    have hW := zmW_plain hH
    have hw0 : ∀ w ∈ ([.methodLink own ix (zmY Mc), .instanceMethod (zmY Mc), .initialized (zmY Mc).cls, zmW Mc] : List Cond), w ∈ gT := fun w hw => hwd w (by unfold zwd; rw [hg, e1, e2]; simp only [hM]; exact hw)
    obtain ⟨y, ey, ed⟩ := hrecv _ rfl (fun v rest q => hnull v rest (Or.inr (Or.inr (Or.inl rfl))) q)
    have cw := cwI (R := R) (s := s) (args := args) (own := own) (index := ix) (y := zmY Mc) (bytes := zmB Mc) (maxL := zmL Mc) (mc := mc) (ms := ms) (rm := rm) (zmN Mc) hts (zgW (M := Mc) (hw0 _ (by simp))) (ws' := gT) (by unfold zmWs; rw [hW, hrn]) hrm.2.2.1 hrm.2.2.2 (hts _ (hw0 _ (by simp))) (hts _ (hw0 _ (by simp))) (hts _ (hw0 _ (by simp))) hi hpl hRR
    rw [ey] at hMt ⊢
    have hM2 := Met_of_vx hMt (hth rfl)
    have hrun := va_runI (p := p) (e := e) (below := below) (meth := meth) (locs := locs) (cells := cells) (slots := slots) (H := H) hFix hM2 cw (b := ad y) (As := (st.take (zmN Mc)).reverse.map (cv ad)) (rest := (st.drop (zmN Mc + 1)).map (cv ad)) ⟨zPre_blind, fun U hU hW9 => ⟨rfl, hpre U hU hW9⟩⟩ (g := F0 m (rP r) ls (st.map (cv ad))) rfl (by simp; omega) hl.1 (by
      show st.map (cv ad) = _
      rw [hsplit, ey]
      simp [cv]) hsumc hd hfit
    intro T hT X
    obtain ⟨v, st₀, t, T', L, a1, a2, a3, a4, a5, a6, a7⟩ := hrun T hT X
    exact Or.inl ⟨v, st₀, t, T', L, a1, a2, a3, a4, a5, a6, a7⟩
  · -- static, of the nest
    have hd := hdd (fun d lo hi q e9 => by rw [e1] at e9; cases e9)
    rw [e1] at hd
    have hW := zmW_plain hH
    have hw0 : ∀ w ∈ ([.static (zmY Mc), .initialized (zmY Mc).cls, zmW Mc] : List Cond), w ∈ gT := fun w hw => hwd w (by unfold zwd; rw [hg, e1, e2]; simp only [hM]; exact hw)
    have hlk9 : va_Nw (.methodLinkNest own ix (zmY Mc) "KeyTour") s := hwx _ (by unfold zwx; rw [hg, e1, e2]; simp only [hM]; exact List.mem_cons_self)
    have cw := va_cnB (R := R) (y := zmY Mc) (bytes := zmB Mc) (maxL := zmL Mc) (ret := zmR Mc) (mc := mc) (ms := ms) (rm := rm) (zmN Mc) hts (zgW (M := Mc) (hw0 _ (by simp))) (ws' := gT) (by unfold zmWs; rw [hW]) hrm.2.2.1 hrm.2.2.2 hlk9 (hts _ (hw0 _ (by simp))) hpl hRR
    have hM2 := Met_of_vx hMt (hth rfl)
    have hrun := va_runSN (p := p) (e := e) (below := below) (meth := meth) (locs := locs) (cells := cells) (slots := slots) (H := H) hFix hM2 ⟨cw, hts _ (hw0 _ (by simp)), trivial⟩ (As := (st.take (zmN Mc)).reverse.map (cv ad)) (rest := (st.drop (zmN Mc)).map (cv ad)) ⟨zPre_blind, fun U hU hW9 => ⟨rfl, hpre U hU hW9⟩⟩ (g := F0 m (rP r) ls (st.map (cv ad))) rfl hlenAv hl.1 hsplit hsumc hd hfit
    intro T hT X
    obtain ⟨v, st₀, t, T', L, a1, a2, a3, a4, a5, a6, a7⟩ := hrun T hT X
    exact Or.inl ⟨v, st₀, t, T', L, a1, a2, a3, a4, a5, a6, a7⟩
  · -- a constructor, of the nest
    have hd := hdd (fun d lo hi q e9 => by rw [e1] at e9; cases e9)
    rw [e1] at hd
    have hW := zmW_plain hH
    have hw0 : ∀ w ∈ ([.instanceMethod (zmY Mc), .initialized (zmY Mc).cls, zmW Mc] : List Cond), w ∈ gT := fun w hw => hwd w (by unfold zwd; rw [hg, e1, e2]; simp only [hM]; exact hw)
    have hlk9 : va_Nw (.methodLinkNest own ix (zmY Mc) "KeyTour") s := hwx _ (by unfold zwx; rw [hg, e1, e2]; simp only [hM]; exact List.mem_cons_self)
    obtain ⟨y, ey, ed⟩ := hrecv _ rfl (fun v rest q => hnull v rest (Or.inr (Or.inr (Or.inr (Or.inl rfl)))) q)
    have cw := va_cnB (R := R) (y := zmY Mc) (bytes := zmB Mc) (maxL := zmL Mc) (ret := none) (mc := mc) (ms := ms) (rm := rm) (zmN Mc) hts (zgW (M := Mc) (hw0 _ (by simp))) (ws' := gT) (by unfold zmWs; rw [hW, hrn]) hrm.2.2.1 hrm.2.2.2 hlk9 (hts _ (hw0 _ (by simp))) hpl hRR
    rw [ey] at hMt ⊢
    have hM2 := Met_of_vx hMt (hth rfl)
    have hrun := va_runIN (p := p) (e := e) (below := below) (meth := meth) (locs := locs) (cells := cells) (slots := slots) (H := H) hFix hM2 ⟨cw, hi, hts _ (hw0 _ (by simp))⟩ (b := ad y) (As := (st.take (zmN Mc)).reverse.map (cv ad)) (rest := (st.drop (zmN Mc + 1)).map (cv ad)) ⟨zPre_blind, fun U hU hW9 => ⟨rfl, hpre U hU hW9⟩⟩ (g := F0 m (rP r) ls (st.map (cv ad))) rfl (by simp; omega) hl.1 (by
      show st.map (cv ad) = _
      rw [hsplit, ey]
      simp [cv]) hsumc hd hfit
    intro T hT X
    obtain ⟨v, st₀, t, T', L, a1, a2, a3, a4, a5, a6, a7⟩ := hrun T hT X
    exact Or.inl ⟨v, st₀, t, T', L, a1, a2, a3, a4, a5, a6, a7⟩
  · -- static, with handlers
    have hd := hdd (fun d lo hi q e9 => by rw [e1] at e9; cases e9)
    rw [e1] at hd
    have hW := zmW_hand hH
    have hw0 : ∀ w ∈ ([.methodLink own ix (zmY Mc), .static (zmY Mc), .initialized (zmY Mc).cls, zmW Mc] : List Cond), w ∈ gT := fun w hw => hwd w (by unfold zwd; rw [hg, e1, e2]; simp only [hM]; exact hw)
    have hgood : GoodIn gT (va_wsS own ix (zmY Mc) (zmWs Mc)) := gT_good (gT_app (fun w hw => hw0 w (by simp at hw ⊢; rcases hw with q | q | q <;> simp [q])) (fun w hw => ((zgW (M := Mc) (hw0 _ (by simp))) w hw).1))
    have cw := vx_cwSW (R := R) (y := zmY Mc) (bytes := zmB Mc) (maxL := zmL Mc) (ret := zmR Mc) (hh := zmH Mc) (mc := mc) (ms := ms) (rm := rm) (zmN Mc) hts hgood (ws' := gT) (by unfold zmWs; rw [hW]) hrm.2.2.1 hrm.2.2.2 hpl hRR
    have hM2 := Met_of_vx hMt (hth rfl)
    have hrun := vx_runSW (p := p) (e := e) (below := below) (meth := meth) (locs := locs) (cells := cells) (slots := slots) (H := H) hFix hM2 cw (As := (st.take (zmN Mc)).reverse.map (cv ad)) (rest := (st.drop (zmN Mc)).map (cv ad)) ⟨zPre_blind, fun U hU hW9 => ⟨rfl, hpre U hU hW9⟩⟩ (g := F0 m (rP r) ls (st.map (cv ad))) rfl hlenAv hl.1 hsplit hsumc hd hfit
    intro T hT X
    obtain ⟨v, st₀, t, T', L, a1, a2, a3, a4, a5, a6, a7⟩ := hrun T hT X
    exact Or.inl ⟨v, st₀, t, T', L, a1, a2, a3, a4, a5, a6, a7⟩
  · -- a method of the class above
    have hd := hdd (fun d lo hi q e9 => by rw [e1] at e9; cases e9)
    rw [e1] at hd
    have hW := zmW_plain hH
    have hw0 : ∀ w ∈ ([.methodLink own ix (zmY Mc), .sameMethod (zmY Mc).cls (zmY Mc).cls (zmY Mc).name (zmY Mc).desc, .superclass own (zmY Mc).cls, .instanceMethod (zmY Mc), .initialized (zmY Mc).cls, zmW Mc] : List Cond), w ∈ gT := fun w hw => hwd w (by unfold zwd; rw [hg, e1, e2]; simp only [hM]; exact hw)
    obtain ⟨y, ey, ed⟩ := hrecv _ rfl (fun v rest q => hnull v rest (Or.inr (Or.inr (Or.inr (Or.inr (Or.inl rfl))))) q)
    have hgood : GoodIn gT (va_wsSU own ix (zmY Mc) (zmWs Mc)) := gT_good (gT_app (fun w hw => hw0 w (by simp at hw ⊢; rcases hw with q | q | q | q | q <;> simp [q])) (fun w hw => ((zgW (M := Mc) (hw0 _ (by simp))) w hw).1))
    have cw := va_cwSU (R := R) (y := zmY Mc) (bytes := zmB Mc) (maxL := zmL Mc) (ret := zmR Mc) (mc := mc) (ms := ms) (rm := rm) (zmN Mc) hts hgood (ws' := gT) (by unfold zmWs; rw [hW]) hrm.2.2.1 hrm.2.2.2 ⟨hno, hpl.2.2⟩ hRR
    have hat : ClassAt s RJ4 (D.1 6) := (hK.1 6 (RJ4, TJ4, 4) rfl).2
    rw [ey] at hMt ⊢
    have hM2 := Met_of_vx hMt (hth rfl)
    have hrun := va_runSU (p := p) (e := e) (below := below) (meth := meth) (locs := locs) (cells := cells) (slots := slots) (H := H) hat hFix hM2 cw (b := ad y) (As := (st.take (zmN Mc)).reverse.map (cv ad)) (rest := (st.drop (zmN Mc + 1)).map (cv ad)) ⟨zPre_blind, hrcvB y _ (Or.inl rfl) ed, fun U hU hW9 => ⟨rfl, hpre U hU hW9⟩⟩ (g := F0 m (rP r) ls (st.map (cv ad))) rfl (by simp; omega) hl.1 (by
      show st.map (cv ad) = _
      rw [hsplit, ey]
      simp [cv]) hsumc hd hfit
    intro T hT X
    obtain ⟨v, st₀, t, T', L, a1, a2, a3, a4, a5, a6, a7⟩ := hrun T hT X
    exact Or.inl ⟨v, st₀, t, T', L, a1, a2, a3, a4, a5, a6, a7⟩
  · -- inherited
    have hd := hdd (fun d lo hi q e9 => by rw [e1] at e9; cases e9)
    rw [e1] at hd
    have hW := zmW_plain hH
    have hw0 : ∀ w ∈ ([.methodLink own ix (zmY Mc), .sameMethod RJ5 RJ5 (zmY Mc).name (zmY Mc).desc, .selects RJ4 (zmY Mc) (zmY Mc), .instanceMethod (zmY Mc), .initialized (zmY Mc).cls, zmW Mc] : List Cond), w ∈ gT := fun w hw => hwd w (by unfold zwd; rw [hg, e1, e2]; simp only [hM]; exact hw)
    obtain ⟨y, ey, ed⟩ := hrecv _ rfl (fun v rest q => hnull v rest (Or.inr (Or.inr (Or.inr (Or.inr (Or.inr (Or.inl rfl)))))) q)
    have hgood : GoodIn gT (va_wsU own ix RJ4 RJ5 (zmY Mc) (zmY Mc) (zmWs Mc)) := gT_good (gT_app (fun w hw => hw0 w (by rw [hcls] at hw; simp at hw ⊢; rcases hw with q | q | q | q | q <;> simp [q, hcls])) (fun w hw => ((zgW (M := Mc) (hw0 _ (by simp))) w hw).1))
    have cw := va_cwU (R := R) (C := RJ4) (owner := RJ5) (x := zmY Mc) (y := zmY Mc) (bytes := zmB Mc) (maxL := zmL Mc) (ret := zmR Mc) (mc := mc) (ms := ms) (rm := rm) (zmN Mc) hts hgood (ws' := gT) (by unfold zmWs; rw [hW]) hrm.2.2.1 hrm.2.2.2 (by rw [← hcls]) ⟨by decide +kernel, by decide +kernel, hpl.2.2⟩ hRR
    rw [ey] at hMt ⊢
    have hM2 := Met_of_vx hMt (hth rfl)
    have hrun := va_runU (p := p) (e := e) (below := below) (meth := meth) (locs := locs) (cells := cells) (slots := slots) (H := H) hFix hM2 cw (b := ad y) (As := (st.take (zmN Mc)).reverse.map (cv ad)) (rest := (st.drop (zmN Mc + 1)).map (cv ad)) ⟨zPre_blind, hrcvB y _ (Or.inr (Or.inl rfl)) ed, fun U hU hW9 => ⟨rfl, hpre U hU hW9⟩⟩ (g := F0 m (rP r) ls (st.map (cv ad))) rfl (by simp; omega) hl.1 (by
      show st.map (cv ad) = _
      rw [hsplit, ey]
      simp [cv]) hsumc hd hfit
    intro T hT X
    obtain ⟨v, st₀, t, T', L, a1, a2, a3, a4, a5, a6, a7⟩ := hrun T hT X
    exact Or.inl ⟨v, st₀, t, T', L, a1, a2, a3, a4, a5, a6, a7⟩
  · -- overriding
    have hd := hdd (fun d lo hi q e9 => by rw [e1] at e9; cases e9)
    rw [e1] at hd
    have hW := zmW_plain hH
    have hw0 : ∀ w ∈ ([.methodLink own ix yJ5_length_8abf5, .sameMethod RJ5 RJ5 "length" "()I", .instanceMethod yJ5_length_8abf5, .selects RJ4 yJ5_length_8abf5 (zmY Mc), .instanceMethod (zmY Mc), .initialized (zmY Mc).cls, .code yJ5_length_8abf5 cJ5_length_8abf5 1 (some .int), zmW Mc] : List Cond), w ∈ gT := fun w hw => hwd w (by unfold zwd; rw [hg, e1, e2]; simp only [hM]; exact hw)
    obtain ⟨y, ey, ed⟩ := hrecv _ rfl (fun v rest q => hnull v rest (Or.inr (Or.inr (Or.inr (Or.inr (Or.inr (Or.inr rfl)))))) q)
    have hgood : GoodIn gT (va_wsO own ix RJ4 RJ5 yJ5_length_8abf5 (zmY Mc) (zmWs Mc)) := gT_good (gT_app (fun w hw => hw0 w (by simp [yJ5_length_8abf5] at hw ⊢; rcases hw with q | q | q | q | q | q <;> simp [q])) (fun w hw => ((zgW (M := Mc) (hw0 _ (by simp))) w hw).1))
    have cw := va_cwO (R := R) (C := RJ4) (owner := RJ5) (x := yJ5_length_8abf5) (y := zmY Mc) (bytes := zmB Mc) (maxL := zmL Mc) (ret := zmR Mc) (mc := mc) (ms := ms) (rm := rm) (zmN Mc) hts hgood (ws' := gT) (by unfold zmWs; rw [hW]) hrm.2.2.1 hrm.2.2.2 (b0 := cJ5_length_8abf5) (m0 := 1) (r0 := some .int) (hw0 _ (by simp [yJ5_length_8abf5])) ⟨by decide +kernel, by decide +kernel, by rw [← hpl.2.2, hds9]; rfl⟩ hRR
    rw [ey] at hMt ⊢
    have hM2 := Met_of_vx hMt (hth rfl)
    have hrun := va_runU (p := p) (e := e) (below := below) (meth := meth) (locs := locs) (cells := cells) (slots := slots) (H := H) hFix hM2 cw (b := ad y) (As := (st.take (zmN Mc)).reverse.map (cv ad)) (rest := (st.drop (zmN Mc + 1)).map (cv ad)) ⟨zPre_blind, hrcvB y _ (Or.inr (Or.inr rfl)) ed, fun U hU hW9 => ⟨rfl, hpre U hU hW9⟩⟩ (g := F0 m (rP r) ls (st.map (cv ad))) rfl (by simp; omega) hl.1 (by
      show st.map (cv ad) = _
      rw [hsplit, ey]
      simp [cv]) hsumc hd hfit
    intro T hT X
    obtain ⟨v, st₀, t, T', L, a1, a2, a3, a4, a5, a6, a7⟩ := hrun T hT X
    exact Or.inl ⟨v, st₀, t, T', L, a1, a2, a3, a4, a5, a6, a7⟩
end ZW
