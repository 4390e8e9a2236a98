/-! THE LAW'S LOOP (written by wip/whole/gen99l.py). -/
section ZLO
variable {p : Program} {l : Launch} {e : Env} {s : State} {m : MethodId} {below : List Frame} {meth : Method} {c : Code} {b : Addr} {D : va_G} {tc : Nat → ClassId} {ad0 : Nat → Nat} {scr : Nat × (Nat → Int32)}
set_option maxHeartbeats 4000000 in
theorem zl_ret (C : zCx p l room_1 s m #[Value.ref b] meth c RL mL_law D tc (fun q : Nat => s.heap.size ≤ q)) {c0 s0 : Nat} (hc0 : c0 ≤ 512) (hs0 : s0 = 9 * c0) {i : Nat} {r : zm_R} {st : List Value} {h : zm_H} {ad : Nat → Nat} {H : Heap} {locs : List Loc} {ls : Array Slot} {o : zm_O} (hr : rL_law[i]? = some r) (hdc : zdec (zmB mL_law) r = true) (hg : rG r = 5) (ho : zg5 r st h = some o) (h1 : o.1 = .inl (some (.int 1))) (hR : zR D tc ad (fun q : Nat => s.heap.size ≤ q) s h H locs) :
    W p l e room_1 s m #[Value.ref b] below meth c H locs (c0 + (rN r).1) (s0 + (rN r).2) (lw_Z below #[Value.ref b] s) (F0 m (rP r) ls (st.map (cv ad))) := by
  obtain ⟨hx, hb, hml, hown, hts, hK, hA, hRf, hRl, hlk, hlt, hnm, hret⟩ := C
  have hc := zlC i r hr
  unfold zchk at hc
  rw [hg] at hc
  simp only [hdc, Bool.true_and, Bool.and_eq_true, decide_eq_true_eq] at hc
  obtain ⟨⟨hc1, hc2⟩, -⟩ := hc
  have z1 : zmC mL_law = 153 := rfl
  have z2 : zmS mL_law = 165051 := rfl
  have key : rI r = .ireturn ∧ st = [.int 1] := by
    unfold zg5 at ho
    split at ho
    · rename_i q1 q2
      split at ho
      · cases ho
        cases h1
        exact ⟨q1, rfl⟩
      · cases ho
    · rename_i q1 q2
      split at ho
      · obtain ⟨-, ho⟩ := zgd_some ho
        cases ho
        cases h1
        exact ⟨q1, rfl⟩
      · cases ho
    all_goals first
      | (exfalso; split at ho <;> first | (cases ho; cases h1) | (cases ho))
      | (exfalso; cases ho)
  obtain ⟨q1, rfl⟩ := key
  have hd := zdec_ok hdc (fun d lo hi q e9 => by rw [q1] at e9; cases e9)
  rw [q1] at hd
  refine va_forget (fun q hq => hR.2.2.1.2.2 q hq) ?_
  refine W.widen (k := 601024) (n := 7293034) (by omega) (by omega) ?_
  exact lw_ret (d0 := s.drawn) (fun c => ⟨Nat.le_refl _, fun _ => rfl⟩) hx hb hret hlk hd
set_option maxHeartbeats 4000000 in
theorem zl_go (C : zCx p l room_1 s m #[Value.ref b] meth c RL mL_law D tc (fun q : Nat => s.heap.size ≤ q)) (htab : c.exceptionTable.toList = []) (hscr : va_X (ad0 2000000) scr.1 scr.2 s s.heap ∧ ad0 2000000 < s.heap.size ∧ ¬ (fun q : Nat => s.heap.size ≤ q) (ad0 2000000)) (hRO : zRO (fun q : Nat => s.heap.size ≤ q) ad0 s s.heap) {c0 s0 : Nat} (hc0 : c0 ≤ 512) (hs0 : s0 = 9 * c0) {x : zm_T ⊕ zm_O} (hx1 : ∀ (E : Nat) (h2 : zm_H), x ≠ .inr (.inr E, h2)) (hfin : ∀ o, x = .inr o → o.1 = .inl (some (.int 1)))
    (khead : ∀ (i : Nat) (r : zm_R) (la : zm_L) (st : List Value) (h : zm_H) (ad : Nat → Nat) (H : Heap) (locs : List Loc) (ls : Array Slot), rL_law[i]? = some r → x = .inl (i, la, st, h) → zext 0 ad0 ad → zR D tc ad (fun q : Nat => s.heap.size ≤ q) s h H locs → zLh ad (zmL mL_law) la ls → zokS (zN h) st → zokL (zN h) la → W p l e room_1 s m #[Value.ref b] below meth c H locs (c0 + (rN r).1) (s0 + (rN r).2) (lw_Z below #[Value.ref b] s) (F0 m (rP r) ls (st.map (cv ad)))) :
    ∀ (i : Nat) (r : zm_R) (la : zm_L) (st : List Value) (h : zm_H) (ad : Nat → Nat) (H : Heap) (locs : List Loc) (ls : Array Slot), rL_law[i]? = some r → zE vL_law scr rL_law (i, la, st, h) = some x → zext 0 ad0 ad → zR D tc ad (fun q : Nat => s.heap.size ≤ q) s h H locs → zLh ad (zmL mL_law) la ls → zokS (zN h) st → zokL (zN h) la → W p l e room_1 s m #[Value.ref b] below meth c H locs (c0 + (rN r).1) (s0 + (rN r).2) (lw_Z below #[Value.ref b] s) (F0 m (rP r) ls (st.map (cv ad))) := by
  intro i r la st h ad H locs ls hr hE he hR hl hS hL
  have z1 : zmC mL_law = 153 := rfl
  have z2 : zmS mL_law = 165051 := rfl
  have r1 : room_1.cells = 601024 := rfl
  have r2 : room_1.slots = 7293034 := rfl
  have hlt : l.stackTraces = false := C.2.2.2.2.2.2.2.2.2.2.1
  refine zsim_ev (n0 := 0) (ad0 := ad0) (scr := scr) (x := x) C (by omega) (by omega) zlV (zlE hlt) zlC zlW zlX (fun _ => hscr) hRO htab ?_ ?_ ?_ ?_ ?_ 4000 i r la st h ad H locs ls hr hE he (Nat.zero_le _) hR hl hS hL
  · intro i r la st h ad H locs ls o hr hdc hg ho hx2 he hz hR hl hS hL
    exact zl_ret C hc0 hs0 hr hdc hg ho (hfin o hx2) hR
  · intro i r la st h ad H locs ls y os hr hdc hg e2 hst hx2
    exact absurd hx2 (hx1 _ _)
  · intro E h2 ad2 H2 locs2 ce q rest pc ls hx2
    exact absurd hx2 (hx1 _ _)
  · intro E h2 hx2
    exact absurd hx2 (hx1 _ _)
  · intro i r la st h ad H locs ls hr hx2 he hz hR hl hS hL
    exact khead i r la st h ad H locs ls hr hx2 he hR hl hS hL
theorem zl_r {i : Nat} {v : Nat × Nat × Nat} (h : (rL_law[i]?).map (fun r => (rP r, rN r)) = some v) : ∃ r, rL_law[i]? = some r ∧ rP r = v.1 ∧ (rN r).1 = v.2.1 ∧ (rN r).2 = v.2.2 := by
  cases hr : rL_law[i]? with
  | none => rw [hr] at h; cases h
  | some r => rw [hr] at h; cases h; exact ⟨r, rfl, rfl, rfl, rfl⟩
set_option maxRecDepth 100000 in
theorem zl_r0 : (rL_law[0]?).map (fun r => (rP r, rN r)) = some (0, 0, 0) := by decide +kernel
set_option maxRecDepth 100000 in
theorem zl_r16 : (rL_law[16]?).map (fun r => (rP r, rN r)) = some (28, 152, 165042) := by decide +kernel
set_option maxRecDepth 100000 in
theorem zl_r1719 : (rL_law[1719]?).map (fun r => (rP r, rN r)) = some (28, 153, 165051) := by decide +kernel
theorem zl_ok5 (n i : Nat) (hn : 141 ≤ n) : zokL n (lo5 i) := by
  intro v hv
  unfold lo5 at hv
  simp only [List.mem_cons, Option.some.injEq, reduceCtorEq, List.not_mem_nil, or_false] at hv
  rcases hv with rfl | rfl | rfl | rfl | rfl | rfl
  · exact Or.inr (Nat.le_of_ble_eq_true rfl)
  · exact Or.inl (Nat.lt_of_lt_of_le (show 0 < 141 by decide) hn)
  · exact Or.inl (Nat.lt_of_lt_of_le (show 125 < 141 by decide) hn)
  · exact Or.inl (Nat.lt_of_lt_of_le (show 139 < 141 by decide) hn)
  · exact Or.inl (Nat.lt_of_lt_of_le (show 140 < 141 by decide) hn)
  · trivial
set_option maxHeartbeats 4000000 in
theorem zl_loop (C : zCx p l room_1 s m #[Value.ref b] meth c RL mL_law D tc (fun q : Nat => s.heap.size ≤ q)) (htab : c.exceptionTable.toList = []) (hs : scr.1 ≤ 3072) (hscr : va_X (ad0 2000000) scr.1 scr.2 s s.heap ∧ ad0 2000000 < s.heap.size ∧ ¬ (fun q : Nat => s.heap.size ≤ q) (ad0 2000000)) (hRO : zRO (fun q : Nat => s.heap.size ≤ q) ad0 s s.heap) :
    ∀ (n i c0 : Nat) (N : zLv) (P : List zLv) (K : Nat → Option zLv) (xs ys : List Int32) (h : zm_H) (ad : Nat → Nat) (H : Heap) (locs : List Loc) (ls : Array Slot), c0 + n = 512 → scr.1 < i + 6 * (n + 1) → i ≤ 3072 → zN h ≤ 141 + c0 → LI h N P K xs ys → zext 0 ad0 ad → zR D tc ad (fun q : Nat => s.heap.size ≤ q) s h H locs → zLh ad (zmL mL_law) (lo5 i) ls → W p l e room_1 s m #[Value.ref b] below meth c H locs (c0 + 152) (9 * c0 + 165042) (lw_Z below #[Value.ref b] s) (F0 m 28 ls []) := by
  obtain ⟨r16, g16, p16, u16, v16⟩ := zl_r zl_r16
  intro n
  induction n with
  | zero =>
    intro i c0 N P K xs ys h ad H locs ls hn hi1 hi3 hz HL he hR hl
    have hi : ¬ i + 6 ≤ scr.1 := by omega
    have h141 := HL.2.2.2.2.2.2.2.2.2.2.2.2.2.1
    have K0 := zl_go (e := e) (below := below) C htab hscr hRO (c0 := c0) (s0 := 9 * c0) (by omega) rfl (x := .inr (.inl (some (.int 1)), h)) (fun E h2 q => by cases q) (fun o q => by cases q; rfl) (fun i r la st h ad H locs ls hr hx2 => by cases hx2) 16 r16 (lo5 i) [] h ad H locs ls g16 (kL_end hs hi3 hi) he hR hl zokS_nil (zl_ok5 _ _ h141)
    rw [p16, u16, v16] at K0
    exact K0
  | succ n ih =>
    intro i c0 N P K xs ys h ad H locs ls hn hi1 hi3 hz HL he hR hl
    have h141 := HL.2.2.2.2.2.2.2.2.2.2.2.2.2.1
    by_cases hi : i + 6 ≤ scr.1
    · obtain ⟨x, e16, h', N', P', K', xs', ys', e27, HL', hz1, hz2⟩ := kL_round HL (by omega) hi hs
      have K0 := zl_go (e := e) (below := below) C htab hscr hRO (c0 := c0) (s0 := 9 * c0) (by omega) rfl (x := .inl (27, lo5 i, [.int x], h)) (fun E h2 q => by cases q) (fun o q => by cases q) (fun i9 r27 la st h2 ad2 H2 locs2 ls2 g27 hx2 he2 hR2 hl2 hS2 hL2 => by
        cases hx2
        refine zl_go (e := e) (below := below) C htab hscr hRO (c0 := c0) (s0 := 9 * c0) (by omega) rfl (x := .inl (1719, lo5 (i + 6), [], h')) (fun E h2 q => by cases q) (fun o q => by cases q) (fun i9 r9 la st h2 ad3 H3 locs3 ls3 g9 hx3 he3 hR3 hl3 hS3 hL3 => ?_) 27 r27 (lo5 i) [.int x] h ad2 H2 locs2 ls2 g27 e27 he2 hR2 hl2 hS2 hL2
        cases hx3
        obtain ⟨r1719, g1719, p1719, u1719, v1719⟩ := zl_r zl_r1719
        cases Option.some.inj (g9.symm.trans g1719)
        rw [p1719, u1719, v1719]
        have K1 := ih (i + 6) (c0 + 1) N' P' K' xs' ys' h' ad3 H3 locs3 ls3 (by omega) (by omega) (by omega) (by omega) HL' he3 hR3 hl3
        rw [show c0 + 1 + 152 = c0 + 153 by omega, show 9 * (c0 + 1) + 165042 = 9 * c0 + 165051 by omega] at K1
        exact K1) 16 r16 (lo5 i) [] h ad H locs ls g16 e16 he hR hl zokS_nil (zl_ok5 _ _ h141)
      rw [p16, u16, v16] at K0
      exact K0
    · have K0 := zl_go (e := e) (below := below) C htab hscr hRO (c0 := c0) (s0 := 9 * c0) (by omega) rfl (x := .inr (.inl (some (.int 1)), h)) (fun E h2 q => by cases q) (fun o q => by cases q; rfl) (fun i r la st h ad H locs ls hr hx2 => by cases hx2) 16 r16 (lo5 i) [] h ad H locs ls g16 (kL_end hs hi3 hi) he hR hl zokS_nil (zl_ok5 _ _ h141)
      rw [p16, u16, v16] at K0
      exact K0
def zw_h0 : zm_H := (0, fun _ => (77, 0), fun _ _ => 0, fun _ _ => 0, fun _ _ => none, fun _ _ => 0)
set_option maxHeartbeats 4000000 in
theorem whole_start (l : Launch) (hflags : l.flags = flags0) {b L : Nat} {xs : Nat → Int32} (hL : L ≤ 3072) (C0 : lw_At p s m meth c b L xs) (hno : ∀ z ∈ c.exceptionTable.toList, False) (hnm : meth.name = "law") : W p l e room_1 s m #[Value.ref b] below meth c s.heap [] 0 0 (lw_Z below #[Value.ref b] s) (entryFrame m ([Value.ref b] : List Value).toArray 10) := by
  obtain ⟨hx, hb, hr, hml, hown, hts, hX, hbl, hlocks, hgv⟩ := C0
  have hlt : l.stackTraces = false := by unfold Launch.stackTraces; rw [hflags]; decide +kernel
  obtain ⟨D, tc, hK⟩ := zw_K hts
  obtain ⟨ad, had, hRO⟩ := zw_RO hts (flat_of_before _ hgv) b
  have C : zCx p l room_1 s m #[Value.ref b] meth c RL mL_law D tc (fun q : Nat => s.heap.size ≤ q) := ⟨hx, hb, hml, hown, fun w hw => hts w (List.mem_filter.mp hw).1, hK, fun q hq => hq, Nat.le_of_ble_eq_true rfl, Nat.le_of_ble_eq_true rfl, hlocks, hlt, hnm, hr⟩
  have htab : c.exceptionTable.toList = [] := List.eq_nil_iff_forall_not_mem.mpr (fun z hz => hno z hz)
  have hscr : va_X (ad 2000000) L xs s s.heap ∧ ad 2000000 < s.heap.size ∧ ¬ (fun q : Nat => s.heap.size ≤ q) (ad 2000000) := by rw [had]; exact ⟨hX, hbl, Nat.not_le.mpr hbl⟩
  obtain ⟨h1, e1, HL, n1⟩ := kL_start (scr := (L, xs)) (h0 := zw_h0) rfl
  have hR0 : zR D tc ad (fun q : Nat => s.heap.size ≤ q) s zw_h0 s.heap [] := ⟨by rw [show zws tc ad zw_h0 = [] from rfl]; exact (fun k q h => by simp at h), by rw [show zws tc ad zw_h0 = [] from rfl]; exact ⟨(fun i j p q h => by simp at h), (fun k q h => by simp at h)⟩, va_S.rf, ⟨(fun a i k h => by cases h), Nat.zero_le _, fun a h => rfl⟩⟩
  have hl := lv_entry ([.ref b]) (n := 10) (Nat.le_of_ble_eq_true rfl)
  rw [lg_entry_eq]
  generalize (lg_sl ([.ref b]) ++ List.replicate (10 - (lg_sl ([.ref b])).length) Slot.unset).toArray = ls at hl ⊢
  have hl : lv_has ls 10 [(0, .ref b)] := hl
  have hl0 : zLh ad (zmL mL_law) [some (.ref 2000000), none, none, none, none, none, none, none, none, none] ls := by
    refine ⟨hl.1, hl.2.1, rfl, fun i v hv => ?_⟩
    match i, hv with
    | 0, hv =>
      cases hv
      show ls[0]? = some (Slot.val (.ref (ad 2000000)))
      rw [had]
      exact lv_at hl 0 rfl
    | 1, hv => cases hv
    | 2, hv => cases hv
    | 3, hv => cases hv
    | 4, hv => cases hv
    | 5, hv => cases hv
    | 6, hv => cases hv
    | 7, hv => cases hv
    | 8, hv => cases hv
    | 9, hv => cases hv
    | i + 10, hv => cases hv
  obtain ⟨r0, g0, p0, u0, v0⟩ := zl_r zl_r0
  have K0 := zl_go (e := e) (below := below) C htab (scr := (L, xs)) hscr hRO (c0 := 0) (s0 := 0) (by omega) rfl (x := .inl (16, lo5 0, [], h1)) (fun E h2 q => by cases q) (fun o q => by cases q) (fun i9 r16 la st h2 ad2 H2 locs2 ls2 g9 hx2 he2 hR2 hl2 hS2 hL2 => by
    cases hx2
    obtain ⟨r16', g16, p16, u16, v16⟩ := zl_r zl_r16
    cases Option.some.inj (g9.symm.trans g16)
    rw [p16, u16, v16]
    exact zl_loop (e := e) (below := below) C htab (scr := (L, xs)) hL hscr hRO 512 0 0 _ _ _ _ _ h1 ad2 H2 locs2 ls2 rfl (by show L < _; omega) (by omega) (by omega) HL he2 hR2 hl2) 0 r0 [some (.ref 2000000), none, none, none, none, none, none, none, none, none] [] zw_h0 ad s.heap [] ls g0 e1 zext.rf hR0 hl0 zokS_nil (fun v hv => by
      simp only [List.mem_cons, Option.some.injEq, reduceCtorEq, List.not_mem_nil, or_false] at hv
      subst hv
      exact Or.inr (Nat.le_of_ble_eq_true rfl))
  rw [p0, u0, v0] at K0
  exact K0
end ZLO
