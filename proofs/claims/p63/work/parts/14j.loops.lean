/-! RUNS THAT GO BACK: a loop whose rounds make cells is cut; at the cut the run goes on at the loop's head, and its counters grow by one round. -/
section ZJ1
/-- a run: n steps from stop to stop, k ways back -/
def zrunJ (env : List (zm_M × zm_S)) (scr : Nat × (Nat → Int32)) (rows : List zm_R) (J : Nat → Option Nat) : Nat → Nat → zm_T → Option zm_O
  | 0, _, _ => none
  | n + 1, k, t => match zE env scr rows t with
    | some (.inl t2) => (match J t2.1 with
      | none => zrunJ env scr rows J n k t2
      | some hd => (match k with | 0 => none | k + 1 => zrunJ env scr rows J n k (hd, t2.2)))
    | some (.inr o) => some o
    | none => none
def zRJ (env : List (zm_M × zm_S)) (scr : Nat × (Nat → Int32)) (rows : List zm_R) (J : Nat → Option Nat) (k : Nat) (t : zm_T) (o : zm_O) : Prop := ∃ n, zrunJ env scr rows J n k t = some o
variable {env : List (zm_M × zm_S)} {scr : Nat × (Nat → Int32)} {rows : List zm_R} {J : Nat → Option Nat}
theorem zRJ.head {k : Nat} {t t2 : zm_T} {o : zm_O} (h : zE env scr rows t = some (.inl t2)) (hj : J t2.1 = none) (q : zRJ env scr rows J k t2 o) : zRJ env scr rows J k t o := by
  obtain ⟨n, hn⟩ := q
  exact ⟨n + 1, by simp only [zrunJ, h, hj]; exact hn⟩
theorem zRJ.back {k hd : Nat} {t t2 : zm_T} {o : zm_O} (h : zE env scr rows t = some (.inl t2)) (hj : J t2.1 = some hd) (q : zRJ env scr rows J k (hd, t2.2) o) : zRJ env scr rows J (k + 1) t o := by
  obtain ⟨n, hn⟩ := q
  exact ⟨n + 1, by simp only [zrunJ, h, hj]; exact hn⟩
theorem zRJ.done {k : Nat} {t : zm_T} {o : zm_O} (h : zE env scr rows t = some (.inr o)) : zRJ env scr rows J k t o := ⟨1, by simp only [zrunJ, h]⟩
theorem zrunJ_mono {o : zm_O} : ∀ {n k : Nat} {t : zm_T}, zrunJ env scr rows J n k t = some o → zrunJ env scr rows J (n + 1) k t = some o := by
  intro n
  induction n with
  | zero => intro k t h; cases h
  | succ n ih =>
    intro k t h
    rw [zrunJ] at h
    rw [zrunJ]
    cases e : zE env scr rows t with
    | none => rw [e] at h; cases h
    | some x =>
      rw [e] at h
      cases x with
      | inr o2 => exact h
      | inl t2 =>
        simp only [] at h ⊢
        cases e2 : J t2.1 with
        | none => rw [e2] at h; simp only [] at h ⊢; exact ih h
        | some hd =>
          rw [e2] at h
          simp only [] at h ⊢
          cases k with
          | zero => cases h
          | succ k => exact ih h
theorem zrunJ_le {o : zm_O} {n m k : Nat} {t : zm_T} (h : zrunJ env scr rows J n k t = some o) (hk : n ≤ m) : zrunJ env scr rows J m k t = some o := by
  induction hk with
  | refl => exact h
  | step _ ih => exact zrunJ_mono ih
theorem zRJ.one {k : Nat} {t : zm_T} {o o2 : zm_O} (h : zRJ env scr rows J k t o) (h2 : zRJ env scr rows J k t o2) : o = o2 := by
  obtain ⟨n, hn⟩ := h
  obtain ⟨m, hm⟩ := h2
  exact Option.some.inj ((zrunJ_le hn (Nat.le_max_left n m)).symm.trans (zrunJ_le hm (Nat.le_max_right n m)))
/-- what such a method answers; where it would throw, nothing is said -/
noncomputable def zsemJ (env : List (zm_M × zm_S)) (rows : List zm_R) (J : Nat → Option Nat) (K nL : Nat) : zm_S := fun av h =>
  @dite (Option zm_O) ((zarg av).length ≤ nL ∧ ∃ o : zm_O, (∃ v h2, o = (.inl v, h2)) ∧ zRJ env (0, fun _ => 0) rows J K (0, zlok nL av, [], h) o) (Classical.propDecidable _) (fun q => some q.2.choose) (fun _ => none)
theorem zsemJ_of {K nL : Nat} {av : List Value} {h : zm_H} {v : Option Value} {h2 : zm_H} (hn : (zarg av).length ≤ nL) (q : zRJ env (0, fun _ => 0) rows J K (0, zlok nL av, [], h) (.inl v, h2)) : zsemJ env rows J K nL av h = some (.inl v, h2) := by
  have e : ∃ o : zm_O, (∃ v h2, o = (.inl v, h2)) ∧ zRJ env (0, fun _ => 0) rows J K (0, zlok nL av, [], h) o := ⟨_, ⟨_, _, rfl⟩, q⟩
  unfold zsemJ
  rw [dif_pos ⟨hn, e⟩]
  exact congrArg some (zRJ.one e.choose_spec.2 q)
theorem zsemJ_rn {K nL : Nat} {av : List Value} {h : zm_H} {o : zm_O} (q : zsemJ env rows J K nL av h = some o) : (∃ v h2, o = (.inl v, h2)) ∧ (zarg av).length ≤ nL ∧ zRJ env (0, fun _ => 0) rows J K (0, zlok nL av, [], h) o := by
  unfold zsemJ at q
  split at q
  · rename_i hq
    rw [← Option.some.inj q]
    exact ⟨hq.2.choose_spec.1, hq.1, hq.2.choose_spec.2⟩
  · cases q
/-- a method with more room -/
def zmUp (M : zm_M) (c s : Nat) : zm_M := (M.1, M.2.1, M.2.2.1, M.2.2.2.1, (M.2.2.2.2.1.1, c, s, M.2.2.2.2.1.2.2.2), M.2.2.2.2.2.1, M.2.2.2.2.2.2.1, (c, s))
end ZJ1
section ZJ2
variable {sc : Nat × (Nat → Int32)}
variable {p : Program} {l : Launch} {e : Env} {R : Room} {s : State} {m : MethodId} {args : Array Value} {below : List Frame} {meth : Method} {c : Code} {Q : State → Prop}
variable {own : String} {M : zm_M} {envM : List zm_M} {D : va_G} {tc : Nat → ClassId} {A : Nat → Prop} {rows : List zm_R}
set_option maxHeartbeats 4000000 in
theorem zJ_main {env : List (zm_M × zm_S)} {scr : Nat × (Nat → Int32)} {n0 : Nat} {ad0 : Nat → Nat} {v : Option Value} {h' : zm_H} {J : Nat → Option Nat} {K dc ds : Nat} (C : zCx p l R s m args meth c own M D tc A) (hcR : K * dc + zmC M ≤ R.cells) (hsR : K * ds + zmS M ≤ R.slots)
    (henv : envM = env.map Prod.fst) (hE : ∀ (j : Nat) (q : zm_M × zm_S), env[j]? = some q → MetA sc l q.1 q.2) (hch : ∀ (i : Nat) (r : zm_R), rows[i]? = some r → zchk own M envM rows i r = true)
    (hwd : ∀ (i : Nat) (r : zm_R), rows[i]? = some r → ∀ w ∈ zwd own M envM r, w ∈ gT) (hwx : ∀ (i : Nat) (r : zm_R), rows[i]? = some r → ∀ w ∈ zwx own M envM r, zspc w = true ∧ w ∈ lw_tbl)
    (hnl : (zmY M).name ≠ "draw") (hRO : zRO sc A ad0 s s.heap) (htab : c.exceptionTable.toList = tableOf (zmH M))
    (hJ : ∀ (i hd : Nat) (r : zm_R), rows[i]? = some r → J i = some hd → ∃ rh, rows[hd]? = some rh ∧ rP rh = rP r ∧ (rN rh).1 + dc = (rN r).1 ∧ (rN rh).2 + ds = (rN r).2)
    (kret : ∀ (i : Nat) (r : zm_R) (la : zm_L) (st : List Value) (h : zm_H) (ad : Nat → Nat) (H : Heap) (locs : List Loc) (ls : Array Slot) (c0 s0 : Nat), rows[i]? = some r → zdec (zmB M) r = true → rG r = 5 → zg5 r st h = some (.inl v, h') → c0 ≤ K * dc → s0 ≤ K * ds → zext n0 ad0 ad → n0 ≤ zN h → zR D tc ad A s h H locs → zLh ad (zmL M) la ls → zokS (zN h) st → zokL (zN h) la → W p l e R s m args below meth c H locs (c0 + (rN r).1) (s0 + (rN r).2) Q (F0 m (rP r) ls (st.map (cv ad)))) :
    ∀ (n k i : Nat) (r : zm_R) (la : zm_L) (st : List Value) (h : zm_H) (ad : Nat → Nat) (H : Heap) (locs : List Loc) (ls : Array Slot), k ≤ K → rows[i]? = some r → zrunJ env scr rows J n k (i, la, st, h) = some (.inl v, h') → zext n0 ad0 ad → n0 ≤ zN h → zR D tc ad A s h H locs → zLh ad (zmL M) la ls → zokS (zN h) st → zokL (zN h) la → W p l e R s m args below meth c H locs ((K - k) * dc + (rN r).1) ((K - k) * ds + (rN r).2) Q (F0 m (rP r) ls (st.map (cv ad))) := by
  have hle : ∀ k d : Nat, (K - k) * d ≤ K * d := fun k d => Nat.mul_le_mul_right d (Nat.sub_le K k)
  intro n
  induction n with
  | zero => intro k i r la st h ad H locs ls hk hr hrun; cases hrun
  | succ n ih =>
    intro k i r la st h ad H locs ls hk hr hrun he hz hR hl hS hL
    unfold zrunJ at hrun
    cases hx : zE env scr rows (i, la, st, h) with
    | none => rw [hx] at hrun; cases hrun
    | some x =>
      rw [hx] at hrun
      have g1 := hle k dc
      have g2 := hle k ds
      refine zsim_ev (c0 := (K - k) * dc) (s0 := (K - k) * ds) (n0 := n0) (ad0 := ad0) (x := x) (scr := scr) C (by omega) (by omega) henv hE hch hwd hwx (fun q => absurd q hnl) hRO htab ?_ ?_ ?_ ?_ ?_ 4000 i r la st h ad H locs ls hr hx he hz hR hl hS hL
      · intro i2 r2 la2 st2 h2 ad2 H2 locs2 ls2 o2 hr2 hdc hg ho2 hx2 he2 hz2 hR2 hl2 hS2 hL2
        subst hx2
        cases hrun
        exact kret i2 r2 la2 st2 h2 ad2 H2 locs2 ls2 _ _ hr2 hdc hg ho2 g1 g2 he2 hz2 hR2 hl2 hS2 hL2
      · intro i2 r2 la2 st2 h2 ad2 H2 locs2 ls2 y os hr2 hdc hg e2 hst hx2
        subst hx2
        cases hrun
      · intro E h2 ad2 H2 locs2 ce q rest pc ls2 hx2
        subst hx2
        cases hrun
      · intro E h2 hx2
        subst hx2
        cases hrun
      · intro i2 r2 la2 st2 h2 ad2 H2 locs2 ls2 hr2 hx2 he2 hz2 hR2 hl2 hS2 hL2
        subst hx2
        simp only [] at hrun
        cases hj : J i2 with
        | none =>
          rw [hj] at hrun
          exact ih k i2 r2 la2 st2 h2 ad2 H2 locs2 ls2 hk hr2 hrun he2 hz2 hR2 hl2 hS2 hL2
        | some hd =>
          rw [hj] at hrun
          cases k with
          | zero => cases hrun
          | succ k =>
            obtain ⟨rh, e1, e2, e3, e4⟩ := hJ i2 hd r2 hr2 hj
            have K0 := ih k hd rh la2 st2 h2 ad2 H2 locs2 ls2 (by omega) e1 hrun he2 hz2 hR2 hl2 hS2 hL2
            have q1 : K - k = (K - (k + 1)) + 1 := by omega
            rw [e2, q1, Nat.add_mul, Nat.one_mul, Nat.add_mul, Nat.one_mul] at K0
            have q2 : (K - (k + 1)) * dc + dc + (rN rh).1 = (K - (k + 1)) * dc + (rN r2).1 := by omega
            have q3 : (K - (k + 1)) * ds + ds + (rN rh).2 = (K - (k + 1)) * ds + (rN r2).2 := by omega
            rw [q2, q3] at K0
            exact K0
end ZJ2
section ZJ3
variable {sc : Nat × (Nat → Int32)}
set_option maxHeartbeats 4000000 in
theorem zmetJ {l : Launch} (hlt : l.stackTraces = false) {M : zm_M} {env : List (zm_M × zm_S)} {envM : List zm_M} {rows : List zm_R} {own : String} {J : Nat → Option Nat} {K dc ds : Nat} (hown9 : own = (zmY M).cls) (hy : plainName (zmY M).cls = true) (hnl : (zmY M).name ≠ "draw") (hem : (zmH M).isEmpty = true) (henv : envM = env.map Prod.fst) (hE : ∀ (j : Nat) (q : zm_M × zm_S), env[j]? = some q → MetA sc l q.1 q.2)
    (hchA : ∀ (i : Nat) (r : zm_R), rows[i]? = some r → zchk own M envM rows i r = true) (hwdA : ∀ (i : Nat) (r : zm_R), rows[i]? = some r → ∀ w ∈ zwd own M envM r, w ∈ gT) (hwxA : ∀ (i : Nat) (r : zm_R), rows[i]? = some r → ∀ w ∈ zwx own M envM r, zspc w = true ∧ w ∈ lw_tbl) (h00 : (rows[0]?).map (fun r => (rP r, rN r)) = some (0, 0, 0))
    (hJ : ∀ (i hd : Nat) (r : zm_R), rows[i]? = some r → J i = some hd → ∃ rh, rows[hd]? = some rh ∧ rP rh = rP r ∧ (rN rh).1 + dc = (rN r).1 ∧ (rN rh).2 + ds = (rN r).2) : MetA sc l (zmUp M (K * dc + zmC M) (K * ds + zmS M)) (zsemJ env rows J K (zmL M)) := by
  intro D tc ad h sz av hoH hoS
  refine ⟨fun v h2 ho => ?_, fun x h2 ho => ?_⟩
  rotate_left
  · obtain ⟨⟨v9, h9, e9⟩, -⟩ := zsemJ_rn ho
    cases e9
  obtain ⟨-, hna, nr, hrun⟩ := zsemJ_rn ho
  have hW : zmWs (zmUp M (K * dc + zmC M) (K * ds + zmS M)) = Cond.code (zmY M) (zmB M) (zmL M) (zmR M) :: gT := by
    show zmW (zmUp M (K * dc + zmC M) (K * ds + zmS M)) :: gT = _
    rw [zmW_plain (M := zmUp M (K * dc + zmC M) (K * ds + zmS M)) hem]
    rfl
  refine vx_ofW (cc := zmB M) (maxL := zmL M) (ret := zmR M) (ws' := gT) hy hW (fun p e s m args below meth c s₁ B hml hno hpc => ?_)
  have htab : c.exceptionTable.toList = tableOf (zmH M) := by
    rw [List.isEmpty_iff.mp hem]
    show c.exceptionTable.toList = []
    exact List.eq_nil_iff_forall_not_mem.mpr (fun z hz => hno z hz)
  obtain ⟨rfl, hsz, hP, hK, hD0, hRO⟩ := hpc
  have htsW := atoms_spec (ws := _) B.pre
  rw [hW] at htsW
  have hts : ∀ w ∈ gT, w.before (av.map (cv ad)).toArray s = true := fun w hw => htsW w (List.mem_cons_of_mem _ hw)
  subst hsz
  obtain ⟨A, hAe⟩ : ∃ A, A = va_A (zws tc ad h) s.heap.size := ⟨_, rfl⟩
  rw [← hAe] at hRO ⊢
  have hA : ∀ q : Nat, s.heap.size ≤ q → A q := fun q hq => by rw [hAe]; exact Or.inr hq
  have hD : va_D A (zws tc ad h) := ⟨hD0.1, fun k q hq => by rw [hAe]; exact Or.inl ⟨k, q.2, hq⟩⟩
  have hR0 : zR D tc ad A s h s.heap [] := ⟨hP, hD, va_S.rf, hoH⟩
  have C : zCx p l (zmRoom (zmUp M (K * dc + zmC M) (K * ds + zmS M))) s m (av.map (cv ad)).toArray meth c own M D tc A := ⟨B.exec, B.bytes, hml, by rw [hown9]; exact findClass_of_methodNamed B.named, hts, hK, hA, Nat.le_refl _, Nat.le_refl _, B.notSynchronized, hlt, (name_of_methodNamed B.named B.method).1, B.returns⟩
  have hfin : ∀ (ad1 : Nat → Nat) (h1 : zm_H) (H : Heap) (locs : List Loc), zext (zN h) ad ad1 → zN h ≤ zN h1 → zR D tc ad1 A s h1 H locs → ∀ t : State, t.heap = H → s.vm.Alike t.vm → zPst D tc ad h s.heap.size ad1 h1 t ∧ va_F A s t := by
    intro ad1 h1 H locs he hz hR t ht hW
    exact ⟨⟨he, by rw [ht]; exact hR.1, va_K.moved hW hK, by rw [← hAe]; exact hR.2.1, hR.2.2.2, hz⟩, hR.2.2.1.F ht⟩
  have hlE := lv_entry (av.map (cv ad)) (n := zmL M) (by rw [zarg_len]; exact hna)
  rw [lg_entry_eq]
  generalize (lg_sl (av.map (cv ad)) ++ List.replicate (zmL M - (lg_sl (av.map (cv ad))).length) Slot.unset).toArray = ls at hlE ⊢
  have hl0 : zLh ad (zmL M) (zlok (zmL M) av) ls := ⟨hlE.1, hlE.2.1, zlok_len hna, fun i v hv => by
    have h1 := hlE.2.2 _ (zarg_in (ad := ad) av 0 i v (zlok_at hv))
    rw [Nat.zero_add] at h1
    exact h1⟩
  cases hr0 : rows[0]? with
  | none => rw [hr0] at h00; cases h00
  | some r0 =>
    rw [hr0] at h00
    have h01 := Option.some.inj h00
    have e1 : rP r0 = 0 := congrArg Prod.fst h01
    have e2 : rN r0 = (0, 0) := congrArg Prod.snd h01
    have K0 := zJ_main (e := e) (below := below) (Q := vx_MQ below (fun _ st oc t => (∃ (ad2 : Nat → Nat), oc = .returned (v.map (cv ad2)) ∧ zPst D tc ad h s.heap.size ad2 h2 t ∧ ∀ w, v = some w → zokV (zN h2) w) ∧ va_F A st t) (fun _ _ _ => False) (av.map (cv ad)).toArray s (K * dc + zmC M) (K * ds + zmS M) A) (scr := (0, fun _ => 0)) (n0 := zN h) (ad0 := ad) (K := K) C (Nat.le_refl _) (Nat.le_refl _) henv hE hchA hwdA hwxA hnl hRO htab hJ (fun i r la st h1 ad1 H locs ls c0 s0 hr hdc hg ho2 g1 g2 he hz hR hl hS hL => by
      have hvh : h1 = h2 := by
        unfold zg5 at ho2
        split at ho2 <;> (try split at ho2) <;> first | (cases ho2; rfl) | (cases ho2) | (obtain ⟨-, ho2⟩ := zgd_some ho2; cases ho2; rfl)
      subst hvh
      have hc := hchA i r hr
      have hcc : (rN r).1 ≤ zmC M ∧ (rN r).2 ≤ zmS M := by
        unfold zchk at hc
        rw [hg] at hc
        simp only [hdc, Bool.true_and, Bool.and_eq_true, decide_eq_true_eq] at hc
        exact hc.1
      refine zs5G C hdc hR hl hS hL ho2 hc hg (by omega) (by omega) (fun v2 hv2 hok t ht hW => ?_) hR.2.2.1.2.2
      cases hv2
      obtain ⟨f1, f2⟩ := hfin ad1 h1 H locs he hz hR t ht hW.alike
      exact ⟨⟨ad1, rfl, f1, hok⟩, f2⟩) nr K 0 r0 (zlok (zmL M) av) [] h ad s.heap [] ls (Nat.le_refl _) hr0 hrun zext.rf (Nat.le_refl _) hR0 hl0 zokS_nil (zlok_ok hoS)
    rw [e1, e2, Nat.sub_self, Nat.zero_mul, Nat.zero_mul] at K0
    exact K0
end ZJ3
