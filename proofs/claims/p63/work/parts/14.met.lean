/-! A METHOD'S CONTRACT OUT OF ITS ROWS. -/
section ZME
variable {sc : Nat × (Nat → Int32)}
theorem zarg_in {ad : Nat → Nat} : ∀ (av : List Value) (b j : Nat) (v : Value), (zarg av)[j]? = some (some v) → (b + j, cv ad v) ∈ lv_args b (av.map (cv ad)) := by
  intro av
  induction av with
  | nil => intro b j v h; simp [zarg] at h
  | cons a av ih =>
    intro b j v h
    show (b + j, cv ad v) ∈ (b, cv ad a) :: lv_args (if (cv ad a).category = 2 then b + 2 else b + 1) (av.map (cv ad))
    rw [cv_cat]
    unfold zarg at h
    split at h
    · rename_i hc
      rw [if_pos hc]
      match j, h with
      | 0, h => cases h; exact List.mem_cons_self
      | 1, h => cases h
      | j + 2, h =>
        have := ih (b + 2) j v h
        rw [show b + 2 + j = b + (j + 2) by omega] at this
        exact List.mem_cons_of_mem _ this
    · rename_i hc
      rw [if_neg hc]
      match j, h with
      | 0, h => cases h; exact List.mem_cons_self
      | j + 1, h =>
        have := ih (b + 1) j v h
        rw [show b + 1 + j = b + (j + 1) by omega] at this
        exact List.mem_cons_of_mem _ this
theorem zarg_len {ad : Nat → Nat} : ∀ (av : List Value), (lg_sl (av.map (cv ad))).length = (zarg av).length := by
  intro av
  induction av with
  | nil => rfl
  | cons a av ih =>
    have h1 : lg_sl ((a :: av).map (cv ad)) = (if (cv ad a).category = 2 then [Slot.val (cv ad a), .second] else [Slot.val (cv ad a)]) ++ lg_sl (av.map (cv ad)) := rfl
    have h2 : zarg (a :: av) = (if a.category = 2 then some a :: none :: zarg av else some a :: zarg av) := rfl
    rw [h1, h2, List.length_append, ih, cv_cat]
    split <;> simp <;> omega
theorem zlok_len {n : Nat} {av : List Value} (h : (zarg av).length ≤ n) : (zlok n av).length = n := by simp [zlok]; omega
theorem zlok_at {n j : Nat} {av : List Value} {v : Value} (h : (zlok n av)[j]? = some (some v)) : (zarg av)[j]? = some (some v) := by
  unfold zlok at h
  by_cases hj : j < (zarg av).length
  · rwa [List.getElem?_append_left hj] at h
  · rw [List.getElem?_append_right (by omega)] at h
    obtain ⟨h1, h2⟩ := List.getElem?_eq_some_iff.mp h
    rw [List.getElem_replicate] at h2
    cases h2
theorem zarg_ok {n : Nat} : ∀ {av : List Value}, zokS n av → ∀ v, some v ∈ zarg av → zokV n v := by
  intro av
  induction av with
  | nil => intro _ v h; simp [zarg] at h
  | cons a av ih =>
    intro ha v h
    have h2 := (zokS_cons.mp ha)
    unfold zarg at h
    split at h
    · simp only [List.mem_cons, Option.some.injEq, reduceCtorEq, false_or] at h
      rcases h with rfl | h
      · exact h2.1
      · exact ih h2.2 v h
    · simp only [List.mem_cons, Option.some.injEq] at h
      rcases h with rfl | h
      · exact h2.1
      · exact ih h2.2 v h
theorem zlok_ok {n k : Nat} {av : List Value} (h : zokS n av) : zokL n (zlok k av) := by
  intro v hv
  unfold zlok at hv
  rcases List.mem_append.mp hv with q | q
  · exact zarg_ok h v q
  · exact absurd (List.eq_of_mem_replicate q) (by simp)
/-- what is checked of a method, all in one -/
def zall (own : String) (M : zm_M) (envM : List zm_M) (rows : List zm_R) : Bool := decide (zmC M ≤ zmTc M) && decide (zmS M ≤ zmTs M) && (List.range rows.length).all (fun i => match rows[i]? with | some r => zchk own M envM rows i r | none => true)
def zwds (own : String) (M : zm_M) (envM : List zm_M) (rows : List zm_R) : List Cond := rows.flatMap (zwd own M envM)
def zwxs (own : String) (M : zm_M) (envM : List zm_M) (rows : List zm_R) : List Cond := rows.flatMap (zwx own M envM)
theorem zall_at {own : String} {M : zm_M} {envM : List zm_M} {rows : List zm_R} (h : zall own M envM rows = true) : ∀ (i : Nat) (r : zm_R), rows[i]? = some r → zchk own M envM rows i r = true := by
  intro i r hr
  unfold zall at h
  simp only [Bool.and_eq_true] at h
  have h1 := List.all_eq_true.mp h.2 i (List.mem_range.mpr (List.getElem?_eq_some_iff.mp hr).1)
  rw [hr] at h1
  exact h1
theorem zall_T {own : String} {M : zm_M} {envM : List zm_M} {rows : List zm_R} (h : zall own M envM rows = true) : zmC M ≤ zmTc M ∧ zmS M ≤ zmTs M := by
  unfold zall at h
  simp only [Bool.and_eq_true, decide_eq_true_eq] at h
  exact h.1
set_option maxHeartbeats 4000000 in
theorem zbody {l : Launch} (hlt : l.stackTraces = false) {M : zm_M} {env : List (zm_M × zm_S)} {envM : List zm_M} {rows : List zm_R} {own : String} {scr : Nat × (Nat → Int32)} (hown9 : own = (zmY M).cls) (hnl : (zmY M).name = "draw" → scr = sc) (henv : envM = env.map Prod.fst) (hE : ∀ (j : Nat) (q : zm_M × zm_S), env[j]? = some q → MetA sc l q.1 q.2)
    (hch : zall own M envM rows = true) (hwd : ∀ w ∈ zwds own M envM rows, w ∈ gT) (hwx : ∀ w ∈ zwxs own M envM rows, zspc w = true ∧ w ∈ lw_tbl) (h00 : (rows[0]?).map (fun r => (rP r, rN r)) = some (0, 0, 0))
    {D : va_G} {tc : Nat → ClassId} {ad : Nat → Nat} {h : zm_H} {sz : Nat} {av : List Value} (hoH : zokH h) (hoS : zokS (zN h) av) {o : zm_O} (ho : zsem2 scr env rows (zmL M) av h = some o)
    {rm : Room} {mc ms : Nat} {Qc : Array Value → State → Outcome → State → Prop} {XC : String → State → State → Prop} (hrm : rm.frames = (zmRoom M).frames ∧ rm.locals = (zmRoom M).locals ∧ zmC M ≤ rm.cells ∧ zmS M ≤ rm.slots)
    (hQ : ∀ v h2, o = (.inl v, h2) → mc = zmC M ∧ ms = zmS M ∧ ∀ (ar : Array Value) (st9 : State) (ad2 : Nat → Nat) (t : State), zPst D tc ad h sz ad2 h2 t → (∀ w, v = some w → zokV (zN h2) w) → va_F (va_A (zws tc ad h) sz) st9 t → Qc ar st9 (.returned (v.map (cv ad2))) t)
    (hX : ∀ y h2, o = (.inr y, h2) → mc = zmTc M ∧ ms = zmTs M ∧ rm.cells = zmTc M ∧ rm.slots = zmTs M ∧ ∀ (st9 : State) (ad2 : Nat → Nat) (t : State), zPst D tc ad h sz ad2 h2 t → va_F (va_A (zws tc ad h) sz) st9 t → XC (zex y) st9 t) :
    ∀ p e s m args below meth c s₁, BodyLoose p l (zmY M) (headSpec (zmWs M) rm) (zmB M) (zmL M) (zmR M) e s m args below meth c s₁ → c.maxLocals = zmL M → c.exceptionTable.toList = tableOf (zmH M) → va_Pc (av.map (cv ad)) (zPre sc D tc ad h sz) args s →
      W p l e (headSpec (zmWs M) rm).room s m args below meth c s.heap [] 0 0 (vx_MQ below Qc XC args s mc ms (va_A (zws tc ad h) sz)) (entryFrame m args (zmL M)) := by
  obtain ⟨hna, nr, hrun⟩ := zsem2_rn ho
  have hchA := zall_at hch
  have hwdA : ∀ (i : Nat) (r : zm_R), rows[i]? = some r → ∀ w ∈ zwd own M envM r, w ∈ gT := fun i r hr w hw => hwd w (List.mem_flatMap.mpr ⟨r, List.mem_of_getElem? hr, hw⟩)
  have hwxA : ∀ (i : Nat) (r : zm_R), rows[i]? = some r → ∀ w ∈ zwx own M envM r, zspc w = true ∧ w ∈ lw_tbl := fun i r hr w hw => hwx w (List.mem_flatMap.mpr ⟨r, List.mem_of_getElem? hr, hw⟩)
  intro p e s m args below meth c s₁ B hml htab hpc
  obtain ⟨rfl, hsz, hP, hK, hD0, hRO⟩ := hpc
  have htsW : ∀ w ∈ zmWs M, w.before (av.map (cv ad)).toArray s = true := atoms_spec (ws := zmWs M) B.pre
  have hts : ∀ w ∈ gT, w.before (av.map (cv ad)).toArray s = true := fun w hw => htsW w (List.mem_cons_of_mem _ hw)
  subst hsz
  obtain ⟨A, hAe⟩ : ∃ A, A = va_A (zws tc ad h) s.heap.size := ⟨_, rfl⟩
  rw [← hAe] at hRO ⊢
  rw [← hAe] at hQ hX
  have hA : ∀ q : Nat, s.heap.size ≤ q → A q := fun q hq => by rw [hAe]; exact Or.inr hq
  have hD : va_D A (zws tc ad h) := ⟨hD0.1, fun k q hq => by rw [hAe]; exact Or.inl ⟨k, q.2, hq⟩⟩
  have hR0 : zR D tc ad A s h s.heap [] := ⟨hP, hD, va_S.rf, hoH⟩
  have C : zCx p l rm s m (av.map (cv ad)).toArray meth c own M D tc A := ⟨B.exec, B.bytes, hml, by rw [hown9]; exact findClass_of_methodNamed B.named, hts, hK, hA, by rw [hrm.1]; exact Nat.le_refl _, by rw [hrm.2.1]; exact Nat.le_refl _, B.notSynchronized, hlt, (name_of_methodNamed B.named B.method).1, B.returns⟩
  have hfin : ∀ (ad1 : Nat → Nat) (h1 : zm_H) (H : Heap) (locs : List Loc), zext (zN h) ad ad1 → zN h ≤ zN h1 → zR D tc ad1 A s h1 H locs → ∀ t : State, t.heap = H → s.vm.Alike t.vm → zPst D tc ad h s.heap.size ad1 h1 t ∧ va_F A s t := by
    intro ad1 h1 H locs he hz hR t ht hW
    exact ⟨⟨he, by rw [ht]; exact hR.1, va_K.moved hW hK, by rw [← hAe]; exact hR.2.1, hR.2.2.2, hz⟩, hR.2.2.1.F ht⟩
  have main : ∀ (n i : Nat) (r : zm_R) (la : zm_L) (st : List Value) (h1 : zm_H) (ad1 : Nat → Nat) (H : Heap) (locs : List Loc) (ls : Array Slot), rows[i]? = some r → zrun env scr rows n (i, la, st, h1) = some o → zext (zN h) ad ad1 → zN h ≤ zN h1 → zR D tc ad1 A s h1 H locs → zLh ad1 (zmL M) la ls → zokS (zN h1) st → zokL (zN h1) la →
      W p l e rm s m (av.map (cv ad)).toArray below meth c H locs (0 + (rN r).1) (0 + (rN r).2) (vx_MQ below Qc XC (av.map (cv ad)).toArray s mc ms A) (F0 m (rP r) ls (st.map (cv ad1))) := by
    intro n
    induction n with
    | zero => intro i r la st h1 ad1 H locs ls hr hrun; cases hrun
    | succ n ih =>
      intro i r la st h1 ad1 H locs ls hr hrun he hz hR hl hS hL
      unfold zrun at hrun
      cases hx : zE env scr rows (i, la, st, h1) with
      | none => rw [hx] at hrun; cases hrun
      | some x =>
        rw [hx] at hrun
        refine zsim_ev (c0 := 0) (s0 := 0) (n0 := zN h) (ad0 := ad) (x := x) C (by rw [Nat.zero_add]; exact hrm.2.2.1) (by rw [Nat.zero_add]; exact hrm.2.2.2) henv hE hchA hwdA hwxA hnl hRO htab ?_ ?_ ?_ ?_ ?_ 4000 i r la st h1 ad1 H locs ls hr hx he hz hR hl hS hL
        · intro i r la st h1 ad1 H locs ls o2 hr hdc hg ho2 hx2 he hz hR hl hS hL
          subst hx2
          cases hrun
          have ho2' := ho2
          have hoin : ∃ v, o = (.inl v, h1) := by
            unfold zg5 at ho2'
            split at ho2' <;> (try split at ho2') <;> first | (cases ho2'; exact ⟨_, rfl⟩) | (cases ho2') | (obtain ⟨-, ho2'⟩ := zgd_some ho2'; cases ho2'; exact ⟨_, rfl⟩)
          obtain ⟨v, hv⟩ := hoin
          obtain ⟨rfl, rfl, hq⟩ := hQ v h1 hv
          refine zs5 C hdc hR hl hS hL ho2 (hchA i r hr) hg (by omega) (by omega) (fun v2 hv2 hok t ht hW => ?_) hR.2.2.1.2.2
          rw [hv] at hv2
          cases hv2
          obtain ⟨f1, f2⟩ := hfin ad1 h1 H locs he hz hR t ht hW.alike
          exact hq _ s ad1 t f1 hok f2
        · intro i r la st h1 ad1 H locs ls y os hr hdc hg e2 hst hx2 he hz hR hl hS hL
          subst hx2
          cases hrun
          have hchr := hchA i r hr
          have hem : (zmH M).isEmpty = true := by
            unfold zchk at hchr
            rw [hg, e2] at hchr
            simp only [hdc, Bool.true_and] at hchr
            split at hchr
            · simp only [Bool.and_eq_true] at hchr
              exact hchr.1.1.1.1.1.1.2
            · cases hchr
          obtain ⟨rfl, rfl, g1, g2, hq⟩ := hX y h1 rfl
          refine zs7 C hdc hR hl hS hL (zRO_ad he hRO) (hwdA i r hr) (fun w hw => (zRO_ad he hRO).1 w (hwxA i r hr w hw).2 (hwxA i r hr w hw).1) (fun z hz9 => by rw [htab, List.isEmpty_iff.mp hem] at hz9; cases hz9) hchr hg e2 hst (by rw [Nat.zero_add]; exact Nat.le_of_eq g1.symm) (by rw [Nat.zero_add]; exact Nat.le_of_eq g2.symm) rfl rfl (fun t hW h8 h9 => ?_) hR.2.2.1.2.2
          have hP9 : va_P D vwCl (zws tc ad1 h1) t.heap := hR.1.kept (fun k q hq => h9 q.1 ((hR.1 k q hq).lt))
          exact hq s ad1 t ⟨he, hP9, va_K.moved hW hK, by rw [← hAe]; exact hR.2.1, hR.2.2.2, hz⟩ ⟨Nat.le_trans hR.2.2.1.1 h8, fun q h3 h4 => (h9 q (Nat.lt_of_lt_of_le h3 hR.2.2.1.1)).trans (hR.2.2.1.2.1 q h3 h4)⟩
        · intro E h2 ad2 H2 locs2 ce q rest pc ls hx2 hem he hz hR q1 q2 q3
          subst hx2
          cases hrun
          obtain ⟨rfl, rfl, g1, g2, hq⟩ := hX E h2 rfl
          refine vx_out (fun z hz9 => by rw [htab, List.isEmpty_iff.mp hem] at hz9; cases hz9) C.2.2.2.2.2.2.2.2.2.1 q1 q2 q3 (fun t ht hW => ?_) hR.2.2.1.2.2 (by omega) (by omega)
          obtain ⟨f1, f2⟩ := hfin ad2 h2 H2 locs2 he hz hR t ht hW
          exact hq s ad2 t f1 f2
        · intro E h2 hx2
          subst hx2
          cases hrun
          obtain ⟨-, -, g1, g2, -⟩ := hX E h2 rfl
          omega
        · intro i r la st h1 ad1 H locs ls hr hx2 he hz hR hl hS hL
          subst hx2
          exact ih i r la st h1 ad1 H locs ls hr hrun he hz hR hl hS hL
  have hlE := lv_entry (av.map (cv ad)) (n := zmL M) (by rw [zarg_len]; exact hna)
  rw [lg_entry_eq]
  generalize (lg_sl (av.map (cv ad)) ++ List.replicate (zmL M - (lg_sl (av.map (cv ad))).length) Slot.unset).toArray = ls at hlE ⊢
  have hl0 : zLh ad (zmL M) (zlok (zmL M) av) ls := ⟨hlE.1, hlE.2.1, zlok_len hna, fun i v hv => by
    have h1 := hlE.2.2 _ (zarg_in (ad := ad) av 0 i v (zlok_at hv))
    rw [Nat.zero_add] at h1
    exact h1⟩
  cases hr0 : rows[0]? with
  | none => rw [hr0] at h00; cases h00
  | some r0 =>
    rw [hr0] at h00
    have h01 := Option.some.inj h00
    have e1 : rP r0 = 0 := congrArg Prod.fst h01
    have e2 : rN r0 = (0, 0) := congrArg Prod.snd h01
    have K := main nr 0 r0 (zlok (zmL M) av) [] h ad s.heap [] ls hr0 hrun zext.rf (Nat.le_refl _) hR0 hl0 zokS_nil (zlok_ok hoS)
    rw [e1, e2] at K
    exact K
theorem zmet2 {l : Launch} (hlt : l.stackTraces = false) {M : zm_M} {env : List (zm_M × zm_S)} {envM : List zm_M} {rows : List zm_R} {own : String} (hown9 : own = (zmY M).cls) (hy : plainName (zmY M).cls = true) {scr : Nat × (Nat → Int32)} (hnl : (zmY M).name = "draw" → scr = sc) (henv : envM = env.map Prod.fst) (hE : ∀ (j : Nat) (q : zm_M × zm_S), env[j]? = some q → MetA sc l q.1 q.2)
    (hch : zall own M envM rows = true) (hwd : ∀ w ∈ zwds own M envM rows, w ∈ gT) (hwx : ∀ w ∈ zwxs own M envM rows, zspc w = true ∧ w ∈ lw_tbl) (h00 : (rows[0]?).map (fun r => (rP r, rN r)) = some (0, 0, 0)) : MetA sc l M (zsem2 scr env rows (zmL M)) := by
  intro D tc ad h sz av hoH hoS
  have close : ∀ {rm : Room} {mc ms : Nat} {Qc : Array Value → State → Outcome → State → Prop} {XC : String → State → State → Prop}, (∀ p e s m args below meth c s₁, BodyLoose p l (zmY M) (headSpec (zmWs M) rm) (zmB M) (zmL M) (zmR M) e s m args below meth c s₁ → c.maxLocals = zmL M → c.exceptionTable.toList = tableOf (zmH M) → va_Pc (av.map (cv ad)) (zPre sc D tc ad h sz) args s →
      W p l e (headSpec (zmWs M) rm).room s m args below meth c s.heap [] 0 0 (vx_MQ below Qc XC args s mc ms (va_A (zws tc ad h) sz)) (entryFrame m args (zmL M))) → vx_Met l (zmY M) (zmWs M) rm (va_Pc (av.map (cv ad)) (zPre sc D tc ad h sz)) Qc XC mc ms (va_A (zws tc ad h) sz) := by
    intro rm mc ms Qc XC body
    by_cases hem : (zmH M).isEmpty = true
    · have hW : zmWs M = Cond.code (zmY M) (zmB M) (zmL M) (zmR M) :: gT := by unfold zmWs; rw [zmW_plain hem]
      refine vx_ofW hy hW (fun p e s m args below meth c s₁ B hml hno hpc => body p e s m args below meth c s₁ B hml ?_ hpc)
      rw [List.isEmpty_iff.mp hem]
      show c.exceptionTable.toList = []
      exact List.eq_nil_iff_forall_not_mem.mpr (fun z hz => hno z hz)
    · have hW : zmWs M = Cond.codeWith (zmY M) (zmB M) (zmL M) (zmR M) (zmH M) :: gT := by unfold zmWs; rw [zmW_hand hem]
      exact vx_ofWH hy hW (fun p e s m args below meth c s₁ B hml hpc => body p e s m args below meth c s₁ B hml (vx_table (x := zmY M) B (atoms_spec (ws := zmWs M) B.pre _ (by rw [hW]; exact List.mem_cons_self))) hpc)
  refine ⟨fun v h2 ho => close ?_, fun x h2 ho => close ?_⟩
  · refine zbody hlt hown9 hnl henv hE hch hwd hwx h00 hoH hoS ho ⟨rfl, rfl, Nat.le_refl _, Nat.le_refl _⟩ (fun v2 h3 e => ?_) (fun y h3 e => by cases e)
    cases e
    exact ⟨rfl, rfl, fun ar st9 ad2 t f1 f2 f3 => ⟨⟨ad2, rfl, f1, f2⟩, f3⟩⟩
  · refine zbody hlt hown9 hnl henv hE hch hwd hwx h00 hoH hoS ho ⟨rfl, rfl, (zall_T hch).1, (zall_T hch).2⟩ (fun v2 h3 e => by cases e) (fun y h3 e => ?_)
    cases e
    exact ⟨rfl, rfl, rfl, rfl, fun st9 ad2 t f1 f3 => ⟨⟨ad2, rfl, f1⟩, f3⟩⟩
theorem zmet {l : Launch} (hlt : l.stackTraces = false) {M : zm_M} {env : List (zm_M × zm_S)} {envM : List zm_M} {rows : List zm_R} {own : String} (hown9 : own = (zmY M).cls) (hy : plainName (zmY M).cls = true) (hnl : (zmY M).name ≠ "draw") (henv : envM = env.map Prod.fst) (hE : ∀ (j : Nat) (q : zm_M × zm_S), env[j]? = some q → MetA sc l q.1 q.2)
    (hch : zall own M envM rows = true) (hwd : ∀ w ∈ zwds own M envM rows, w ∈ gT) (hwx : ∀ w ∈ zwxs own M envM rows, zspc w = true ∧ w ∈ lw_tbl) (h00 : (rows[0]?).map (fun r => (rP r, rN r)) = some (0, 0, 0)) : MetA sc l M (zsem env rows (zmL M)) := zmet2 hlt hown9 hy (fun q => absurd q hnl) henv hE hch hwd hwx h00
-- words by their places
theorem z7_no {own : String} {M : zm_M} {envM : List zm_M} {rows : List zm_R} (h : rows.all (fun r => rG r != 7) = true) : ∀ r ∈ rows, rG r = 7 → ∀ w ∈ zwd own M envM r, w ∈ gT := fun r hr hg => by
  have := List.all_eq_true.mp h r hr
  rw [hg] at this
  cases this
theorem z7_of {own : String} {M : zm_M} {envM : List zm_M} {rows L : List zm_R} (hL : rows.filter (fun r => rG r == 7) = L) (h : ∀ r ∈ L, ∀ w ∈ zwd own M envM r, w ∈ gT) : ∀ r ∈ rows, rG r = 7 → ∀ w ∈ zwd own M envM r, w ∈ gT := fun r hr hg => h r (by rw [← hL]; exact List.mem_filter.mpr ⟨hr, by rw [hg]; rfl⟩)
theorem zwd_of {own : String} {M : zm_M} {envM : List zm_M} {rows : List zm_R} (ps : List Nat) (hp : (rows.filter (fun r => rG r != 7)).flatMap (zwd own M envM) = ps.filterMap (fun i => zw_tbl[i]?)) (hg : ((rows.filter (fun r => rG r != 7)).flatMap (zwd own M envM)).all goodWord = true) (h7 : ∀ r ∈ rows, rG r = 7 → ∀ w ∈ zwd own M envM r, w ∈ gT) : ∀ w ∈ zwds own M envM rows, w ∈ gT := by
  intro w hw
  obtain ⟨r, hr, hw⟩ := List.mem_flatMap.mp hw
  by_cases h9 : rG r = 7
  · exact h7 r hr h9 w hw
  · have h1 : w ∈ (rows.filter (fun r => rG r != 7)).flatMap (zwd own M envM) := List.mem_flatMap.mpr ⟨r, List.mem_filter.mpr ⟨hr, by simpa using h9⟩, hw⟩
    have h2 := List.all_eq_true.mp hg w h1
    rw [hp] at h1
    obtain ⟨i, -, hi⟩ := List.mem_filterMap.mp h1
    exact gT_in (List.mem_of_getElem? hi) h2
theorem zw7 {own : String} {M : zm_M} {envM : List zm_M} {r : zm_R} {x ik ic : Nat} (hr : zwd own M envM r = .classLink own ik (zex x) :: .initialized (zex x) :: (zat own ic x).filter goodWord) (h1 : Cond.classLink own ik (zex x) ∈ gT) (h2 : Cond.initialized (zex x) ∈ gT) (h3 : ∀ w ∈ (zat own ic x).filter goodWord, w ∈ gT) : ∀ w ∈ zwd own M envM r, w ∈ gT := by
  intro w hw
  rw [hr] at hw
  rcases List.mem_cons.mp hw with rfl | hw
  · exact h1
  · rcases List.mem_cons.mp hw with rfl | hw
    · exact h2
    · exact h3 w hw
end ZME
