/-! THE LAW WALKED: from its entry to its end. -/
section ZWK
variable {p : Program} {l : Launch} {e : Env} {s : State} {m : MethodId} {below : List Frame} {meth : Method} {c : Code} {b : Addr}
def zk_h0 : zm_H := (0, fun _ => (77, 0), fun _ _ => 0, fun _ _ => 0, fun _ _ => none, fun _ _ => 0)
theorem zk_E {sc : Nat × (Nat → Int32)} (hlt : l.stackTraces = false) : ∀ (j : Nat) (q : zm_M × zm_S), (vL_law sc)[j]? = some q → MetA sc l q.1 q.2 := fun j q hq => by
  match j, hq with
  | 0, hq => cases hq; exact tX5_init hlt
  | 1, hq => cases hq; exact tL_load hlt
  | 2, hq => cases hq; exact tL_stands hlt
  | 3, hq => cases hq; exact tL_sums hlt
  | 4, hq => cases hq; exact tL_act hlt
  | 5, hq => cases hq; exact tX5_completions hlt
  | 6, hq => cases hq; exact tX5_complete hlt
  | 7, hq => cases hq; exact tX5_property hlt
  | 8, hq => cases hq; exact tX5_rank hlt
  | 9, hq => cases hq; exact tX5_undo hlt
  | n + 10, hq => cases hq
set_option maxRecDepth 100000 in
theorem zk_J : ∀ (i hd : Nat) (r : zm_R), rL_law[i]? = some r → jL_law i = some hd → ∃ rh, rL_law[hd]? = some rh ∧ rP rh = rP r ∧ (rN rh).1 + 1 = (rN r).1 ∧ (rN rh).2 + 6 = (rN r).2 := by
  intro i hd r hr hj
  unfold jL_law at hj
  split at hj
  · rename_i q; subst q; cases hj; cases hr; exact ⟨_, rfl, rfl, rfl, rfl⟩
  cases hj
theorem zk_C : ∀ (i : Nat) (r : zm_R), rL_law[i]? = some r → zchk RL mL_law eL_law rL_law i r = true := zall_at aL_law
theorem zk_5 {r : zm_R} {st : List Value} {h h2 : zm_H} (ho : zg5 r st h = some (.inl (some (.int 1)), h2)) : rI r = .ireturn ∧ st = [.int 1] := by
  unfold zg5 at ho
  split at ho
  · rename_i q1 q2
    split at ho
    · cases ho
      exact ⟨q1, rfl⟩
    · cases ho
  · rename_i q1 q2
    split at ho
    · obtain ⟨-, ho⟩ := zgd_some ho
      cases ho
      exact ⟨q1, rfl⟩
    · cases ho
  · rename_i q1 q2
    split at ho
    · obtain ⟨-, ho⟩ := zgd_some ho
      cases ho
      exact ⟨q1, rfl⟩
    · cases ho
  · rename_i q1 q2
    split at ho
    · obtain ⟨-, ho⟩ := zgd_some ho
      cases ho
      exact ⟨q1, rfl⟩
    · cases ho
  all_goals first
    | (exfalso; split at ho <;> cases ho)
    | (exfalso; cases ho)
set_option maxHeartbeats 4000000 in
theorem whole_start (l : Launch) (hflags : l.flags = flags0) {b L : Nat} {xs : Nat → Int32} (hL : L ≤ 260) (C0 : lw_At p s m meth c b L xs) (hno : ∀ z ∈ c.exceptionTable.toList, False) (hnm : meth.name = "law") : W p l e room_1 s m #[Value.ref b] below meth c s.heap [] 0 0 (lw_Z below #[Value.ref b] s) (entryFrame m ([Value.ref b] : List Value).toArray 6) := by
  obtain ⟨hx, hb, hr, hml, hown, hts, hX, hbl, hlocks, hgv⟩ := C0
  have hlt : l.stackTraces = false := by unfold Launch.stackTraces; rw [hflags]; decide +kernel
  obtain ⟨D, tc, hK⟩ := zw_K hts
  obtain ⟨ad, had, hRO⟩ := zw_RO (sc := (L, xs)) hts (flat_of_before _ hgv) b hbl (by show L < 2 ^ 31; omega) hX
  have C : zCx p l room_1 s m #[Value.ref b] meth c RL mL_law D tc (fun q : Nat => s.heap.size ≤ q) := ⟨hx, hb, hml, hown, fun w hw => zw_tb hts w (List.mem_filter.mp hw).1, hK, fun q hq => hq, Nat.le_of_ble_eq_true rfl, Nat.le_of_ble_eq_true rfl, hlocks, hlt, hnm, hr⟩
  have htab : c.exceptionTable.toList = tableOf (zmH mL_law) := List.eq_nil_iff_forall_not_mem.mpr (fun z hz => hno z hz)
  have hR0 : zR D tc ad (fun q : Nat => s.heap.size ≤ q) s zk_h0 s.heap [] := ⟨by rw [show zws tc ad zk_h0 = [] from rfl]; exact (fun k q h => by simp at h), by rw [show zws tc ad zk_h0 = [] from rfl]; exact ⟨(fun i j p q h => by simp at h), (fun k q h => by simp at h)⟩, va_S.rf, ⟨(fun a i k h => by cases h), Nat.zero_le _, fun a h => rfl⟩⟩
  have hl := lv_entry ([.ref b]) (n := 6) (Nat.le_of_ble_eq_true rfl)
  rw [lg_entry_eq]
  generalize (lg_sl ([.ref b]) ++ List.replicate (6 - (lg_sl ([.ref b])).length) Slot.unset).toArray = ls at hl ⊢
  have hl : lv_has ls 6 [(0, .ref b)] := hl
  have hl0 : zLh ad (zmL mL_law) [some (.ref 2000000), none, none, none, none, none] ls := by
    refine ⟨hl.1, hl.2.1, rfl, fun i v hv => ?_⟩
    match i, hv with
    | 0, hv =>
      cases hv
      show ls[0]? = some (Slot.val (.ref (ad 2000000)))
      rw [had]
      exact lv_at hl 0 rfl
    | 1, hv => cases hv
    | 2, hv => cases hv
    | 3, hv => cases hv
    | 4, hv => cases hv
    | 5, hv => cases hv
    | i + 6, hv => cases hv
  obtain ⟨o, ⟨n, hrun⟩, h', rfl⟩ := w_law (sc := (L, xs)) (h := zk_h0) (by show L < 2 ^ 31; omega) rfl
  have zc : zmC mL_law = 319 := rfl
  have zs : zmS mL_law = 256895 := rfl
  have rc : room_1.cells = 600086 := rfl
  have rs : room_1.slots = 7301442 := rfl
  have K0 := zJ_main (sc := (L, xs)) (below := below) (e := e) (Q := lw_Z below #[Value.ref b] s) (env := vL_law (L, xs)) (envM := eL_law) (rows := rL_law) (scr := zsc0) (n0 := 0) (ad0 := ad) (v := some (.int 1)) (h' := h') (J := jL_law) (K := 36) (dc := 1) (ds := 6) C (by rw [zc, rc]; omega) (by rw [zs, rs]; omega) rfl (zk_E hlt) zk_C
    (fun i r hr w hw => wL_law w (List.mem_flatMap.mpr ⟨r, List.mem_of_getElem? hr, hw⟩)) (fun i r hr w hw => xL_law w (List.mem_flatMap.mpr ⟨r, List.mem_of_getElem? hr, hw⟩))
    (by decide +kernel) hRO htab zk_J
    (fun i r la st h ad H locs ls c0 s0 hr2 hdc hg ho hc0 hs0 he hz hR hl hS hL => by
      have hc := zk_C i r hr2
      unfold zchk at hc
      rw [hg] at hc
      simp only [hdc, Bool.true_and, Bool.and_eq_true, decide_eq_true_eq] at hc
      obtain ⟨⟨hc1, hc2⟩, -⟩ := hc
      obtain ⟨q1, rfl⟩ := zk_5 ho
      have hd := zdec_ok hdc (fun d lo hi q e9 => by rw [q1] at e9; cases e9)
      rw [q1] at hd
      refine va_forget (fun q hq => hR.2.2.1.2.2 q hq) ?_
      refine W.widen (k := 600086) (n := 7301442) (by omega) (by omega) ?_
      exact lw_ret hx hb hr hlocks hd)
    n 36 0 _ [some (.ref 2000000), none, none, none, none, none] [] zk_h0 ad s.heap [] ls (Nat.le_refl _) rfl hrun zext.rf (Nat.zero_le _) hR0 hl0 zokS_nil (fun v hv => by
      simp only [List.mem_cons, Option.some.injEq, reduceCtorEq, List.not_mem_nil, or_false] at hv
      subst hv
      exact Or.inr (Nat.le_of_ble_eq_true rfl))
  exact K0
end ZWK
