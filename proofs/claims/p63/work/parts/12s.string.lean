/-! A TEST OF A TEXT'S INDEX: its method carries a static that nobody looks at. -/
section ZST
theorem dQa_0 : decode cJ3_checkIndex_8e157 0 = .ok (.iload_n 0, 1) := by decide +kernel
theorem dQa_1 : decode cJ3_checkIndex_8e157 1 = .ok (.ifCond .lt 8, 3) := by decide +kernel
theorem dQa_4 : decode cJ3_checkIndex_8e157 4 = .ok (.iload_n 0, 1) := by decide +kernel
theorem dQa_5 : decode cJ3_checkIndex_8e157 5 = .ok (.iload_n 1, 1) := by decide +kernel
theorem dQa_6 : decode cJ3_checkIndex_8e157 6 = .ok (.if_icmp .lt 10, 3) := by decide +kernel
theorem dQa_16 : decode cJ3_checkIndex_8e157 16 = .ok (.iload_n 0, 1) := by decide +kernel
theorem dQa_17 : decode cJ3_checkIndex_8e157 17 = .ok (.ireturn, 1) := by decide +kernel
theorem dQb_0 : decode cJ0_checkIndex_df160 0 = .ok (.iload_n 0, 1) := by decide +kernel
theorem dQb_1 : decode cJ0_checkIndex_df160 1 = .ok (.iload_n 1, 1) := by decide +kernel
theorem dQb_2 : decode cJ0_checkIndex_df160 2 = .ok (.getstatic 1053, 3) := by decide +kernel
theorem dQb_5 : decode cJ0_checkIndex_df160 5 = .ok (.invokestatic 1059, 3) := by decide +kernel
theorem dQb_8 : decode cJ0_checkIndex_df160 8 = .ok (.pop, 1) := by decide +kernel
theorem dQb_9 : decode cJ0_checkIndex_df160 9 = .ok (.return_, 1) := by decide +kernel
def zq_ws : List Cond := [.fieldLink RJ0 1053 "jdk/internal/util/Preconditions" "SIOOBE_FORMATTER" "Ljava/util/function/BiFunction;", .methodLink RJ0 1059 yJ3_checkIndex_8e157, .static yJ3_checkIndex_8e157, .initialized "jdk/internal/util/Preconditions", .code yJ3_checkIndex_8e157 cJ3_checkIndex_8e157 3 (some .int)]
set_option maxRecDepth 100000 in
theorem zq_l : ∀ w ∈ zq_ws, w ∈ zw_tbl := by decide +kernel
set_option maxRecDepth 100000 in
theorem zq_g : ∀ w ∈ zq_ws, goodWord w = true := by decide +kernel
theorem zq_in {i : Nat} {w : Cond} (h : zq_ws[i]? = some w) : w ∈ gT := gT_in (zq_l w (List.mem_of_getElem? h)) (zq_g w (List.mem_of_getElem? h))
theorem zq_gd {y : MethodName} {bytes : ByteArray} {n i : Nat} {ret : Option FieldType} (h : zq_ws[i]? = some (Cond.code y bytes n ret)) : ∀ w ∈ Cond.code y bytes n ret :: gT, w ∈ gT := fun w hw => (List.mem_cons.mp hw).elim (fun q => by rw [q]; exact zq_in h) id
theorem zq_c1 {w : Cond} {L : List Cond} (h : w ∈ gT) (t : ∀ v ∈ L, v ∈ gT) : ∀ v ∈ w :: L, v ∈ gT := fun v hv => (List.mem_cons.mp hv).elim (fun q => by rw [q]; exact h) (t v)
theorem zq_c0 : ∀ v ∈ ([] : List Cond), v ∈ gT := fun v hv => by cases hv
variable {l : Launch}
set_option maxHeartbeats 4000000 in
theorem cq_pci (sz : Nat) (i n : Int32) (v : Value) (hv : v = .null ∨ ∃ t, v = .ref t) (h0 : ¬ i < 0) (h1 : i < n) : Met l yJ3_checkIndex_8e157 (Cond.code yJ3_checkIndex_8e157 cJ3_checkIndex_8e157 3 (some .int) :: gT) ({ frames := 0, cells := 0, slots := 0, locals := 0 }) (va_Pc [.int i, .int n, v] (fun U => U.heap.size = sz)) (va_Qi (fun (r : Int32) (_ : Unit) => r = i) (fun _ _ => True) (fun q : Nat => sz ≤ q)) 0 0 (fun q : Nat => sz ≤ q) := by
  refine Met.ofW (cc := cJ3_checkIndex_8e157) (maxL := 3) (ret := some .int) (by decide +kernel) rfl ?_
  intro p e s m args below meth c s₁ B hml hpc
  obtain ⟨rfl, hsz⟩ := hpc
  have hx := B.exec
  have hb := B.bytes
  have hr := B.returns
  have hlocks := B.notSynchronized
  have hts0 := atoms_spec (ws := _) B.pre
  have hts : ∀ w ∈ gT, w.before _ s = true := fun w hw => hts0 w (List.mem_cons_of_mem _ hw)
  subst hsz
  have hS : va_S (fun q : Nat => s.heap.size ≤ q) s.heap s.heap [] := va_S.rf
  have hl : ∃ ls : Array Slot, entryFrame m ([.int i, .int n, v] : List Value).toArray 3 = F0 m 0 ls [] ∧ lv_has ls 3 [(0, .int i), (1, .int n)] := by
    rcases hv with rfl | ⟨t, rfl⟩
    · have hl := lv_entry ([.int i, .int n, .null]) (n := 3) (Nat.le_of_ble_eq_true rfl)
      rw [lg_entry_eq]
      exact ⟨_, rfl, lv_sub hl [0, 1] rfl⟩
    · have hl := lv_entry ([.int i, .int n, .ref t]) (n := 3) (Nat.le_of_ble_eq_true rfl)
      rw [lg_entry_eq]
      exact ⟨_, rfl, lv_sub hl [0, 1] rfl⟩
  obtain ⟨ls, e9, hl⟩ := hl
  rw [e9]
  refine lv_iload_n hx hb dQa_0 rfl (lv_at hl 0 rfl) ?_
  refine lv_if_lt (tgt := 9) hx hb dQa_1 (by decide) (fun q => absurd q h0) (fun _ => ?_)
  refine lv_iload_n hx hb dQa_4 rfl (lv_at hl 0 rfl) ?_
  refine lv_iload_n hx hb dQa_5 rfl (lv_at hl 1 rfl) ?_
  refine lv_icmp_lt (tgt := 16) hx hb dQa_6 (by decide) (fun _ => ?_) (fun q => absurd h1 q)
  refine lv_iload_n hx hb dQa_16 rfl (lv_at hl 0 rfl) ?_
  exact W.iret (v := i) hx hb hr (fun t ht hW => ⟨⟨i, (), rfl, rfl, trivial⟩, hS.F ht⟩) hS.2.2 dQa_17
set_option maxHeartbeats 4000000 in
theorem cq_sci (sz : Nat) (i n : Int32) (h0 : ¬ i < 0) (h1 : i < n) : Met l yJ0_checkIndex_df160 (Cond.code yJ0_checkIndex_df160 cJ0_checkIndex_df160 2 none :: gT) ({ frames := 1, cells := 0, slots := 0, locals := 22 }) (va_Pc [.int i, .int n] (fun U => U.heap.size = sz ∧ va_Zq "jdk/internal/util/Preconditions" "SIOOBE_FORMATTER" "Ljava/util/function/BiFunction;" (fun q : Nat => sz ≤ q) U U.heap)) (va_Qv (fun (_ : Unit) => True) (fun _ _ => True) (fun q : Nat => sz ≤ q)) 0 0 (fun q : Nat => sz ≤ q) := by
  refine Met.ofW (cc := cJ0_checkIndex_df160) (maxL := 2) (ret := none) (by decide +kernel) rfl ?_
  intro p e s m args below meth c s₁ B hml hpc
  obtain ⟨rfl, hsz, hZ⟩ := hpc
  have hx := B.exec
  have hb := B.bytes
  have hr := B.returns
  have hlocks := B.notSynchronized
  have hts0 := atoms_spec (ws := _) B.pre
  have hts : ∀ w ∈ gT, w.before _ s = true := fun w hw => hts0 w (List.mem_cons_of_mem _ hw)
  have hown : s.vm.findClass RJ0 = some m.cls := findClass_of_methodNamed B.named
  subst hsz
  have hS : va_S (fun q : Nat => s.heap.size ≤ q) s.heap s.heap [] := va_S.rf
  have hl := lv_entry ([.int i, .int n]) (n := 2) (Nat.le_of_ble_eq_true rfl)
  rw [lg_entry_eq]
  generalize (lg_sl ([.int i, .int n]) ++ List.replicate (2 - (lg_sl ([.int i, .int n])).length) Slot.unset).toArray = ls at hl ⊢
  have hl : lv_has ls 2 [(0, .int i), (1, .int n)] := hl
  have main : ∀ v : Value, (v = .null ∨ ∃ t, v = .ref t) → va_Z "jdk/internal/util/Preconditions" "SIOOBE_FORMATTER" "Ljava/util/function/BiFunction;" v (fun q : Nat => s.heap.size ≤ q) s s.heap → W p l e (headSpec (Cond.code yJ0_checkIndex_df160 cJ0_checkIndex_df160 2 none :: gT) ({ frames := 1, cells := 0, slots := 0, locals := 22 })).room s m #[Value.int i, Value.int n] below meth c s.heap [] 0 0 (MQ below (va_Qv (fun (_ : Unit) => True) (fun _ _ => True) (fun q : Nat => s.heap.size ≤ q)) #[Value.int i, Value.int n] s 0 0 (fun q : Nat => s.heap.size ≤ q)) (F0 m 0 ls []) := by
    intro v hv hZ
    refine lv_iload_n hx hb dQb_0 rfl (lv_at hl 0 rfl) ?_
    refine lv_iload_n hx hb dQb_1 rfl (lv_at hl 1 rfl) ?_
    refine va_gets hx hb hZ hS hown (hts _ (zq_in (i := 0) rfl)) (fun _ h9 => h9) dQb_2 ?_
    refine va_calli (va_runS (As := [.int i, .int n, v]) (rest := []) ⟨hx, hb, hml, hown, hts⟩ (cq_pci s.heap.size i n v hv h0 h1) (va_cwS (bytes := cJ3_checkIndex_8e157) (maxL := 3) (ret := some .int) 3 hts (gT_good (gT_app (zq_c1 (zq_in (i := 1) rfl) (zq_c1 (zq_in (i := 2) rfl) (zq_c1 (zq_in (i := 3) rfl) zq_c0))) (zq_gd (i := 4) rfl))) rfl rfl rfl ⟨by decide +kernel, by decide +kernel, by decide +kernel⟩ ⟨Nat.le_of_ble_eq_true rfl, Nat.le_of_ble_eq_true rfl⟩) ⟨fun a U g mk q => ⟨q.1, q.2⟩, fun U hU hW => ⟨rfl, by show U.heap.size = s.heap.size; rw [hU]⟩⟩ rfl rfl hl.1 rfl (lv_room (Nat.le_of_ble_eq_true rfl)) dQb_5 ⟨Nat.zero_le _, Nat.zero_le _⟩) hS (fun q h1 h2 => absurd h1 (Nat.not_lt.mpr h2)) (fun q h => h) (fun r u t H1 locs ht hvm hw hB hz1 hk1 hS => ?_)
    refine lv_pop hx hb dQb_8 rfl ?_
    exact W.vret hx hb hr (fun t ht hW => ⟨⟨(), rfl, trivial, trivial⟩, hS.F ht⟩) hS.2.2 dQb_9
  rcases hZ with hZ | ⟨t, hZ⟩
  · exact main _ (Or.inl rfl) hZ
  · exact main _ (Or.inr ⟨t, rfl⟩) hZ
end ZST
def mJ0_checkIndex_df160 : zm_M := (yJ0_checkIndex_df160, cJ0_checkIndex_df160, 2, none, (2, 0, 0, 60), 2, [], (0, 0))
def sJ0_checkIndex_df160 : zm_S := fun av h => match av with
  | [.int i, .int n] => if ¬ i < 0 ∧ i < n then some (.inl none, h) else none
  | _ => none
section ZSU
variable {sc : Nat × (Nat → Int32)}
set_option maxHeartbeats 4000000 in
theorem tJ0_checkIndex_df160 {l : Launch} (hlt : l.stackTraces = false) : MetA sc l mJ0_checkIndex_df160 sJ0_checkIndex_df160 := by
  intro D tc ad h sz av hoH hoS
  refine ⟨fun v h2 h9 => ?_, fun x h2 h9 => ?_⟩
  · unfold sJ0_checkIndex_df160 at h9
    split at h9
    · rename_i i n
      split at h9
      case isFalse => cases h9
      rename_i hk9
      obtain ⟨h0, h1⟩ := hk9
      cases h9
      refine vx_ofW (cc := cJ0_checkIndex_df160) (maxL := 2) (ret := none) (ws' := gT) (by decide +kernel) rfl ?_
      intro p e s m args below meth c s₁ B hml hno hpc
      obtain ⟨rfl, hsz, hP, hK, hD0, hRO⟩ := hpc
      have hx := B.exec
      have hb := B.bytes
      have hr := B.returns
      have hlocks := B.notSynchronized
      have hts0 : ∀ w ∈ zmWs mJ0_checkIndex_df160, w.before _ s = true := atoms_spec (ws := zmWs mJ0_checkIndex_df160) B.pre
      have hts : ∀ w ∈ gT, w.before _ s = true := fun w hw => hts0 w (List.mem_cons_of_mem _ hw)
      have hown : s.vm.findClass RJ0 = some m.cls := findClass_of_methodNamed B.named
      subst hsz
      have hZ := hRO.2.2.2.1.2.1.narrow (B := (fun q : Nat => s.heap.size ≤ q)) (fun q hq => Or.inr hq)
      have hS : va_S (fun q : Nat => s.heap.size ≤ q) s.heap s.heap [] := va_S.rf
      have hend : ∀ {H1 : Heap} {locs : List Loc}, va_S (fun q : Nat => s.heap.size ≤ q) s.heap H1 locs → ∀ t : State, t.heap = H1 → s.WarmedH t.vm → zPst D tc ad h s.heap.size ad h t ∧ va_F (va_A (zws tc ad h) s.heap.size) s t := fun hS t ht hW => by
        have hP1 : va_P D vwCl (zws tc ad h) t.heap := by
          rw [ht]
          exact hP.kept (fun k q hq => hS.2.1 q.1 ((hP k q hq).lt) (Nat.not_le.mpr ((hP k q hq).lt)))
        refine ⟨⟨zext.rf, hP1, va_K.moved hW.alike hK, hD0.self, hoH, Nat.le_refl _⟩, by rw [ht]; exact hS.1, fun q q1 q2 => ?_⟩
        rw [ht]
        exact hS.2.1 q q1 (Nat.not_le.mpr q1)
      have hfree : ∀ {H1 : Heap} {locs : List Loc}, va_S (fun q : Nat => s.heap.size ≤ q) s.heap H1 locs → ∀ q ∈ locs, va_A (zws tc ad h) s.heap.size q.base := fun hS q hq => Or.inr (hS.2.2 q hq)
      have hl := lv_entry ([.int i, .int n]) (n := 2) (Nat.le_of_ble_eq_true rfl)
      show W p l e _ s m _ below meth c s.heap [] 0 0 _ (entryFrame m ([.int i, .int n] : List Value).toArray 2)
      rw [lg_entry_eq]
      generalize (lg_sl ([.int i, .int n]) ++ List.replicate (2 - (lg_sl ([.int i, .int n])).length) Slot.unset).toArray = ls at hl ⊢
      have hl : lv_has ls 2 [(0, .int i), (1, .int n)] := hl
      refine vx_ret ?_
      refine lv_iload_n hx hb dQb_0 rfl (lv_at hl 0 rfl) ?_
      refine lv_iload_n hx hb dQb_1 rfl (lv_at hl 1 rfl) ?_
      obtain ⟨v, hv, hZ⟩ : ∃ v : Value, (v = .null ∨ ∃ t, v = .ref t) ∧ va_Z "jdk/internal/util/Preconditions" "SIOOBE_FORMATTER" "Ljava/util/function/BiFunction;" v (fun q : Nat => s.heap.size ≤ q) s s.heap := by
        rcases hZ with hZ | ⟨t, hZ⟩
        · exact ⟨_, Or.inl rfl, hZ⟩
        · exact ⟨_, Or.inr ⟨t, rfl⟩, hZ⟩
      refine va_gets hx hb hZ hS hown (hts _ (zq_in (i := 0) rfl)) (fun _ h9 => h9) dQb_2 ?_
      refine va_calli (va_runS (As := [.int i, .int n, v]) (rest := []) ⟨hx, hb, hml, hown, hts⟩ (cq_pci s.heap.size i n v hv h0 h1) (va_cwS (bytes := cJ3_checkIndex_8e157) (maxL := 3) (ret := some .int) 3 hts (gT_good (gT_app (zq_c1 (zq_in (i := 1) rfl) (zq_c1 (zq_in (i := 2) rfl) (zq_c1 (zq_in (i := 3) rfl) zq_c0))) (zq_gd (i := 4) rfl))) rfl rfl rfl ⟨by decide +kernel, by decide +kernel, by decide +kernel⟩ ⟨Nat.le_of_ble_eq_true rfl, Nat.le_of_ble_eq_true rfl⟩) ⟨fun a U g mk q => ⟨q.1, q.2⟩, fun U hU hW => ⟨rfl, by show U.heap.size = s.heap.size; rw [hU]⟩⟩ rfl rfl hl.1 rfl (lv_room (Nat.le_of_ble_eq_true rfl)) dQb_5 ⟨Nat.zero_le _, Nat.zero_le _⟩) hS (fun q h1 h2 => absurd h1 (Nat.not_lt.mpr h2)) (fun q h => h) (fun r u t H1 locs ht hvm hw hB hz1 hk1 hS => ?_)
      refine lv_pop hx hb dQb_8 rfl ?_
      exact W.vret hx hb hr (fun t ht hW => ⟨⟨ad, rfl, (hend hS t ht hW).1, fun w hw => by cases hw⟩, (hend hS t ht hW).2⟩) (hfree hS) dQb_9
    · cases h9
  · unfold sJ0_checkIndex_df160 at h9
    split at h9
    · split at h9 <;> cases h9
    · cases h9
end ZSU
