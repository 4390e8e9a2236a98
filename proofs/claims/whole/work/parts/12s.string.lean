/-! THE JDK'S TWO METHODS OF A STRING, over the keywords (written by wip/whole/gen12s.py). -/
section ZST
theorem dQa_0 : decode cJ3_checkIndex_8e157 0 = .ok (.iload_n 0, 1) := by decide +kernel
theorem dQa_1 : decode cJ3_checkIndex_8e157 1 = .ok (.ifCond .lt 8, 3) := by decide +kernel
theorem dQa_4 : decode cJ3_checkIndex_8e157 4 = .ok (.iload_n 0, 1) := by decide +kernel
theorem dQa_5 : decode cJ3_checkIndex_8e157 5 = .ok (.iload_n 1, 1) := by decide +kernel
theorem dQa_6 : decode cJ3_checkIndex_8e157 6 = .ok (.if_icmp .lt 10, 3) := by decide +kernel
theorem dQa_16 : decode cJ3_checkIndex_8e157 16 = .ok (.iload_n 0, 1) := by decide +kernel
theorem dQa_17 : decode cJ3_checkIndex_8e157 17 = .ok (.ireturn, 1) := by decide +kernel
theorem dQb_0 : decode cJ0_checkIndex_df160 0 = .ok (.iload_n 0, 1) := by decide +kernel
theorem dQb_1 : decode cJ0_checkIndex_df160 1 = .ok (.iload_n 1, 1) := by decide +kernel
theorem dQb_2 : decode cJ0_checkIndex_df160 2 = .ok (.getstatic 1053, 3) := by decide +kernel
theorem dQb_5 : decode cJ0_checkIndex_df160 5 = .ok (.invokestatic 1059, 3) := by decide +kernel
theorem dQb_8 : decode cJ0_checkIndex_df160 8 = .ok (.pop, 1) := by decide +kernel
theorem dQb_9 : decode cJ0_checkIndex_df160 9 = .ok (.return_, 1) := by decide +kernel
theorem dQc_0 : decode cJ1_charAt_3b067 0 = .ok (.iload_n 1, 1) := by decide +kernel
theorem dQc_1 : decode cJ1_charAt_3b067 1 = .ok (.aload_n 0, 1) := by decide +kernel
theorem dQc_2 : decode cJ1_charAt_3b067 2 = .ok (.arraylength, 1) := by decide +kernel
theorem dQc_3 : decode cJ1_charAt_3b067 3 = .ok (.invokestatic 9, 3) := by decide +kernel
theorem dQc_6 : decode cJ1_charAt_3b067 6 = .ok (.aload_n 0, 1) := by decide +kernel
theorem dQc_7 : decode cJ1_charAt_3b067 7 = .ok (.iload_n 1, 1) := by decide +kernel
theorem dQc_8 : decode cJ1_charAt_3b067 8 = .ok (.baload, 1) := by decide +kernel
theorem dQc_9 : decode cJ1_charAt_3b067 9 = .ok (.sipush 255, 3) := by decide +kernel
theorem dQc_12 : decode cJ1_charAt_3b067 12 = .ok (.iand, 1) := by decide +kernel
theorem dQc_13 : decode cJ1_charAt_3b067 13 = .ok (.i2c, 1) := by decide +kernel
theorem dQc_14 : decode cJ1_charAt_3b067 14 = .ok (.ireturn, 1) := by decide +kernel
theorem dQd_0 : decode cJ0_coder_7d493 0 = .ok (.getstatic 38, 3) := by decide +kernel
theorem dQd_3 : decode cJ0_coder_7d493 3 = .ok (.ifCond .eq 10, 3) := by decide +kernel
theorem dQd_6 : decode cJ0_coder_7d493 6 = .ok (.aload_n 0, 1) := by decide +kernel
theorem dQd_7 : decode cJ0_coder_7d493 7 = .ok (.getfield 15, 3) := by decide +kernel
theorem dQd_10 : decode cJ0_coder_7d493 10 = .ok (.goto 4, 3) := by decide +kernel
theorem dQd_14 : decode cJ0_coder_7d493 14 = .ok (.ireturn, 1) := by decide +kernel
theorem dQe_0 : decode cJ0_isLatin1_aae02 0 = .ok (.getstatic 38, 3) := by decide +kernel
theorem dQe_3 : decode cJ0_isLatin1_aae02 3 = .ok (.ifCond .eq 14, 3) := by decide +kernel
theorem dQe_6 : decode cJ0_isLatin1_aae02 6 = .ok (.aload_n 0, 1) := by decide +kernel
theorem dQe_7 : decode cJ0_isLatin1_aae02 7 = .ok (.getfield 15, 3) := by decide +kernel
theorem dQe_10 : decode cJ0_isLatin1_aae02 10 = .ok (.ifCond .ne 7, 3) := by decide +kernel
theorem dQe_13 : decode cJ0_isLatin1_aae02 13 = .ok (.iconst 1, 1) := by decide +kernel
theorem dQe_14 : decode cJ0_isLatin1_aae02 14 = .ok (.goto 4, 3) := by decide +kernel
theorem dQe_18 : decode cJ0_isLatin1_aae02 18 = .ok (.ireturn, 1) := by decide +kernel
theorem dQf_0 : decode cJ0_length_8abf5 0 = .ok (.aload_n 0, 1) := by decide +kernel
theorem dQf_1 : decode cJ0_length_8abf5 1 = .ok (.getfield 9, 3) := by decide +kernel
theorem dQf_4 : decode cJ0_length_8abf5 4 = .ok (.arraylength, 1) := by decide +kernel
theorem dQf_5 : decode cJ0_length_8abf5 5 = .ok (.aload_n 0, 1) := by decide +kernel
theorem dQf_6 : decode cJ0_length_8abf5 6 = .ok (.invokevirtual 335, 3) := by decide +kernel
theorem dQf_9 : decode cJ0_length_8abf5 9 = .ok (.ishr, 1) := by decide +kernel
theorem dQf_10 : decode cJ0_length_8abf5 10 = .ok (.ireturn, 1) := by decide +kernel
theorem dQg_0 : decode cJ0_charAt_5068e 0 = .ok (.aload_n 0, 1) := by decide +kernel
theorem dQg_1 : decode cJ0_charAt_5068e 1 = .ok (.invokevirtual 492, 3) := by decide +kernel
theorem dQg_4 : decode cJ0_charAt_5068e 4 = .ok (.ifCond .eq 12, 3) := by decide +kernel
theorem dQg_7 : decode cJ0_charAt_5068e 7 = .ok (.aload_n 0, 1) := by decide +kernel
theorem dQg_8 : decode cJ0_charAt_5068e 8 = .ok (.getfield 9, 3) := by decide +kernel
theorem dQg_11 : decode cJ0_charAt_5068e 11 = .ok (.iload_n 1, 1) := by decide +kernel
theorem dQg_12 : decode cJ0_charAt_5068e 12 = .ok (.invokestatic 495, 3) := by decide +kernel
theorem dQg_15 : decode cJ0_charAt_5068e 15 = .ok (.ireturn, 1) := by decide +kernel
def zq_ws : List Cond := [.fieldLink RJ0 1053 "jdk/internal/util/Preconditions" "SIOOBE_FORMATTER" "Ljava/util/function/BiFunction;", .methodLink RJ0 1059 yJ3_checkIndex_8e157, .static yJ3_checkIndex_8e157, .initialized "jdk/internal/util/Preconditions", .code yJ3_checkIndex_8e157 cJ3_checkIndex_8e157 3 (some .int),
  .methodLink RJ1 9 yJ0_checkIndex_df160, .static yJ0_checkIndex_df160, .initialized RJ0, .code yJ0_checkIndex_df160 cJ0_checkIndex_df160 2 none, .fieldLink RJ0 38 "java/lang/String" "COMPACT_STRINGS" "Z", .fieldLink RJ0 15 "java/lang/String" "coder" "B", .fieldLink RJ0 9 "java/lang/String" "value" "[B",
  .methodLink RJ0 335 yJ0_coder_7d493, .instanceMethod yJ0_coder_7d493, .selects RJ0 yJ0_coder_7d493 yJ0_coder_7d493, .code yJ0_coder_7d493 cJ0_coder_7d493 1 (some .byte),
  .methodLink RJ0 492 yJ0_isLatin1_aae02, .instanceMethod yJ0_isLatin1_aae02, .selects RJ0 yJ0_isLatin1_aae02 yJ0_isLatin1_aae02, .code yJ0_isLatin1_aae02 cJ0_isLatin1_aae02 1 (some .boolean),
  .methodLink RJ0 495 yJ1_charAt_3b067, .static yJ1_charAt_3b067, .initialized RJ1, .code yJ1_charAt_3b067 cJ1_charAt_3b067 2 (some .char)]
set_option maxRecDepth 100000 in
theorem zq_l : ∀ w ∈ zq_ws, w ∈ lw_tbl := by decide +kernel
set_option maxRecDepth 100000 in
theorem zq_g : ∀ w ∈ zq_ws, goodWord w = true := by decide +kernel
theorem zq_in {i : Nat} {w : Cond} (h : zq_ws[i]? = some w) : w ∈ gT := gT_in (zq_l w (List.mem_of_getElem? h)) (zq_g w (List.mem_of_getElem? h))
theorem zq_gd {y : MethodName} {bytes : ByteArray} {n i : Nat} {ret : Option FieldType} (h : zq_ws[i]? = some (Cond.code y bytes n ret)) : ∀ w ∈ Cond.code y bytes n ret :: gT, w ∈ gT := fun w hw => (List.mem_cons.mp hw).elim (fun q => by rw [q]; exact zq_in h) id
theorem zq_c1 {w : Cond} {L : List Cond} (h : w ∈ gT) (t : ∀ v ∈ L, v ∈ gT) : ∀ v ∈ w :: L, v ∈ gT := fun v hv => (List.mem_cons.mp hv).elim (fun q => by rw [q]; exact h) (t v)
theorem zq_c0 : ∀ v ∈ ([] : List Cond), v ∈ gT := fun v hv => by cases hv
variable {l : Launch}
set_option maxHeartbeats 4000000 in
theorem cq_pci (sz : Nat) (i n : Int32) (v : Value) (hv : v = .null ∨ ∃ t, v = .ref t) (h0 : ¬ i < 0) (h1 : i < n) : Met l yJ3_checkIndex_8e157 (Cond.code yJ3_checkIndex_8e157 cJ3_checkIndex_8e157 3 (some .int) :: gT) ({ frames := 0, cells := 0, slots := 0, locals := 0 }) (va_Pc [.int i, .int n, v] (fun U => U.heap.size = sz)) (va_Qi (fun (r : Int32) (_ : Unit) => r = i) (fun _ _ => True) (fun q : Nat => sz ≤ q)) 0 0 (fun q : Nat => sz ≤ q) := by
  refine Met.ofW (cc := cJ3_checkIndex_8e157) (maxL := 3) (ret := some .int) (by decide +kernel) rfl ?_
  intro p e s m args below meth c s₁ B hml hpc
  obtain ⟨rfl, hsz⟩ := hpc
  have hx := B.exec
  have hb := B.bytes
  have hr := B.returns
  have hlocks := B.notSynchronized
  have hts0 := atoms_spec (ws := _) B.pre
  have hts : ∀ w ∈ gT, w.before _ s = true := fun w hw => hts0 w (List.mem_cons_of_mem _ hw)
  subst hsz
  have hS : va_S (fun q : Nat => s.heap.size ≤ q) s.heap s.heap [] := va_S.rf
  have hl : ∃ ls : Array Slot, entryFrame m ([.int i, .int n, v] : List Value).toArray 3 = F0 m 0 ls [] ∧ lv_has ls 3 [(0, .int i), (1, .int n)] := by
    rcases hv with rfl | ⟨t, rfl⟩
    · have hl := lv_entry ([.int i, .int n, .null]) (n := 3) (Nat.le_of_ble_eq_true rfl)
      rw [lg_entry_eq]
      exact ⟨_, rfl, lv_sub hl [0, 1] rfl⟩
    · have hl := lv_entry ([.int i, .int n, .ref t]) (n := 3) (Nat.le_of_ble_eq_true rfl)
      rw [lg_entry_eq]
      exact ⟨_, rfl, lv_sub hl [0, 1] rfl⟩
  obtain ⟨ls, e9, hl⟩ := hl
  rw [e9]
  refine lv_iload_n hx hb dQa_0 rfl (lv_at hl 0 rfl) ?_
  refine lv_if_lt (tgt := 9) hx hb dQa_1 (by decide) (fun q => absurd q h0) (fun _ => ?_)
  refine lv_iload_n hx hb dQa_4 rfl (lv_at hl 0 rfl) ?_
  refine lv_iload_n hx hb dQa_5 rfl (lv_at hl 1 rfl) ?_
  refine lv_icmp_lt (tgt := 16) hx hb dQa_6 (by decide) (fun _ => ?_) (fun q => absurd h1 q)
  refine lv_iload_n hx hb dQa_16 rfl (lv_at hl 0 rfl) ?_
  exact W.iret (v := i) hx hb hr (fun t ht hW => ⟨⟨i, (), rfl, rfl, trivial⟩, hS.F ht⟩) hS.2.2 dQa_17
set_option maxHeartbeats 4000000 in
theorem cq_sci (sz : Nat) (i n : Int32) (h0 : ¬ i < 0) (h1 : i < n) : Met l yJ0_checkIndex_df160 (Cond.code yJ0_checkIndex_df160 cJ0_checkIndex_df160 2 none :: gT) ({ frames := 1, cells := 0, slots := 0, locals := 22 }) (va_Pc [.int i, .int n] (fun U => U.heap.size = sz ∧ va_Zq "jdk/internal/util/Preconditions" "SIOOBE_FORMATTER" "Ljava/util/function/BiFunction;" (fun q : Nat => sz ≤ q) U U.heap)) (va_Qv (fun (_ : Unit) => True) (fun _ _ => True) (fun q : Nat => sz ≤ q)) 0 0 (fun q : Nat => sz ≤ q) := by
  refine Met.ofW (cc := cJ0_checkIndex_df160) (maxL := 2) (ret := none) (by decide +kernel) rfl ?_
  intro p e s m args below meth c s₁ B hml hpc
  obtain ⟨rfl, hsz, hZ⟩ := hpc
  have hx := B.exec
  have hb := B.bytes
  have hr := B.returns
  have hlocks := B.notSynchronized
  have hts0 := atoms_spec (ws := _) B.pre
  have hts : ∀ w ∈ gT, w.before _ s = true := fun w hw => hts0 w (List.mem_cons_of_mem _ hw)
  have hown : s.vm.findClass RJ0 = some m.cls := findClass_of_methodNamed B.named
  subst hsz
  have hS : va_S (fun q : Nat => s.heap.size ≤ q) s.heap s.heap [] := va_S.rf
  have hl := lv_entry ([.int i, .int n]) (n := 2) (Nat.le_of_ble_eq_true rfl)
  rw [lg_entry_eq]
  generalize (lg_sl ([.int i, .int n]) ++ List.replicate (2 - (lg_sl ([.int i, .int n])).length) Slot.unset).toArray = ls at hl ⊢
  have hl : lv_has ls 2 [(0, .int i), (1, .int n)] := hl
  have main : ∀ v : Value, (v = .null ∨ ∃ t, v = .ref t) → va_Z "jdk/internal/util/Preconditions" "SIOOBE_FORMATTER" "Ljava/util/function/BiFunction;" v (fun q : Nat => s.heap.size ≤ q) s s.heap → W p l e (headSpec (Cond.code yJ0_checkIndex_df160 cJ0_checkIndex_df160 2 none :: gT) ({ frames := 1, cells := 0, slots := 0, locals := 22 })).room s m #[Value.int i, Value.int n] below meth c s.heap [] 0 0 (MQ below (va_Qv (fun (_ : Unit) => True) (fun _ _ => True) (fun q : Nat => s.heap.size ≤ q)) #[Value.int i, Value.int n] s 0 0 (fun q : Nat => s.heap.size ≤ q)) (F0 m 0 ls []) := by
    intro v hv hZ
    refine lv_iload_n hx hb dQb_0 rfl (lv_at hl 0 rfl) ?_
    refine lv_iload_n hx hb dQb_1 rfl (lv_at hl 1 rfl) ?_
    refine va_gets hx hb hZ hS hown (hts _ (zq_in (i := 0) rfl)) (fun _ h9 => h9) dQb_2 ?_
    refine va_calli (va_runS (As := [.int i, .int n, v]) (rest := []) ⟨hx, hb, hml, hown, hts⟩ (cq_pci s.heap.size i n v hv h0 h1) (va_cwS (bytes := cJ3_checkIndex_8e157) (maxL := 3) (ret := some .int) 3 hts (gT_good (gT_app (zq_c1 (zq_in (i := 1) rfl) (zq_c1 (zq_in (i := 2) rfl) (zq_c1 (zq_in (i := 3) rfl) zq_c0))) (zq_gd (i := 4) rfl))) rfl rfl rfl ⟨by decide +kernel, by decide +kernel, by decide +kernel⟩ ⟨Nat.le_of_ble_eq_true rfl, Nat.le_of_ble_eq_true rfl⟩) ⟨fun a U g mk q => ⟨q.1, q.2⟩, fun U hU hW => ⟨rfl, by show U.heap.size = s.heap.size; rw [hU]⟩⟩ rfl rfl hl.1 rfl (lv_room (Nat.le_of_ble_eq_true rfl)) dQb_5 ⟨Nat.zero_le _, Nat.zero_le _⟩) hS (fun q h1 h2 => absurd h1 (Nat.not_lt.mpr h2)) (fun q h => h) (fun r u t H1 locs ht hvm hw hB hz1 hk1 hS => ?_)
    refine lv_pop hx hb dQb_8 rfl ?_
    exact W.vret hx hb hr (fun t ht hW => ⟨⟨(), rfl, trivial, trivial⟩, hS.F ht⟩) hS.2.2 dQb_9
  rcases hZ with hZ | ⟨t, hZ⟩
  · exact main _ (Or.inl rfl) hZ
  · exact main _ (Or.inr ⟨t, rfl⟩) hZ
theorem zq_lt {i : Int32} {n : Nat} (h : ¬ (i < 0 ∨ n ≤ i.toNatClampNeg)) (hn : n < 2 ^ 31) : i < nI n := by
  have h1 : ¬ i < 0 := fun q => h (Or.inl q)
  have h2 : i.toNatClampNeg < n := Nat.not_le.mp (fun q => h (Or.inr q))
  rw [Int32.lt_iff_toInt_lt, nI_toInt hn]
  have h3 : (i.toNatClampNeg : Int) = i.toInt.toNat := rfl
  omega
set_option maxHeartbeats 4000000 in
theorem cq_lch (sz b : Nat) (bs : List Int32) (i x : Int32) (hn : bs.length < 2 ^ 31) (hi : ¬ (i < 0 ∨ bs.length ≤ i.toNatClampNeg)) (hx9 : bs.getD i.toNatClampNeg 0 = x) (hc1 : ((x &&& 255).toUInt32 % 65536).toInt32 = x) (hc2 : narrow .char (.int x) = .int x) : Met l yJ1_charAt_3b067 (Cond.code yJ1_charAt_3b067 cJ1_charAt_3b067 2 (some .char) :: gT) ({ frames := 2, cells := 0, slots := 0, locals := 43 }) (va_Pc [.ref b, .int i] (fun U => U.heap.size = sz ∧ va_Zq "jdk/internal/util/Preconditions" "SIOOBE_FORMATTER" "Ljava/util/function/BiFunction;" (fun q : Nat => sz ≤ q) U U.heap ∧ va_T .byte b bs.length (fun j => .int (bs.getD j 0)) (fun q : Nat => sz ≤ q) U U.heap)) (va_Qi (fun (r : Int32) (_ : Unit) => r = x) (fun _ _ => True) (fun q : Nat => sz ≤ q)) 0 0 (fun q : Nat => sz ≤ q) := by
  refine Met.ofW (cc := cJ1_charAt_3b067) (maxL := 2) (ret := some .char) (by decide +kernel) rfl ?_
  intro p e s m args below meth c s₁ B hml hpc
  obtain ⟨rfl, hsz, hZ, hT⟩ := hpc
  have hx := B.exec
  have hb := B.bytes
  have hr := B.returns
  have hlocks := B.notSynchronized
  have hts0 := atoms_spec (ws := _) B.pre
  have hts : ∀ w ∈ gT, w.before _ s = true := fun w hw => hts0 w (List.mem_cons_of_mem _ hw)
  have hown : s.vm.findClass RJ1 = some m.cls := findClass_of_methodNamed B.named
  subst hsz
  have hS : va_S (fun q : Nat => s.heap.size ≤ q) s.heap s.heap [] := va_S.rf
  have hl := lv_entry ([.ref b, .int i]) (n := 2) (Nat.le_of_ble_eq_true rfl)
  rw [lg_entry_eq]
  generalize (lg_sl ([.ref b, .int i]) ++ List.replicate (2 - (lg_sl ([.ref b, .int i])).length) Slot.unset).toArray = ls at hl ⊢
  have hl : lv_has ls 2 [(0, .ref b), (1, .int i)] := hl
  refine lv_iload_n hx hb dQc_0 rfl (lv_at hl 1 rfl) ?_
  refine lv_aload_n hx hb dQc_1 rfl (lv_at hl 0 rfl) ?_
  refine va_tlen hx hb hT hS (v := nI bs.length) rfl dQc_2 ?_
  refine va_callv (va_runS (As := [.int i, .int (nI bs.length)]) (rest := []) ⟨hx, hb, hml, hown, hts⟩ (cq_sci s.heap.size i (nI bs.length) (fun q => hi (Or.inl q)) (zq_lt hi hn)) (va_cwS (bytes := cJ0_checkIndex_df160) (maxL := 2) (ret := none) 2 hts (gT_good (gT_app (zq_c1 (zq_in (i := 5) rfl) (zq_c1 (zq_in (i := 6) rfl) (zq_c1 (zq_in (i := 7) rfl) zq_c0))) (zq_gd (i := 8) rfl))) rfl rfl rfl ⟨by decide +kernel, by decide +kernel, by decide +kernel⟩ ⟨Nat.le_of_ble_eq_true rfl, Nat.le_of_ble_eq_true rfl⟩) ⟨fun a U g mk q => ⟨q.1, q.2.1, va_Zq.moved (u := U) (U := U.calling g mk a) (Vm.Alike.refl U.vm) q.2.2⟩, fun U hU hW => ⟨rfl, by rw [hU], by rw [hU]; exact hZ.moved hW.alike⟩⟩ rfl rfl hl.1 rfl (lv_room (Nat.le_of_ble_eq_true rfl)) dQc_3 ⟨Nat.zero_le _, Nat.zero_le _⟩) hS (fun q h1 h2 => absurd h1 (Nat.not_lt.mpr h2)) (fun q h => h) (fun u t H1 locs ht hvm hw hB hz1 hk1 hS => ?_)
  refine lv_aload_n hx hb dQc_6 rfl (lv_at hl 0 rfl) ?_
  refine lv_iload_n hx hb dQc_7 rfl (lv_at hl 1 rfl) ?_
  refine va_tb hx hb hT hS hi (v := .int x) (by rw [hx9]) dQc_8 ?_
  refine lv_sipush (v := 255) hx hb dQc_9 (by decide) ?_
  refine lv_iand hx hb dQc_12 ?_
  refine lv_i2c (v := x) hx hb dQc_13 hc1 ?_
  exact W.zret (v := x) hx hb hr hc2 (fun t ht hW => ⟨⟨x, (), rfl, rfl, trivial⟩, hS.F ht⟩) hS.2.2 dQc_14
set_option maxHeartbeats 4000000 in
theorem cq_cod (sz k : Nat) : Met l yJ0_coder_7d493 (Cond.code yJ0_coder_7d493 cJ0_coder_7d493 1 (some .byte) :: gT) ({ frames := 0, cells := 0, slots := 0, locals := 0 }) (va_Pc [.ref k] (fun U => U.heap.size = sz ∧ va_Z "java/lang/String" "COMPACT_STRINGS" "Z" (.int 1) (fun q : Nat => sz ≤ q) U U.heap ∧ va_OF "java/lang/String" "coder" "B" (.int 0) k (fun q : Nat => sz ≤ q) U U.heap)) (va_Qi (fun (r : Int32) (_ : Unit) => r = 0) (fun _ _ => True) (fun q : Nat => sz ≤ q)) 0 0 (fun q : Nat => sz ≤ q) := by
  refine Met.ofW (cc := cJ0_coder_7d493) (maxL := 1) (ret := some .byte) (by decide +kernel) rfl ?_
  intro p e s m args below meth c s₁ B hml hpc
  obtain ⟨rfl, hsz, hZ, hO⟩ := hpc
  have hx := B.exec
  have hb := B.bytes
  have hr := B.returns
  have hlocks := B.notSynchronized
  have hts0 := atoms_spec (ws := _) B.pre
  have hts : ∀ w ∈ gT, w.before _ s = true := fun w hw => hts0 w (List.mem_cons_of_mem _ hw)
  have hown : s.vm.findClass RJ0 = some m.cls := findClass_of_methodNamed B.named
  subst hsz
  have hS : va_S (fun q : Nat => s.heap.size ≤ q) s.heap s.heap [] := va_S.rf
  have hl := lv_entry ([.ref k]) (n := 1) (Nat.le_of_ble_eq_true rfl)
  rw [lg_entry_eq]
  generalize (lg_sl ([.ref k]) ++ List.replicate (1 - (lg_sl ([.ref k])).length) Slot.unset).toArray = ls at hl ⊢
  have hl : lv_has ls 1 [(0, .ref k)] := hl
  refine va_gets hx hb hZ hS hown (hts _ (zq_in (i := 9) rfl)) (fun _ h9 => h9) dQd_0 ?_
  refine lv_if_eq (tgt := 13) hx hb dQd_3 (by decide) (fun q => absurd q (by decide)) (fun _ => ?_)
  refine lv_aload_n hx hb dQd_6 rfl (lv_at hl 0 rfl) ?_
  refine vk_getf hx hb hO hS hown (hts _ (zq_in (i := 10) rfl)) (fun _ h9 => h9) dQd_7 ?_
  refine lv_goto (tgt := 14) hx hb dQd_10 (by decide) ?_
  exact W.zret (v := 0) hx hb hr (by decide +kernel) (fun t ht hW => ⟨⟨0, (), rfl, rfl, trivial⟩, hS.F ht⟩) hS.2.2 dQd_14
set_option maxHeartbeats 4000000 in
theorem cq_lat (sz k : Nat) : Met l yJ0_isLatin1_aae02 (Cond.code yJ0_isLatin1_aae02 cJ0_isLatin1_aae02 1 (some .boolean) :: gT) ({ frames := 0, cells := 0, slots := 0, locals := 0 }) (va_Pc [.ref k] (fun U => U.heap.size = sz ∧ va_Z "java/lang/String" "COMPACT_STRINGS" "Z" (.int 1) (fun q : Nat => sz ≤ q) U U.heap ∧ va_OF "java/lang/String" "coder" "B" (.int 0) k (fun q : Nat => sz ≤ q) U U.heap)) (va_Qi (fun (r : Int32) (_ : Unit) => r = 1) (fun _ _ => True) (fun q : Nat => sz ≤ q)) 0 0 (fun q : Nat => sz ≤ q) := by
  refine Met.ofW (cc := cJ0_isLatin1_aae02) (maxL := 1) (ret := some .boolean) (by decide +kernel) rfl ?_
  intro p e s m args below meth c s₁ B hml hpc
  obtain ⟨rfl, hsz, hZ, hO⟩ := hpc
  have hx := B.exec
  have hb := B.bytes
  have hr := B.returns
  have hlocks := B.notSynchronized
  have hts0 := atoms_spec (ws := _) B.pre
  have hts : ∀ w ∈ gT, w.before _ s = true := fun w hw => hts0 w (List.mem_cons_of_mem _ hw)
  have hown : s.vm.findClass RJ0 = some m.cls := findClass_of_methodNamed B.named
  subst hsz
  have hS : va_S (fun q : Nat => s.heap.size ≤ q) s.heap s.heap [] := va_S.rf
  have hl := lv_entry ([.ref k]) (n := 1) (Nat.le_of_ble_eq_true rfl)
  rw [lg_entry_eq]
  generalize (lg_sl ([.ref k]) ++ List.replicate (1 - (lg_sl ([.ref k])).length) Slot.unset).toArray = ls at hl ⊢
  have hl : lv_has ls 1 [(0, .ref k)] := hl
  refine va_gets hx hb hZ hS hown (hts _ (zq_in (i := 9) rfl)) (fun _ h9 => h9) dQe_0 ?_
  refine lv_if_eq (tgt := 17) hx hb dQe_3 (by decide) (fun q => absurd q (by decide)) (fun _ => ?_)
  refine lv_aload_n hx hb dQe_6 rfl (lv_at hl 0 rfl) ?_
  refine vk_getf hx hb hO hS hown (hts _ (zq_in (i := 10) rfl)) (fun _ h9 => h9) dQe_7 ?_
  refine lv_if_ne (tgt := 17) hx hb dQe_10 (by decide) (fun q => absurd rfl q) (fun _ => ?_)
  refine lv_iconst (v := 1) hx hb dQe_13 (by decide) ?_
  refine lv_goto (tgt := 18) hx hb dQe_14 (by decide) ?_
  exact W.zret (v := 1) hx hb hr (by decide +kernel) (fun t ht hW => ⟨⟨1, (), rfl, rfl, trivial⟩, hS.F ht⟩) hS.2.2 dQe_18
end ZST
def mJ0_length_8abf5 : zm_M := (yJ0_length_8abf5, cJ0_length_8abf5, 1, (some .int), (4, 0, 0, 150), 0, [], (0, 0))
def mJ0_charAt_5068e : zm_M := (yJ0_charAt_5068e, cJ0_charAt_5068e, 2, (some .char), (4, 0, 0, 150), 1, [], (0, 0))
/-- the k-th keyword's bytes -/
def zkw (k : Nat) : List Int32 := zkey.getD k []
def sJ0_length_8abf5 : zm_S := fun av h => match av with
  | [.ref k] => if 1000000 ≤ k ∧ k < 1000008 then some (.inl (some (.int (nI (zkw (k - 1000000)).length))), h) else none
  | _ => none
def sJ0_charAt_5068e : zm_S := fun av h => match av with
  | [.ref k, .int i] => if (1000000 ≤ k ∧ k < 1000008) ∧ ¬ (i < 0 ∨ (zkw (k - 1000000)).length ≤ i.toNatClampNeg) then some (.inl (some (.int ((zkw (k - 1000000)).getD i.toNatClampNeg 0))), h) else none
  | _ => none
section ZSU
theorem zkw_ok : ∀ k, k < 8 → (zkw k).length < 2 ^ 31 ∧ ∀ j, j < (zkw k).length → (((zkw k).getD j 0 &&& 255).toUInt32 % 65536).toInt32 = (zkw k).getD j 0 ∧ narrow .char (.int ((zkw k).getD j 0)) = .int ((zkw k).getD j 0) := by decide +kernel
theorem zkw_S {A B : Nat → Prop} {ad : Nat → Nat} {s : State} (h : zRO A ad s s.heap) (hAB : ∀ q, B q → A q) {k : Nat} (h1 : 1000000 ≤ k) (h2 : k < 1000008) : ∃ b : Nat, va_O "java/lang/String" (ad k) B s s.heap ∧ va_OF "java/lang/String" "coder" "B" (.int 0) (ad k) B s s.heap ∧ va_OF "java/lang/String" "value" "[B" (.ref b) (ad k) B s s.heap ∧ va_T .byte b (zkw (k - 1000000)).length (fun j => .int ((zkw (k - 1000000)).getD j 0)) B s s.heap ∧
    va_Z "java/lang/String" "COMPACT_STRINGS" "Z" (.int 1) B s s.heap ∧ va_Zq "jdk/internal/util/Preconditions" "SIOOBE_FORMATTER" "Ljava/util/function/BiFunction;" B s s.heap := by
  obtain ⟨adV, hV⟩ := h.2.2.1
  obtain ⟨k9, e9⟩ : ∃ k9, k9 = k - 1000000 := ⟨_, rfl⟩
  have e : 1000000 + k9 = k := by omega
  obtain ⟨g1, g2, g3, g4⟩ := (hV k9 (by omega)).1 0 (by omega)
  rw [← e9]
  have g1 : va_O "java/lang/String" (ad (1000000 + k9)) A s s.heap := g1
  have g2 : va_OF "java/lang/String" "coder" "B" (.int 0) (ad (1000000 + k9)) A s s.heap := g2
  have g3 : va_OF "java/lang/String" "value" "[B" (.ref (adV k9)) (ad (1000000 + k9)) A s s.heap := g3
  have g4 : va_T .byte (adV k9) (zkw k9).length (fun j => .int ((zkw k9).getD j 0)) A s s.heap := g4
  rw [e] at g1 g2 g3
  exact ⟨adV k9, g1.narrow hAB, g2.narrow hAB, g3.narrow hAB, g4.narrow hAB, h.2.2.2.1.1.narrow hAB, h.2.2.2.1.2.narrow hAB⟩
theorem zq_k {k : Nat} (h1 : 1000000 ≤ k) (h2 : k < 1000008) : k - 1000000 < 8 := by omega
theorem zq_shr (n : Nat) : (nI n) >>> ((0 : Int32) &&& 31) = nI n := by simp
set_option maxHeartbeats 4000000 in
theorem tJ0_length_8abf5 {l : Launch} (hlt : l.stackTraces = false) : MetA l mJ0_length_8abf5 sJ0_length_8abf5 := by
  intro D tc ad h sz av hoH hoS
  refine ⟨fun v h2 h9 => ?_, fun x h2 h9 => ?_⟩
  · unfold sJ0_length_8abf5 at h9
    split at h9
    · rename_i k
      split at h9
      case isFalse => cases h9
      rename_i hk9
      obtain ⟨hk1, hk2⟩ := hk9
      cases h9
      refine vx_ofW (cc := cJ0_length_8abf5) (maxL := 1) (ret := some .int) (ws' := gT) (by decide +kernel) rfl ?_
      intro p e s m args below meth c s₁ B hml hno hpc
      obtain ⟨rfl, hsz, hP, hK, hD0, hRO⟩ := hpc
      have hx := B.exec
      have hb := B.bytes
      have hr := B.returns
      have hlocks := B.notSynchronized
      have hts0 : ∀ w ∈ zmWs mJ0_length_8abf5, w.before _ s = true := atoms_spec (ws := zmWs mJ0_length_8abf5) B.pre
      have hts : ∀ w ∈ gT, w.before _ s = true := fun w hw => hts0 w (List.mem_cons_of_mem _ hw)
      have hown : s.vm.findClass RJ0 = some m.cls := findClass_of_methodNamed B.named
      subst hsz
      obtain ⟨b, k1, k2, k3, k4, k5, k6⟩ := zkw_S hRO (B := (fun q : Nat => s.heap.size ≤ q)) (fun q hq => Or.inr hq) hk1 hk2
      have hS : va_S (fun q : Nat => s.heap.size ≤ q) s.heap s.heap [] := va_S.rf
      have hrec : ∀ {H1 : Heap} {locs : List Loc}, va_S (fun q : Nat => s.heap.size ≤ q) s.heap H1 locs → ∃ cell : Cell, H1[ad k]? = some cell ∧ cell.vm.isStatics = false ∧ s.vm.findClass "java/lang/String" = some cell.cls := fun hS => by
        obtain ⟨cell, q1, q2, q3, -⟩ := k1.kept hS.2.1
        exact ⟨cell, q1, q2, q3⟩
      have hend : ∀ {H1 : Heap} {locs : List Loc}, va_S (fun q : Nat => s.heap.size ≤ q) s.heap H1 locs → ∀ t : State, t.heap = H1 → s.WarmedH t.vm → zPst D tc ad h s.heap.size ad h t ∧ va_F (va_A (zws tc ad h) s.heap.size) s t := fun hS t ht hW => by
        have hP1 : va_P D vwCl (zws tc ad h) t.heap := by
          rw [ht]
          exact hP.kept (fun k q hq => hS.2.1 q.1 ((hP k q hq).lt) (Nat.not_le.mpr ((hP k q hq).lt)))
        refine ⟨⟨zext.rf, hP1, va_K.moved hW.alike hK, hD0.self, hoH, Nat.le_refl _⟩, by rw [ht]; exact hS.1, fun q q1 q2 => ?_⟩
        rw [ht]
        exact hS.2.1 q q1 (Nat.not_le.mpr q1)
      have hfree : ∀ {H1 : Heap} {locs : List Loc}, va_S (fun q : Nat => s.heap.size ≤ q) s.heap H1 locs → ∀ q ∈ locs, va_A (zws tc ad h) s.heap.size q.base := fun hS q hq => Or.inr (hS.2.2 q hq)
      have hl := lv_entry ([.ref (ad k)]) (n := 1) (Nat.le_of_ble_eq_true rfl)
      show W p l e _ s m _ below meth c s.heap [] 0 0 _ (entryFrame m ([.ref (ad k)] : List Value).toArray 1)
      rw [lg_entry_eq]
      generalize (lg_sl ([.ref (ad k)]) ++ List.replicate (1 - (lg_sl ([.ref (ad k)])).length) Slot.unset).toArray = ls at hl ⊢
      have hl : lv_has ls 1 [(0, .ref (ad k))] := hl
      refine vx_ret ?_
      refine lv_aload_n hx hb dQf_0 rfl (lv_at hl 0 rfl) ?_
      refine vk_getf hx hb k3 hS hown (hts _ (zq_in (i := 11) rfl)) (fun _ h9 => h9) dQf_1 ?_
      refine va_tlen hx hb k4 hS (v := nI (zkw (k - 1000000)).length) rfl dQf_4 ?_
      refine lv_aload_n hx hb dQf_5 rfl (lv_at hl 0 rfl) ?_
      refine va_calli (va_runV (As := []) (b := ad k) (rest := [.int (nI (zkw (k - 1000000)).length)]) ⟨hx, hb, hml, hown, hts⟩ (cq_cod s.heap.size (ad k)) (cwV (C := RJ0) (bytes := cJ0_coder_7d493) (maxL := 1) (ret := some .byte) 0 hts (gT_good (gT_app (zq_c1 (zq_in (i := 12) rfl) (zq_c1 (zq_in (i := 13) rfl) (zq_c1 (zq_in (i := 14) rfl) (zq_c1 (zq_in (i := 7) rfl) zq_c0)))) (zq_gd (i := 15) rfl))) rfl rfl rfl ⟨rfl, by decide +kernel, by decide +kernel, by decide +kernel⟩ ⟨Nat.le_of_ble_eq_true rfl, Nat.le_of_ble_eq_true rfl⟩) ⟨fun a U g mk q => ⟨q.1, q.2.1, va_Z.moved (u := U) (U := U.calling g mk a) (Vm.Alike.refl U.vm) q.2.2.1, va_OF.moved (u := U) (U := U.calling g mk a) (Vm.Alike.refl U.vm) q.2.2.2⟩, hrec hS, fun U hU hW => ⟨rfl, by rw [hU], by rw [hU]; exact k5.moved hW.alike, by rw [hU]; exact k2.moved hW.alike⟩⟩ rfl rfl hl.1 rfl (lv_room (Nat.le_of_ble_eq_true rfl)) dQf_6 ⟨Nat.zero_le _, Nat.zero_le _⟩) hS (fun q h1 h2 => absurd h1 (Nat.not_lt.mpr h2)) (fun q h => h) (fun r u t H1 locs ht hvm hw hB hz1 hk1 hS => ?_)
      subst hw
      refine lv_ishr hx hb dQf_9 ?_
      refine W.eq (g2 := F0 m 10 ls [.int (nI (zkw (k - 1000000)).length)]) (by rw [zq_shr]) ?_
      exact W.iret hx hb hr (fun t ht hW => ⟨⟨ad, rfl, (hend hS t ht hW).1, fun w hw => by cases hw; trivial⟩, (hend hS t ht hW).2⟩) (hfree hS) dQf_10
    · cases h9
  · unfold sJ0_length_8abf5 at h9
    split at h9
    · split at h9 <;> cases h9
    · cases h9
set_option maxHeartbeats 4000000 in
theorem tJ0_charAt_5068e {l : Launch} (hlt : l.stackTraces = false) : MetA l mJ0_charAt_5068e sJ0_charAt_5068e := by
  intro D tc ad h sz av hoH hoS
  refine ⟨fun v h2 h9 => ?_, fun x h2 h9 => ?_⟩
  · unfold sJ0_charAt_5068e at h9
    split at h9
    · rename_i k i
      split at h9
      case isFalse => cases h9
      rename_i hk9
      obtain ⟨⟨hk1, hk2⟩, hi⟩ := hk9
      obtain ⟨kl, kc⟩ := zkw_ok (k - 1000000) (zq_k hk1 hk2)
      obtain ⟨kc1, kc2⟩ := kc i.toNatClampNeg (Nat.not_le.mp (fun q => hi (Or.inr q)))
      obtain ⟨x, hx8⟩ : ∃ x, x = (zkw (k - 1000000)).getD i.toNatClampNeg 0 := ⟨_, rfl⟩
      rw [← hx8] at h9 kc1 kc2
      cases h9
      refine vx_ofW (cc := cJ0_charAt_5068e) (maxL := 2) (ret := some .char) (ws' := gT) (by decide +kernel) rfl ?_
      intro p e s m args below meth c s₁ B hml hno hpc
      obtain ⟨rfl, hsz, hP, hK, hD0, hRO⟩ := hpc
      have hx := B.exec
      have hb := B.bytes
      have hr := B.returns
      have hlocks := B.notSynchronized
      have hts0 : ∀ w ∈ zmWs mJ0_charAt_5068e, w.before _ s = true := atoms_spec (ws := zmWs mJ0_charAt_5068e) B.pre
      have hts : ∀ w ∈ gT, w.before _ s = true := fun w hw => hts0 w (List.mem_cons_of_mem _ hw)
      have hown : s.vm.findClass RJ0 = some m.cls := findClass_of_methodNamed B.named
      subst hsz
      obtain ⟨b, k1, k2, k3, k4, k5, k6⟩ := zkw_S hRO (B := (fun q : Nat => s.heap.size ≤ q)) (fun q hq => Or.inr hq) hk1 hk2
      have hS : va_S (fun q : Nat => s.heap.size ≤ q) s.heap s.heap [] := va_S.rf
      have hrec : ∀ {H1 : Heap} {locs : List Loc}, va_S (fun q : Nat => s.heap.size ≤ q) s.heap H1 locs → ∃ cell : Cell, H1[ad k]? = some cell ∧ cell.vm.isStatics = false ∧ s.vm.findClass "java/lang/String" = some cell.cls := fun hS => by
        obtain ⟨cell, q1, q2, q3, -⟩ := k1.kept hS.2.1
        exact ⟨cell, q1, q2, q3⟩
      have hend : ∀ {H1 : Heap} {locs : List Loc}, va_S (fun q : Nat => s.heap.size ≤ q) s.heap H1 locs → ∀ t : State, t.heap = H1 → s.WarmedH t.vm → zPst D tc ad h s.heap.size ad h t ∧ va_F (va_A (zws tc ad h) s.heap.size) s t := fun hS t ht hW => by
        have hP1 : va_P D vwCl (zws tc ad h) t.heap := by
          rw [ht]
          exact hP.kept (fun k q hq => hS.2.1 q.1 ((hP k q hq).lt) (Nat.not_le.mpr ((hP k q hq).lt)))
        refine ⟨⟨zext.rf, hP1, va_K.moved hW.alike hK, hD0.self, hoH, Nat.le_refl _⟩, by rw [ht]; exact hS.1, fun q q1 q2 => ?_⟩
        rw [ht]
        exact hS.2.1 q q1 (Nat.not_le.mpr q1)
      have hfree : ∀ {H1 : Heap} {locs : List Loc}, va_S (fun q : Nat => s.heap.size ≤ q) s.heap H1 locs → ∀ q ∈ locs, va_A (zws tc ad h) s.heap.size q.base := fun hS q hq => Or.inr (hS.2.2 q hq)
      have hl := lv_entry ([.ref (ad k), .int i]) (n := 2) (Nat.le_of_ble_eq_true rfl)
      show W p l e _ s m _ below meth c s.heap [] 0 0 _ (entryFrame m ([.ref (ad k), .int i] : List Value).toArray 2)
      rw [lg_entry_eq]
      generalize (lg_sl ([.ref (ad k), .int i]) ++ List.replicate (2 - (lg_sl ([.ref (ad k), .int i])).length) Slot.unset).toArray = ls at hl ⊢
      have hl : lv_has ls 2 [(0, .ref (ad k)), (1, .int i)] := hl
      refine vx_ret ?_
      refine lv_aload_n hx hb dQg_0 rfl (lv_at hl 0 rfl) ?_
      refine va_calli (va_runV (As := []) (b := ad k) (rest := []) ⟨hx, hb, hml, hown, hts⟩ (cq_lat s.heap.size (ad k)) (cwV (C := RJ0) (bytes := cJ0_isLatin1_aae02) (maxL := 1) (ret := some .boolean) 0 hts (gT_good (gT_app (zq_c1 (zq_in (i := 16) rfl) (zq_c1 (zq_in (i := 17) rfl) (zq_c1 (zq_in (i := 18) rfl) (zq_c1 (zq_in (i := 7) rfl) zq_c0)))) (zq_gd (i := 19) rfl))) rfl rfl rfl ⟨rfl, by decide +kernel, by decide +kernel, by decide +kernel⟩ ⟨Nat.le_of_ble_eq_true rfl, Nat.le_of_ble_eq_true rfl⟩) ⟨fun a U g mk q => ⟨q.1, q.2.1, va_Z.moved (u := U) (U := U.calling g mk a) (Vm.Alike.refl U.vm) q.2.2.1, va_OF.moved (u := U) (U := U.calling g mk a) (Vm.Alike.refl U.vm) q.2.2.2⟩, hrec hS, fun U hU hW => ⟨rfl, by rw [hU], by rw [hU]; exact k5.moved hW.alike, by rw [hU]; exact k2.moved hW.alike⟩⟩ rfl rfl hl.1 rfl (lv_room (Nat.le_of_ble_eq_true rfl)) dQg_1 ⟨Nat.zero_le _, Nat.zero_le _⟩) hS (fun q h1 h2 => absurd h1 (Nat.not_lt.mpr h2)) (fun q h => h) (fun r u t H1 locs ht hvm hw hB hz1 hk1 hS => ?_)
      subst hw
      refine lv_if_eq (tgt := 16) hx hb dQg_4 (by decide) (fun q => absurd q (by decide)) (fun _ => ?_)
      refine lv_aload_n hx hb dQg_7 rfl (lv_at hl 0 rfl) ?_
      refine vk_getf hx hb k3 hS hown (hts _ (zq_in (i := 11) rfl)) (fun _ h9 => h9) dQg_8 ?_
      refine lv_iload_n hx hb dQg_11 rfl (lv_at hl 1 rfl) ?_
      refine va_calli (va_runS (As := [.ref b, .int i]) (rest := []) ⟨hx, hb, hml, hown, hts⟩ (cq_lch H1.size b (zkw (k - 1000000)) i x kl hi hx8.symm kc1 kc2) (va_cwS (bytes := cJ1_charAt_3b067) (maxL := 2) (ret := some .char) 2 hts (gT_good (gT_app (zq_c1 (zq_in (i := 20) rfl) (zq_c1 (zq_in (i := 21) rfl) (zq_c1 (zq_in (i := 22) rfl) zq_c0))) (zq_gd (i := 23) rfl))) rfl rfl rfl ⟨by decide +kernel, by decide +kernel, by decide +kernel⟩ ⟨Nat.le_of_ble_eq_true rfl, Nat.le_of_ble_eq_true rfl⟩) ⟨fun a U g mk q => ⟨q.1, q.2.1, va_Zq.moved (u := U) (U := U.calling g mk a) (Vm.Alike.refl U.vm) q.2.2.1, va_T.moved (u := U) (U := U.calling g mk a) (Vm.Alike.refl U.vm) q.2.2.2⟩, fun U hU hW => ⟨rfl, by rw [hU], by rw [hU]; exact ((k6.kept hS.2.1).narrow (fun q hq => Nat.le_trans hz1 hq)).moved hW.alike, by rw [hU]; exact ((k4.kept hS.2.1).narrow (fun q hq => Nat.le_trans hz1 hq)).moved hW.alike⟩⟩ rfl rfl hl.1 rfl (lv_room (Nat.le_of_ble_eq_true rfl)) dQg_12 ⟨Nat.zero_le _, Nat.zero_le _⟩) hS (fun q h1 h2 => absurd h1 (Nat.not_lt.mpr h2)) (fun q h => Nat.le_trans hz1 h) (fun r u t H2 locs2 ht hvm hw hB hz2 hk2 hS => ?_)
      subst hw
      exact W.zret hx hb hr kc2 (fun t ht hW => ⟨⟨ad, rfl, (hend hS t ht hW).1, fun w hw => by cases hw; trivial⟩, (hend hS t ht hW).2⟩) (hfree hS) dQg_15
    · cases h9
  · unfold sJ0_charAt_5068e at h9
    split at h9
    · split at h9 <;> cases h9
    · cases h9
end ZSU
