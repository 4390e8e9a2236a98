/-! THE WORLD AT THE LAW'S ENTRY (written by wip/whole/gen99l.py). -/
section ZWO
abbrev zw_F : List Cond := flatC (Jvm.Cond.and given_1 narrow_1)
variable {s : State} {args : Array Value}
theorem zw_arr {ty : FieldType} (h : (Cond.arrayClass ty).before args s = true) : ∃ c : ClassId, ArrOfT s c ty ∧ s.vm.findClass ("[" ++ ty.toString) = some c := by
  obtain ⟨c, k, comp, h1, h2, h3⟩ := Cond.arrayClass_spec h
  exact ⟨c, fun n z => ⟨(fun k h => by cases h), k, h2, comp, h3⟩, h1⟩
set_option maxHeartbeats 4000000 in
theorem zw_K (hts : ∀ w ∈ lw_tbl, w.before args s = true) : ∃ (D : va_G) (tc : Nat → ClassId), va_K D vwCl (ztys tc) s := by
  have hg : ∀ w ∈ gT, w.before args s = true := fun w hw => hts w (List.mem_filter.mp hw).1
  obtain ⟨c0, i0, k0⟩ := u_known (C := RX0) (T := TX0) (N := 2) (n := 2) hg zcin0 (hts (.instantiable RX0 2) (by decide +kernel))
  obtain ⟨c1, i1, k1⟩ := u_known (C := RX1) (T := TX1) (N := 3) (n := 3) hg zcin1 (hts (.instantiable RX1 3) (by decide +kernel))
  obtain ⟨c2, i2, k2⟩ := u_known (C := RX2) (T := TX2) (N := 15) (n := 15) hg zcin2 (hts (.instantiable RX2 15) (by decide +kernel))
  obtain ⟨c3, i3, k3⟩ := u_known (C := RX3) (T := TX3) (N := 9) (n := 9) hg zcin3 (hts (.instantiable RX3 9) (by decide +kernel))
  obtain ⟨c4, i4, k4⟩ := u_known (C := RX4) (T := TX4) (N := 7) (n := 7) hg zcin4 (hts (.instantiable RX4 7) (by decide +kernel))
  obtain ⟨c5, i5, k5⟩ := u_known (C := RX5) (T := TX5) (N := 12) (n := 12) hg zcin5 (hts (.instantiable RX5 12) (by decide +kernel))
  obtain ⟨c6, i6, k6⟩ := u_known (C := RX6) (T := TX6) (N := 27) (n := 27) hg zcin6 (hts (.instantiable RX6 27) (by decide +kernel))
  obtain ⟨t0, p0, q0⟩ := zw_arr (hts (.arrayClass .int) (by decide +kernel))
  obtain ⟨t1, p1, q1⟩ := zw_arr (hts (.arrayClass .long) (by decide +kernel))
  obtain ⟨t2, p2, q2⟩ := zw_arr (hts (.arrayClass .byte) (by decide +kernel))
  obtain ⟨t3, p3, q3⟩ := zw_arr (hts (.arrayClass .boolean) (by decide +kernel))
  obtain ⟨t4, p4, q4⟩ := zw_arr (hts (.arrayClass .double) (by decide +kernel))
  obtain ⟨comp, t5, kA, g1, -, g2, g3, g4⟩ := Cond.arrayOver_spec (hts (.arrayOver (.object "KeyTour$Level")) (by decide +kernel))
  have p5 : ArrOfT s t5 (.object "KeyTour$Level") := fun n z => ⟨(fun k h => by cases h), kA, g2, comp, g3⟩
  refine ⟨(fun k => match k with | 0 => c0 | 1 => c1 | 2 => c2 | 3 => c3 | 4 => c4 | 5 => c5 | _ => c6, fun k => match k with | 0 => i0 | 1 => i1 | 2 => i2 | 3 => i3 | 4 => i4 | 5 => i5 | _ => i6), fun k => match k with | 0 => t0 | 1 => t1 | 2 => t2 | 3 => t3 | 4 => t4 | _ => t5, fun k q hq => ?_, fun k q hq => ?_⟩
  · match k, hq with
    | 0, hq => cases hq; exact k0
    | 1, hq => cases hq; exact k1
    | 2, hq => cases hq; exact k2
    | 3, hq => cases hq; exact k3
    | 4, hq => cases hq; exact k4
    | 5, hq => cases hq; exact k5
    | 6, hq => cases hq; exact k6
    | k + 7, hq => cases hq
  · match k, hq with
    | 0, hq => cases hq; exact ⟨p0, q0⟩
    | 1, hq => cases hq; exact ⟨p1, q1⟩
    | 2, hq => cases hq; exact ⟨p2, q2⟩
    | 3, hq => cases hq; exact ⟨p3, q3⟩
    | 4, hq => cases hq; exact ⟨p4, q4⟩
    | 5, hq => cases hq; exact ⟨p5, kA, comp, g2, g3, g1, g4⟩
    | k + 6, hq => cases hq
theorem zw_ot {w : Cond} (h : zspc w = true) : w.onTables = true := by
  unfold zspc at h
  split at h <;> first | rfl | cases h
set_option maxRecDepth 100000 in
theorem zw_sr : ∀ q ∈ zstr, Cond.stringRef q.1 q.2.1 q.2.2 ∈ lw_tbl := by decide +kernel
set_option maxRecDepth 100000 in
theorem zw_ex : ∀ q ∈ zstr, Cond.exactly (.string q.1 q.2.1) "java/lang/String" ∈ zw_F := by decide +kernel
set_option maxRecDepth 100000 in
theorem zw_nc : ∀ q ∈ zexs, Cond.not (.castable (zex q.1) (zex q.2)) ∈ zw_F := by decide +kernel
abbrev zw_v (ix : Nat) : Term := .field (.string "KeyTourModel" ix) "java/lang/String" "value" "[B"
theorem zw_kw (hfl : ∀ w ∈ zw_F, w.before args s = true) {A : Nat → Prop} (hA : ∀ a : Nat, a < s.heap.size → ¬ A a) (x ix : Nat) (bs : List Int32) (hlen : bs.length < 2 ^ 31) (hex : Cond.exactly (.string "KeyTourModel" ix) "java/lang/String" ∈ zw_F) (hco : Cond.eq (.field (.string "KeyTourModel" ix) "java/lang/String" "coder" "B") (.int 0) ∈ zw_F) (har : Cond.arrayOf (zw_v ix) .byte ∈ zw_F)
    (hle : Cond.eq (.length (zw_v ix)) (.int (Int32.ofNat bs.length)) ∈ zw_F) (hel : ∀ j, j < bs.length → Cond.eq (.elem (zw_v ix) (.int (Int32.ofNat j))) (.int (bs.getD j 0)) ∈ zw_F) (hx : (Term.string "KeyTourModel" ix).eval args s none [] s = some (.ref x)) : ∃ v : Nat, vk_S 1 [bs.length] [bs] (fun _ => x) (fun _ => v) A s s.heap := by
  have z : ∀ i, i < 1 → i = 0 := fun i h => by omega
  obtain ⟨adK, adV, h1, h2⟩ := vk_Sof (args := args) (s := s) (N := 1) (tm := fun _ => .string "KeyTourModel" ix) (len := [bs.length]) (byt := [bs]) (A := A) (fun i hi => by rw [z i hi]; exact hlen) (fun i hi => hfl _ hex) (fun i hi => hfl _ hco) (fun i hi => hfl _ har) (fun i hi => by rw [z i hi]; exact hfl _ hle) (fun i hi j hj => by rw [z i hi] at hj ⊢; exact hfl _ (hel j hj)) (fun i j hi hj hn => absurd ((z i hi).trans (z j hj).symm) hn) hA
  have e : adK 0 = x := by
    have h3 := (h2 0 (by omega)).symm.trans hx
    exact Value.ref.inj (Option.some.inj h3)
  refine ⟨adV 0, fun i hi => ?_, fun i j hi hj _ => (z i hi).trans (z j hj).symm⟩
  rw [z i hi]
  have h4 := h1.1 0 (by omega)
  rw [e] at h4
  exact h4
set_option maxHeartbeats 4000000 in
theorem zw_RO (hts : ∀ w ∈ lw_tbl, w.before args s = true) (hfl : ∀ w ∈ zw_F, w.before args s = true) (b : Nat) : ∃ ad : Nat → Nat, ad 2000000 = b ∧ zRO (fun q : Nat => s.heap.size ≤ q) ad s s.heap := by
  have hA : ∀ a : Nat, a < s.heap.size → ¬ (fun q : Nat => s.heap.size ≤ q) a := fun a h => Nat.not_le.mpr h
  have hS : ∀ k : Nat, ∃ a : Nat, ∀ q : String × Nat × String, zstr[k]? = some q → (Term.string q.1 q.2.1).eval args s none [] s = some (.ref a) := by
    intro k
    cases hq : zstr[k]? with
    | none => exact ⟨0, fun q h => by cases h⟩
    | some q =>
      obtain ⟨a, c, cA, kA, q1, -⟩ := Cond.exactly_spec (args := args) (first := s) (o := none) (s := s) (idx := []) (t := .string q.1 q.2.1) (cls := "java/lang/String") (hfl _ (zw_ex q (List.mem_of_getElem? hq)))
      exact ⟨a, fun q' h => by cases h; exact q1⟩
  obtain ⟨a, ha⟩ := Classical.axiomOfChoice hS
  have hV : ∀ k : Nat, ∃ v : Nat, k < 8 → vk_S 1 [(zkey.getD k []).length] [zkey.getD k []] (fun _ => a k) (fun _ => v) (fun q : Nat => s.heap.size ≤ q) s s.heap := by
    intro k
    match k with
    | 0 =>
      obtain ⟨v, hv⟩ := zw_kw hfl hA (a 0) 231 [114, 111, 111, 109] (by decide) (by decide +kernel) (by decide +kernel) (by decide +kernel) (by decide +kernel) (by decide +kernel) (ha 0 _ rfl)
      exact ⟨v, fun _ => hv⟩
    | 1 =>
      obtain ⟨v, hv⟩ := zw_kw hfl hA (a 1) 233 [107, 101, 121] (by decide) (by decide +kernel) (by decide +kernel) (by decide +kernel) (by decide +kernel) (by decide +kernel) (ha 1 _ rfl)
      exact ⟨v, fun _ => hv⟩
    | 2 =>
      obtain ⟨v, hv⟩ := zw_kw hfl hA (a 2) 235 [99, 111, 105, 110, 115] (by decide) (by decide +kernel) (by decide +kernel) (by decide +kernel) (by decide +kernel) (by decide +kernel) (ha 2 _ rfl)
      exact ⟨v, fun _ => hv⟩
    | 3 =>
      obtain ⟨v, hv⟩ := zw_kw hfl hA (a 3) 237 [100, 111, 111, 114] (by decide) (by decide +kernel) (by decide +kernel) (by decide +kernel) (by decide +kernel) (by decide +kernel) (ha 3 _ rfl)
      exact ⟨v, fun _ => hv⟩
    | 4 =>
      obtain ⟨v, hv⟩ := zw_kw hfl hA (a 4) 239 [116, 111, 108, 108] (by decide) (by decide +kernel) (by decide +kernel) (by decide +kernel) (by decide +kernel) (by decide +kernel) (ha 4 _ rfl)
      exact ⟨v, fun _ => hv⟩
    | 5 =>
      obtain ⟨v, hv⟩ := zw_kw hfl hA (a 5) 241 [111, 110, 101, 119, 97, 121] (by decide) (by decide +kernel) (by decide +kernel) (by decide +kernel) (by decide +kernel) (by decide +kernel) (ha 5 _ rfl)
      exact ⟨v, fun _ => hv⟩
    | 6 =>
      obtain ⟨v, hv⟩ := zw_kw hfl hA (a 6) 243 [115, 116, 97, 114, 116] (by decide) (by decide +kernel) (by decide +kernel) (by decide +kernel) (by decide +kernel) (by decide +kernel) (ha 6 _ rfl)
      exact ⟨v, fun _ => hv⟩
    | 7 =>
      obtain ⟨v, hv⟩ := zw_kw hfl hA (a 7) 244 [101, 110, 100] (by decide) (by decide +kernel) (by decide +kernel) (by decide +kernel) (by decide +kernel) (by decide +kernel) (ha 7 _ rfl)
      exact ⟨v, fun _ => hv⟩
    | k + 8 => exact ⟨0, fun h => absurd h (by omega)⟩
  obtain ⟨adV, hadV⟩ := Classical.axiomOfChoice hV
  have e : ∀ k, k < 1000000 → (fun k : Nat => if k = 2000000 then b else a (k - 1000000)) (1000000 + k) = a k := by
    intro k hk
    show (if 1000000 + k = 2000000 then b else a (1000000 + k - 1000000)) = a k
    rw [if_neg (by omega), Nat.add_sub_cancel_left]
  refine ⟨fun k => if k = 2000000 then b else a (k - 1000000), if_pos rfl, fun w hw hz => va_Nw.of (zw_ot hz) (hts w hw), fun k q hq => ?_, ⟨adV, fun k hk => ?_⟩, ⟨?_, ?_⟩, ?_, ?_, ?_, fun q hq => va_Nc.of (hfl _ (zw_nc q hq))⟩
  · have h1 := (List.getElem?_eq_some_iff.mp hq).1
    have h2 : zstr.length = 29 := rfl
    rw [e k (by omega)]
    exact vk_R.of (hts _ (zw_sr q (List.mem_of_getElem? hq))) (ha k q hq)
  · rw [e k (by omega)]
    exact hadV k hk
  · exact va_Zof (hts (.laysStatic "java/lang/String" "COMPACT_STRINGS" "Z") (by decide +kernel)) (hts (.initialized "java/lang/String") (by decide +kernel)) (va_eqt (hfl (.eq (.static "java/lang/String" "COMPACT_STRINGS" "Z") (.int 1)) (by decide +kernel))) hA
  · exact va_Zqof (hts (.laysStatic "jdk/internal/util/Preconditions" "SIOOBE_FORMATTER" "Ljava/util/function/BiFunction;") (by decide +kernel)) (hts (.initialized "jdk/internal/util/Preconditions") (by decide +kernel)) (hfl (.isRef (.static "jdk/internal/util/Preconditions" "SIOOBE_FORMATTER" "Ljava/util/function/BiFunction;")) (by decide +kernel)) hA
  · exact vx_Zqof (hts (.laysStatic Bundle.tN "UNASSIGNED_STACK" Bundle.steD) (by decide +kernel)) (hts (.initialized Bundle.tN) (by decide +kernel)) (hfl (.isRef (.static Bundle.tN "UNASSIGNED_STACK" Bundle.steD)) (by decide +kernel)) hA
  · exact vx_Zqof (hts (.laysStatic Bundle.tN "SUPPRESSED_SENTINEL" Bundle.listD) (by decide +kernel)) (hts (.initialized Bundle.tN) (by decide +kernel)) (hfl (.isRef (.static Bundle.tN "SUPPRESSED_SENTINEL" Bundle.listD)) (by decide +kernel)) hA
  · exact va_AO.of (hts (.arrayOver (.object "KeyTour$Level")) (by decide +kernel))
end ZWO
