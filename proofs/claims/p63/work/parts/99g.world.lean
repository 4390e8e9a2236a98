/-! THE WORLD AT THE LAW'S ENTRY. -/
section ZWO
abbrev zw_F : List Cond := flatC (Jvm.Cond.and given_1 narrow_1)
variable {s : State} {args : Array Value}
theorem zw_arr {ty : FieldType} (h : (Cond.arrayClass ty).before args s = true) : ∃ c : ClassId, ArrOfT s c ty ∧ s.vm.findClass ("[" ++ ty.toString) = some c := by
  obtain ⟨c, k, comp, h1, h2, h3⟩ := Cond.arrayClass_spec h
  exact ⟨c, fun n z => ⟨(fun k h => by cases h), k, h2, comp, h3⟩, h1⟩
/-- a private method of the builder's class is what its heir selects: that class is no interface, for it is selected for another method -/
theorem zw_one {y z : MethodName} (hz : z.cls = y.cls) (hy : y.cls ≠ "java/lang/invoke/MethodHandle" ∧ y.cls ≠ "java/lang/invoke/VarHandle") (hw : (Cond.selects RJ4 z z).before args s = true) (hp : (Cond.privateMethod y).before args s = true) (hi : (Cond.instanceMethod y).before args s = true) : (Cond.selects RJ4 y y).before args s = true := by
  obtain ⟨c, r, m2, h1, h2, h3, h4, mk, h5, h6⟩ := Cond.selects_spec hw
  obtain ⟨my, methM, hnamed, hmethM, -, -⟩ := Cond.instanceMethod_spec hi
  have hfound : s.methodFound? y.cls y.name y.desc = some my := State.methodFound?_of_named hnamed hy
  have e1 := findClass_of_methodNamed hnamed
  have e2 := findClass_of_methodNamed h3
  rw [hz] at e2
  have e3 : m2.cls = my.cls := Option.some.inj (e2.symm.trans e1)
  have hsel : selectMethod {} s.vm c my = .method my := selectMethod_private hmethM (Cond.privateMethod_at hp my methM hnamed hmethM)
  rw [e3] at h5
  simp only [Cond.before, Cond.holds, Cond.value, h1, hfound, hnamed, hsel, h5]
  simp; exact h6
theorem zw_tb (hts : ∀ w ∈ lw_tbl, w.before args s = true) : ∀ w ∈ zw_tbl, w.before args s = true := by
  have q : ∀ y ∈ zw_pv, yJ5_isLatin1_aae02.cls = y.cls ∧ (y.cls ≠ "java/lang/invoke/MethodHandle" ∧ y.cls ≠ "java/lang/invoke/VarHandle") ∧ Cond.privateMethod y ∈ lw_tbl ∧ Cond.instanceMethod y ∈ lw_tbl := by decide +kernel
  have l : Cond.selects RJ4 yJ5_isLatin1_aae02 yJ5_isLatin1_aae02 ∈ lw_tbl := by decide +kernel
  intro w hw
  unfold zw_tbl at hw
  rcases List.mem_append.mp hw with hw | hw
  · obtain ⟨y, hy, rfl⟩ := List.mem_map.mp hw
    obtain ⟨a, b, c, d⟩ := q y hy
    exact zw_one a b (hts _ l) (hts _ c) (hts _ d)
  · exact hts w hw
set_option maxHeartbeats 4000000 in
theorem zw_K (hts : ∀ w ∈ lw_tbl, w.before args s = true) : ∃ (D : va_G) (tc : Nat → ClassId), va_K D vwCl (ztys tc) s := by
  have hg : ∀ w ∈ gT, w.before args s = true := fun w hw => zw_tb hts w (List.mem_filter.mp hw).1
  obtain ⟨c0, i0, k0⟩ := u_known (C := RX0) (T := TX0) (N := 2) (n := 2) hg zcin0 (hts (.instantiable RX0 2) (by decide +kernel))
  obtain ⟨c1, i1, k1⟩ := u_known (C := RX1) (T := TX1) (N := 3) (n := 3) hg zcin1 (hts (.instantiable RX1 3) (by decide +kernel))
  obtain ⟨c2, i2, k2⟩ := u_known (C := RX2) (T := TX2) (N := 15) (n := 15) hg zcin2 (hts (.instantiable RX2 15) (by decide +kernel))
  obtain ⟨c3, i3, k3⟩ := u_known (C := RX3) (T := TX3) (N := 9) (n := 9) hg zcin3 (hts (.instantiable RX3 9) (by decide +kernel))
  obtain ⟨c4, i4, k4⟩ := u_known (C := RX4) (T := TX4) (N := 7) (n := 7) hg zcin4 (hts (.instantiable RX4 7) (by decide +kernel))
  obtain ⟨c5, i5, k5⟩ := u_known (C := RX5) (T := TX5) (N := 12) (n := 12) hg zcin5 (hts (.instantiable RX5 12) (by decide +kernel))
  obtain ⟨c6, i6, k6⟩ := u_known (C := RJ4) (T := TJ4) (N := 4) (n := 4) hg zcin6 (hts (.instantiable RJ4 4) (by decide +kernel))
  obtain ⟨c7, i7, k7⟩ := u_known (C := RJ0) (T := TJ0) (N := 4) (n := 4) hg zcin7 (hts (.instantiable RJ0 4) (by decide +kernel))
  obtain ⟨t0, p0, q0⟩ := zw_arr (hts (.arrayClass .int) (by decide +kernel))
  obtain ⟨t1, p1, q1⟩ := zw_arr (hts (.arrayClass .long) (by decide +kernel))
  obtain ⟨t2, p2, q2⟩ := zw_arr (hts (.arrayClass .byte) (by decide +kernel))
  obtain ⟨t3, p3, q3⟩ := zw_arr (hts (.arrayClass .boolean) (by decide +kernel))
  obtain ⟨comp, t5, kA, g1, -, g2, g3, g4⟩ := Cond.arrayOver_spec (hts (.arrayOver (.object "KeyTour$Level")) (by decide +kernel))
  have p5 : ArrOfT s t5 (.object "KeyTour$Level") := fun n z => ⟨(fun k h => by cases h), kA, g2, comp, g3⟩
  refine ⟨(fun k => match k with | 0 => c0 | 1 => c1 | 2 => c2 | 3 => c3 | 4 => c4 | 5 => c5 | 6 => c6 | _ => c7, fun k => match k with | 0 => i0 | 1 => i1 | 2 => i2 | 3 => i3 | 4 => i4 | 5 => i5 | 6 => i6 | _ => i7), fun k => match k with | 0 => t0 | 1 => t1 | 2 => t2 | 3 => t3 | 4 => t3 | _ => t5, fun k q hq => ?_, fun k q hq => ?_⟩
  · match k, hq with
    | 0, hq => cases hq; exact k0
    | 1, hq => cases hq; exact k1
    | 2, hq => cases hq; exact k2
    | 3, hq => cases hq; exact k3
    | 4, hq => cases hq; exact k4
    | 5, hq => cases hq; exact k5
    | 6, hq => cases hq; exact k6
    | 7, hq => cases hq; exact k7
    | k + 8, hq => cases hq
  · match k, hq with
    | 0, hq => cases hq; exact ⟨p0, q0⟩
    | 1, hq => cases hq; exact ⟨p1, q1⟩
    | 2, hq => cases hq; exact ⟨p2, q2⟩
    | 3, hq => cases hq; exact ⟨p3, q3⟩
    | 4, hq => cases hq; exact ⟨p3, q3⟩
    | 5, hq => cases hq; exact ⟨p5, kA, comp, g2, g3, g1, g4⟩
    | k + 6, hq => cases hq
theorem zw_ot {w : Cond} (h : zspc w = true) : w.onTables = true := by
  unfold zspc at h
  split at h <;> first | rfl | cases h
set_option maxRecDepth 100000 in
theorem zw_sr : ∀ q ∈ zstr, Cond.stringRef q.1 q.2.1 q.2.2 ∈ lw_tbl := by decide +kernel
set_option maxRecDepth 100000 in
theorem zw_ex : ∀ q ∈ zstr, Cond.exactly (.string q.1 q.2.1) "java/lang/String" ∈ zw_F := by decide +kernel
set_option maxRecDepth 100000 in
theorem zw_nc : ∀ q ∈ zexs, Cond.not (.castable (zex q.1) (zex q.2)) ∈ zw_F := by decide +kernel
def zw_ix : List Nat := [47, 58, 63, 65, 67, 69, 71, 73, 75, 77]
abbrev zw_v (ix : Nat) : Term := .field (.string "KeyTourLaw" ix) "java/lang/String" "value" "[B"
set_option maxRecDepth 100000 in
theorem zw_w1 : ∀ k, k < 10 → Cond.exactly (.string "KeyTourLaw" (zw_ix.getD k 0)) "java/lang/String" ∈ zw_F ∧ Cond.eq (.field (.string "KeyTourLaw" (zw_ix.getD k 0)) "java/lang/String" "coder" "B") (.int 0) ∈ zw_F ∧ Cond.arrayOf (zw_v (zw_ix.getD k 0)) .byte ∈ zw_F ∧ Cond.eq (.length (zw_v (zw_ix.getD k 0))) (.int (Int32.ofNat (zkey.getD k []).length)) ∈ zw_F := by decide +kernel
set_option maxRecDepth 100000 in
theorem zw_w2 : ∀ k, k < 10 → ∀ j, j < (zkey.getD k []).length → Cond.eq (.elem (zw_v (zw_ix.getD k 0)) (.int (Int32.ofNat j))) (.int ((zkey.getD k []).getD j 0)) ∈ zw_F := by decide +kernel
theorem zw_s1 : ∀ k, k < 10 → ∃ t, zstr[k]? = some ("KeyTourLaw", zw_ix.getD k 0, t) := fun k hk => match k, hk with
  | 0, _ => ⟨_, rfl⟩ | 1, _ => ⟨_, rfl⟩ | 2, _ => ⟨_, rfl⟩ | 3, _ => ⟨_, rfl⟩ | 4, _ => ⟨_, rfl⟩ | 5, _ => ⟨_, rfl⟩ | 6, _ => ⟨_, rfl⟩ | 7, _ => ⟨_, rfl⟩ | 8, _ => ⟨_, rfl⟩ | 9, _ => ⟨_, rfl⟩
theorem zw_l1 : ∀ k, k < 10 → (zkey.getD k []).length < 2 ^ 31 := by decide +kernel
theorem zw_kw (hfl : ∀ w ∈ zw_F, w.before args s = true) {A : Nat → Prop} (hA : ∀ a : Nat, a < s.heap.size → ¬ A a) (x ix : Nat) (bs : List Int32) (hlen : bs.length < 2 ^ 31) (hex : Cond.exactly (.string "KeyTourLaw" ix) "java/lang/String" ∈ zw_F) (hco : Cond.eq (.field (.string "KeyTourLaw" ix) "java/lang/String" "coder" "B") (.int 0) ∈ zw_F) (har : Cond.arrayOf (zw_v ix) .byte ∈ zw_F)
    (hle : Cond.eq (.length (zw_v ix)) (.int (Int32.ofNat bs.length)) ∈ zw_F) (hel : ∀ j, j < bs.length → Cond.eq (.elem (zw_v ix) (.int (Int32.ofNat j))) (.int (bs.getD j 0)) ∈ zw_F) (hx : (Term.string "KeyTourLaw" ix).eval args s none [] s = some (.ref x)) : ∃ v : Nat, vk_S 1 [bs.length] [bs] (fun _ => x) (fun _ => v) A s s.heap := by
  have z : ∀ i, i < 1 → i = 0 := fun i h => by omega
  obtain ⟨adK, adV, h1, h2⟩ := vk_Sof (args := args) (s := s) (N := 1) (tm := fun _ => .string "KeyTourLaw" ix) (len := [bs.length]) (byt := [bs]) (A := A) (fun i hi => by rw [z i hi]; exact hlen) (fun i hi => hfl _ hex) (fun i hi => hfl _ hco) (fun i hi => hfl _ har) (fun i hi => by rw [z i hi]; exact hfl _ hle) (fun i hi j hj => by rw [z i hi] at hj ⊢; exact hfl _ (hel j hj)) (fun i j hi hj hn => absurd ((z i hi).trans (z j hj).symm) hn) hA
  have e : adK 0 = x := by
    have h3 := (h2 0 (by omega)).symm.trans hx
    exact Value.ref.inj (Option.some.inj h3)
  refine ⟨adV 0, fun i hi => ?_, fun i j hi hj _ => (z i hi).trans (z j hj).symm⟩
  rw [z i hi]
  have h4 := h1.1 0 (by omega)
  rw [e] at h4
  exact h4
-- rows of digits
def zw_dn (t : Nat) : String := if t = 0 then "DigitOnes" else "DigitTens"
def zw_dt (t : Nat) : Term := .static "java/lang/Integer" (zw_dn t) "[B"
set_option maxRecDepth 100000 in
theorem zw_d0 : ((zw_F.drop 14).take 100) = (List.range 100).map (fun j => Cond.eq (.elem (zw_dt 0) (.int (Int32.ofNat j))) (.int ((zdig 0).getD j 0))) := by decide +kernel
set_option maxRecDepth 100000 in
theorem zw_d1 : ((zw_F.drop 117).take 100) = (List.range 100).map (fun j => Cond.eq (.elem (zw_dt 1) (.int (Int32.ofNat j))) (.int ((zdig 1).getD j 0))) := by decide +kernel
set_option maxRecDepth 100000 in
theorem zw_d2 : ∀ t, t < 2 → Cond.arrayOf (zw_dt t) .byte ∈ zw_F ∧ Cond.eq (.length (zw_dt t)) (.int (Int32.ofNat 100)) ∈ zw_F ∧ Cond.laysStatic "java/lang/Integer" (zw_dn t) "[B" ∈ lw_tbl := by decide +kernel
theorem zw_d3 : ∀ t, t < 2 → ∀ j, j < 100 → Cond.eq (.elem (zw_dt t) (.int (Int32.ofNat j))) (.int ((zdig t).getD j 0)) ∈ zw_F := by
  intro t ht j hj
  match t, ht with
  | 0, _ =>
    have : Cond.eq (.elem (zw_dt 0) (.int (Int32.ofNat j))) (.int ((zdig 0).getD j 0)) ∈ (zw_F.drop 14).take 100 := by
      rw [zw_d0]; exact List.mem_map.mpr ⟨j, List.mem_range.mpr hj, rfl⟩
    exact List.mem_of_mem_drop (List.mem_of_mem_take this)
  | 1, _ =>
    have : Cond.eq (.elem (zw_dt 1) (.int (Int32.ofNat j))) (.int ((zdig 1).getD j 0)) ∈ (zw_F.drop 117).take 100 := by
      rw [zw_d1]; exact List.mem_map.mpr ⟨j, List.mem_range.mpr hj, rfl⟩
    exact List.mem_of_mem_drop (List.mem_of_mem_take this)
set_option maxHeartbeats 4000000 in
theorem zw_RO {sc : Nat × (Nat → Int32)} (hts : ∀ w ∈ lw_tbl, w.before args s = true) (hfl : ∀ w ∈ zw_F, w.before args s = true) (b : Nat) (hb : b < s.heap.size) (hsc : sc.1 < 2 ^ 31) (hX : va_X b sc.1 sc.2 s s.heap) : ∃ ad : Nat → Nat, ad 2000000 = b ∧ zRO sc (fun q : Nat => s.heap.size ≤ q) ad s s.heap := by
  have hA : ∀ a : Nat, a < s.heap.size → ¬ (fun q : Nat => s.heap.size ≤ q) a := fun a h => Nat.not_le.mpr h
  have hS : ∀ k : Nat, ∃ a : Nat, ∀ q : String × Nat × String, zstr[k]? = some q → (Term.string q.1 q.2.1).eval args s none [] s = some (.ref a) := by
    intro k
    cases hq : zstr[k]? with
    | none => exact ⟨0, fun q h => by cases h⟩
    | some q =>
      obtain ⟨a, c, cA, kA, q1, -⟩ := Cond.exactly_spec (args := args) (first := s) (o := none) (s := s) (idx := []) (t := .string q.1 q.2.1) (cls := "java/lang/String") (hfl _ (zw_ex q (List.mem_of_getElem? hq)))
      exact ⟨a, fun q' h => by cases h; exact q1⟩
  obtain ⟨a, ha⟩ := Classical.axiomOfChoice hS
  have hV : ∀ k : Nat, ∃ v : Nat, k < 10 → vk_S 1 [(zkey.getD k []).length] [zkey.getD k []] (fun _ => a k) (fun _ => v) (fun q : Nat => s.heap.size ≤ q) s s.heap := by
    intro k
    by_cases hk : k < 10
    · obtain ⟨t, ht⟩ := zw_s1 k hk
      obtain ⟨w1, w2, w3, w4⟩ := zw_w1 k hk
      obtain ⟨v, hv⟩ := zw_kw hfl hA (a k) (zw_ix.getD k 0) (zkey.getD k []) (zw_l1 k hk) w1 w2 w3 w4 (zw_w2 k hk) (ha k _ ht)
      exact ⟨v, fun _ => hv⟩
    · exact ⟨0, fun h => absurd h hk⟩
  obtain ⟨adV, hadV⟩ := Classical.axiomOfChoice hV
  have hD : ∀ t : Nat, ∃ v : Nat, t < 2 → va_T .byte v 100 (fun j => .int ((zdig t).getD j 0)) (fun q : Nat => s.heap.size ≤ q) s s.heap ∧ va_Z "java/lang/Integer" (zw_dn t) "[B" (.ref v) (fun q : Nat => s.heap.size ≤ q) s s.heap := by
    intro t
    by_cases ht : t < 2
    · obtain ⟨d1, d2, d3⟩ := zw_d2 t ht
      obtain ⟨v, e, hv⟩ := va_Tof (args := args) (s := s) (tm := zw_dt t) (ty := .byte) (N := 100) (f := fun j => .int ((zdig t).getD j 0)) (A := fun q : Nat => s.heap.size ≤ q) (by omega) (hfl _ d1) (va_eqt (hfl _ d2)) (fun j hj => va_eqt (hfl _ (zw_d3 t ht j hj))) hA
      exact ⟨v, fun _ => ⟨hv, va_Zof (hts _ d3) (hts (.initialized "java/lang/Integer") (by decide +kernel)) e hA⟩⟩
    · exact ⟨0, fun h => absurd h ht⟩
  obtain ⟨adD, hadD⟩ := Classical.axiomOfChoice hD
  obtain ⟨ad, had⟩ : ∃ ad : Nat → Nat, ad = fun k : Nat => if k = 2000000 then b else if 1000300 ≤ k then adD (k - 1000300) else if 1000200 ≤ k then adV (k - 1000200) else a (k - 1000000) := ⟨_, rfl⟩
  have eB : ad 2000000 = b := by rw [had]; exact if_pos rfl
  have eS : ∀ k, k < 200 → ad (1000000 + k) = a k := by
    intro k hk
    rw [had]
    show (if 1000000 + k = 2000000 then b else if 1000300 ≤ 1000000 + k then adD (1000000 + k - 1000300) else if 1000200 ≤ 1000000 + k then adV (1000000 + k - 1000200) else a (1000000 + k - 1000000)) = a k
    rw [if_neg (by omega), if_neg (by omega), if_neg (by omega), Nat.add_sub_cancel_left]
  have eV : ∀ k, k < 100 → ad (1000200 + k) = adV k := by
    intro k hk
    rw [had]
    show (if 1000200 + k = 2000000 then b else if 1000300 ≤ 1000200 + k then adD (1000200 + k - 1000300) else if 1000200 ≤ 1000200 + k then adV (1000200 + k - 1000200) else a (1000200 + k - 1000000)) = adV k
    rw [if_neg (by omega), if_neg (by omega), if_pos (by omega), Nat.add_sub_cancel_left]
  have eD : ∀ t, t < 2 → ad (1000300 + t) = adD t := by
    intro t ht
    rw [had]
    show (if 1000300 + t = 2000000 then b else if 1000300 ≤ 1000300 + t then adD (1000300 + t - 1000300) else if 1000200 ≤ 1000300 + t then adV (1000300 + t - 1000200) else a (1000300 + t - 1000000)) = adD t
    rw [if_neg (by omega), if_pos (by omega), Nat.add_sub_cancel_left]
  refine ⟨ad, eB, fun w hw hz => va_Nw.of (zw_ot hz) (hts w hw), fun k q hq => ?_, fun k hk => ?_, ⟨?_, ?_, ?_, fun t ht => ?_, ?_, ?_⟩, ?_, ?_, ?_, fun q hq => va_Nc.of (hfl _ (zw_nc q hq))⟩
  · have h1 := (List.getElem?_eq_some_iff.mp hq).1
    have h2 : zstr.length = 28 := rfl
    rw [eS k (by omega)]
    exact vk_R.of (hts _ (zw_sr q (List.mem_of_getElem? hq))) (ha k q hq)
  · rw [eS k (by omega), eV k (by omega)]
    exact hadV k hk
  · exact va_Zof (hts (.laysStatic "java/lang/String" "COMPACT_STRINGS" "Z") (by decide +kernel)) (hts (.initialized "java/lang/String") (by decide +kernel)) (va_eqt (hfl (.eq (.static "java/lang/String" "COMPACT_STRINGS" "Z") (.int 1)) (by decide +kernel))) hA
  · exact va_Zqof (hts (.laysStatic "jdk/internal/util/Preconditions" "SIOOBE_FORMATTER" "Ljava/util/function/BiFunction;") (by decide +kernel)) (hts (.initialized "jdk/internal/util/Preconditions") (by decide +kernel)) (hfl (.isRef (.static "jdk/internal/util/Preconditions" "SIOOBE_FORMATTER" "Ljava/util/function/BiFunction;")) (by decide +kernel)) hA
  · rw [eB]
    obtain ⟨cell, c1, c2, c3, c4, c5⟩ := hX
    exact ⟨cell, c1, c2, c3, Nat.le_of_eq c4.symm, congrArg Nat.toInt32 c4, c5, hA b hb⟩
  · rw [eD t ht]
    exact (hadD t ht).1
  · have := (hadD 0 (by omega)).2
    rw [← eD 0 (by omega)] at this
    exact this
  · have := (hadD 1 (by omega)).2
    rw [← eD 1 (by omega)] at this
    exact this
  · exact vx_Zqof (hts (.laysStatic Bundle.tN "UNASSIGNED_STACK" Bundle.steD) (by decide +kernel)) (hts (.initialized Bundle.tN) (by decide +kernel)) (hfl (.isRef (.static Bundle.tN "UNASSIGNED_STACK" Bundle.steD)) (by decide +kernel)) hA
  · exact vx_Zqof (hts (.laysStatic Bundle.tN "SUPPRESSED_SENTINEL" Bundle.listD) (by decide +kernel)) (hts (.initialized Bundle.tN) (by decide +kernel)) (hfl (.isRef (.static Bundle.tN "SUPPRESSED_SENTINEL" Bundle.listD)) (by decide +kernel)) hA
  · exact va_AO.of (hts (.arrayOver (.object "KeyTour$Level")) (by decide +kernel))
end ZWO
