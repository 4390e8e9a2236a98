/-! THE WORLD AT THE LAW'S ENTRY. -/
section ZWO
abbrev zw_F : List Cond := flatC (Jvm.Cond.and given_1 narrow_1)
variable {s : State} {args : Array Value}
theorem zw_arr {ty : FieldType} (h : (Cond.arrayClass ty).before args s = true) : ∃ c : ClassId, ArrOfT s c ty ∧ s.vm.findClass ("[" ++ ty.toString) = some c := by
  obtain ⟨c, k, comp, h1, h2, h3⟩ := Cond.arrayClass_spec h
  exact ⟨c, fun n z => ⟨(fun k h => by cases h), k, h2, comp, h3⟩, h1⟩
/-- a private method of the builder's class is what its heir selects: that class is no interface, for it is selected for another method -/
theorem zw_one {y z : MethodName} (hz : z.cls = y.cls) (hy : y.cls ≠ "java/lang/invoke/MethodHandle" ∧ y.cls ≠ "java/lang/invoke/VarHandle") (hw : (Cond.selects RJ4 z z).before args s = true) (hp : (Cond.privateMethod y).before args s = true) (hi : (Cond.instanceMethod y).before args s = true) : (Cond.selects RJ4 y y).before args s = true := by
  obtain ⟨c, r, m2, h1, h2, h3, h4, mk, h5, h6⟩ := Cond.selects_spec hw
  obtain ⟨my, methM, hnamed, hmethM, -, -⟩ := Cond.instanceMethod_spec hi
  have hfound : s.methodFound? y.cls y.name y.desc = some my := State.methodFound?_of_named hnamed hy
  have e1 := findClass_of_methodNamed hnamed
  have e2 := findClass_of_methodNamed h3
  rw [hz] at e2
  have e3 : m2.cls = my.cls := Option.some.inj (e2.symm.trans e1)
  have hsel : selectMethod {} s.vm c my = .method my := selectMethod_private hmethM (Cond.privateMethod_at hp my methM hnamed hmethM)
  rw [e3] at h5
  simp only [Cond.before, Cond.holds, Cond.value, h1, hfound, hnamed, hsel, h5]
  simp; exact h6
theorem zw_tb (hts : ∀ w ∈ lw_tbl, w.before args s = true) : ∀ w ∈ zw_tbl, w.before args s = true := by
  have q : ∀ y ∈ zw_pv, yJ5_isLatin1_aae02.cls = y.cls ∧ (y.cls ≠ "java/lang/invoke/MethodHandle" ∧ y.cls ≠ "java/lang/invoke/VarHandle") ∧ Cond.privateMethod y ∈ lw_tbl ∧ Cond.instanceMethod y ∈ lw_tbl := by decide +kernel
  have l : Cond.selects RJ4 yJ5_isLatin1_aae02 yJ5_isLatin1_aae02 ∈ lw_tbl := by decide +kernel
  intro w hw
  unfold zw_tbl at hw
  rcases List.mem_append.mp hw with hw | hw
  · obtain ⟨y, hy, rfl⟩ := List.mem_map.mp hw
    obtain ⟨a, b, c, d⟩ := q y hy
    exact zw_one a b (hts _ l) (hts _ c) (hts _ d)
  · exact hts w hw
set_option maxHeartbeats 4000000 in
theorem zw_K (hts : ∀ w ∈ lw_tbl, w.before args s = true) : ∃ (D : va_G) (tc : Nat → ClassId), va_K D vwCl (ztys tc) s := by
  have hg : ∀ w ∈ gT, w.before args s = true := fun w hw => zw_tb hts w (List.mem_filter.mp hw).1
  obtain ⟨c0, i0, k0⟩ := u_known (C := RX0) (T := TX0) (N := 2) (n := 2) hg zcin0 (hts (.instantiable RX0 2) (by decide +kernel))
  obtain ⟨c1, i1, k1⟩ := u_known (C := RX1) (T := TX1) (N := 3) (n := 3) hg zcin1 (hts (.instantiable RX1 3) (by decide +kernel))
  obtain ⟨c2, i2, k2⟩ := u_known (C := RX2) (T := TX2) (N := 15) (n := 15) hg zcin2 (hts (.instantiable RX2 15) (by decide +kernel))
  obtain ⟨c3, i3, k3⟩ := u_known (C := RX3) (T := TX3) (N := 9) (n := 9) hg zcin3 (hts (.instantiable RX3 9) (by decide +kernel))
  obtain ⟨c4, i4, k4⟩ := u_known (C := RX4) (T := TX4) (N := 7) (n := 7) hg zcin4 (hts (.instantiable RX4 7) (by decide +kernel))
  obtain ⟨c5, i5, k5⟩ := u_known (C := RX5) (T := TX5) (N := 12) (n := 12) hg zcin5 (hts (.instantiable RX5 12) (by decide +kernel))
  obtain ⟨c6, i6, k6⟩ := u_known (C := RJ4) (T := TJ4) (N := 4) (n := 4) hg zcin6 (hts (.instantiable RJ4 4) (by decide +kernel))
  obtain ⟨c7, i7, k7⟩ := u_known (C := RJ0) (T := TJ0) (N := 4) (n := 4) hg zcin7 (hts (.instantiable RJ0 4) (by decide +kernel))
  obtain ⟨t0, p0, q0⟩ := zw_arr (hts (.arrayClass .int) (by decide +kernel))
  obtain ⟨t1, p1, q1⟩ := zw_arr (hts (.arrayClass .long) (by decide +kernel))
  obtain ⟨t2, p2, q2⟩ := zw_arr (hts (.arrayClass .byte) (by decide +kernel))
  obtain ⟨t3, p3, q3⟩ := zw_arr (hts (.arrayClass .boolean) (by decide +kernel))
  obtain ⟨comp, t5, kA, g1, -, g2, g3, g4⟩ := Cond.arrayOver_spec (hts (.arrayOver (.object "KeyTour$Level")) (by decide +kernel))
  have p5 : ArrOfT s t5 (.object "KeyTour$Level") := fun n z => ⟨(fun k h => by cases h), kA, g2, comp, g3⟩
  refine ⟨(fun k => match k with | 0 => c0 | 1 => c1 | 2 => c2 | 3 => c3 | 4 => c4 | 5 => c5 | 6 => c6 | _ => c7, fun k => match k with | 0 => i0 | 1 => i1 | 2 => i2 | 3 => i3 | 4 => i4 | 5 => i5 | 6 => i6 | _ => i7), fun k => match k with | 0 => t0 | 1 => t1 | 2 => t2 | 3 => t3 | 4 => t3 | _ => t5, fun k q hq => ?_, fun k q hq => ?_⟩
  · match k, hq with
    | 0, hq => cases hq; exact k0
    | 1, hq => cases hq; exact k1
    | 2, hq => cases hq; exact k2
    | 3, hq => cases hq; exact k3
    | 4, hq => cases hq; exact k4
    | 5, hq => cases hq; exact k5
    | 6, hq => cases hq; exact k6
    | 7, hq => cases hq; exact k7
    | k + 8, hq => cases hq
  · match k, hq with
    | 0, hq => cases hq; exact ⟨p0, q0⟩
    | 1, hq => cases hq; exact ⟨p1, q1⟩
    | 2, hq => cases hq; exact ⟨p2, q2⟩
    | 3, hq => cases hq; exact ⟨p3, q3⟩
    | 4, hq => cases hq; exact ⟨p3, q3⟩
    | 5, hq => cases hq; exact ⟨p5, kA, comp, g2, g3, g1, g4⟩
    | k + 6, hq => cases hq
theorem zw_ot {w : Cond} (h : zspc w = true) : w.onTables = true := by
  unfold zspc at h
  split at h <;> first | rfl | cases h
set_option maxRecDepth 100000 in
theorem zw_sr : ∀ q ∈ zstr, Cond.stringRef q.1 q.2.1 q.2.2 ∈ lw_tbl := by decide +kernel
set_option maxRecDepth 100000 in
theorem zw_ex : ∀ q ∈ zstr, Cond.exactly (.string q.1 q.2.1) "java/lang/String" ∈ zw_F := by decide +kernel
set_option maxRecDepth 100000 in
theorem zw_nc : ∀ q ∈ zexs, Cond.not (.castable (zex q.1) (zex q.2)) ∈ zw_F := by decide +kernel
end ZWO
