/-! THE WORLD AT THE LAW'S ENTRY: what stays as it is. -/
section ZWO3
variable {s : State} {args : Array Value}
set_option maxHeartbeats 4000000 in
theorem zw_RO {sc : Nat × (Nat → Int32)} (hts : ∀ w ∈ lw_tbl, w.before args s = true) (hfl : ∀ w ∈ zw_F, w.before args s = true) (b : Nat) (hb : b < s.heap.size) (hsc : sc.1 < 2 ^ 31) (hX : va_X b sc.1 sc.2 s s.heap) : ∃ ad : Nat → Nat, ad 2000000 = b ∧ zRO sc (fun q : Nat => s.heap.size ≤ q) ad s s.heap := by
  have hA : ∀ a : Nat, a < s.heap.size → ¬ (fun q : Nat => s.heap.size ≤ q) a := fun a h => Nat.not_le.mpr h
  have hS : ∀ k : Nat, ∃ a : Nat, ∀ q : String × Nat × String, zstr[k]? = some q → (Term.string q.1 q.2.1).eval args s none [] s = some (.ref a) := by
    intro k
    cases hq : zstr[k]? with
    | none => exact ⟨0, fun q h => by cases h⟩
    | some q =>
      obtain ⟨a, c, cA, kA, q1, -⟩ := Cond.exactly_spec (args := args) (first := s) (o := none) (s := s) (idx := []) (t := .string q.1 q.2.1) (cls := "java/lang/String") (hfl _ (zw_ex q (List.mem_of_getElem? hq)))
      exact ⟨a, fun q' h => by cases h; exact q1⟩
  obtain ⟨a, ha⟩ := Classical.axiomOfChoice hS
  have hV : ∀ k : Nat, ∃ v : Nat, k < 10 → vk_S 1 [(zkey.getD k []).length] [zkey.getD k []] (fun _ => a k) (fun _ => v) (fun q : Nat => s.heap.size ≤ q) s s.heap := by
    intro k
    by_cases hk : k < 10
    · obtain ⟨t, ht⟩ := zw_s1 k hk
      obtain ⟨w1, w2, w3, w4⟩ := zw_w1 k hk
      obtain ⟨v, hv⟩ := zw_kw hfl hA (a k) (zw_ix.getD k 0) (zkey.getD k []) (zw_l1 k hk) w1 w2 w3 w4 (zw_w2 k hk) (ha k _ ht)
      exact ⟨v, fun _ => hv⟩
    · exact ⟨0, fun h => absurd h hk⟩
  obtain ⟨adV, hadV⟩ := Classical.axiomOfChoice hV
  have hD : ∀ t : Nat, ∃ v : Nat, t < 2 → va_T .byte v 100 (fun j => .int ((zdig t).getD j 0)) (fun q : Nat => s.heap.size ≤ q) s s.heap ∧ va_Z "java/lang/Integer" (zw_dn t) "[B" (.ref v) (fun q : Nat => s.heap.size ≤ q) s s.heap := by
    intro t
    by_cases ht : t < 2
    · obtain ⟨d1, d2, d3⟩ := zw_d2 t ht
      obtain ⟨v, e, hv⟩ := va_Tof (args := args) (s := s) (tm := zw_dt t) (ty := .byte) (N := 100) (f := fun j => .int ((zdig t).getD j 0)) (A := fun q : Nat => s.heap.size ≤ q) (by omega) (hfl _ d1) (va_eqt (hfl _ d2)) (fun j hj => va_eqt (hfl _ (zw_d3 t ht j hj))) hA
      exact ⟨v, fun _ => ⟨hv, va_Zof (hts _ d3) (hts (.initialized "java/lang/Integer") (by decide +kernel)) e hA⟩⟩
    · exact ⟨0, fun h => absurd h ht⟩
  obtain ⟨adD, hadD⟩ := Classical.axiomOfChoice hD
  obtain ⟨ad, had⟩ : ∃ ad : Nat → Nat, ad = fun k : Nat => if k = 2000000 then b else if 1000300 ≤ k then adD (k - 1000300) else if 1000200 ≤ k then adV (k - 1000200) else a (k - 1000000) := ⟨_, rfl⟩
  have eB : ad 2000000 = b := by rw [had]; exact if_pos rfl
  have eS : ∀ k, k < 200 → ad (1000000 + k) = a k := by
    intro k hk
    rw [had]
    show (if 1000000 + k = 2000000 then b else if 1000300 ≤ 1000000 + k then adD (1000000 + k - 1000300) else if 1000200 ≤ 1000000 + k then adV (1000000 + k - 1000200) else a (1000000 + k - 1000000)) = a k
    rw [if_neg (by omega), if_neg (by omega), if_neg (by omega), Nat.add_sub_cancel_left]
  have eV : ∀ k, k < 100 → ad (1000200 + k) = adV k := by
    intro k hk
    rw [had]
    show (if 1000200 + k = 2000000 then b else if 1000300 ≤ 1000200 + k then adD (1000200 + k - 1000300) else if 1000200 ≤ 1000200 + k then adV (1000200 + k - 1000200) else a (1000200 + k - 1000000)) = adV k
    rw [if_neg (by omega), if_neg (by omega), if_pos (by omega), Nat.add_sub_cancel_left]
  have eD : ∀ t, t < 2 → ad (1000300 + t) = adD t := by
    intro t ht
    rw [had]
    show (if 1000300 + t = 2000000 then b else if 1000300 ≤ 1000300 + t then adD (1000300 + t - 1000300) else if 1000200 ≤ 1000300 + t then adV (1000300 + t - 1000200) else a (1000300 + t - 1000000)) = adD t
    rw [if_neg (by omega), if_pos (by omega), Nat.add_sub_cancel_left]
  refine ⟨ad, eB, fun w hw hz => va_Nw.of (zw_ot hz) (hts w hw), fun k q hq => ?_, fun k hk => ?_, ⟨?_, ?_, ?_, fun t ht => ?_, ?_, ?_⟩, ?_, ?_, ?_, fun q hq => va_Nc.of (hfl _ (zw_nc q hq))⟩
  · have h1 := (List.getElem?_eq_some_iff.mp hq).1
    have h2 : zstr.length = 28 := rfl
    rw [eS k (by omega)]
    exact vk_R.of (hts _ (zw_sr q (List.mem_of_getElem? hq))) (ha k q hq)
  · rw [eS k (by omega), eV k (by omega)]
    exact hadV k hk
  · exact va_Zof (hts (.laysStatic "java/lang/String" "COMPACT_STRINGS" "Z") (by decide +kernel)) (hts (.initialized "java/lang/String") (by decide +kernel)) (va_eqt (hfl (.eq (.static "java/lang/String" "COMPACT_STRINGS" "Z") (.int 1)) (by decide +kernel))) hA
  · exact va_Zqof (hts (.laysStatic "jdk/internal/util/Preconditions" "SIOOBE_FORMATTER" "Ljava/util/function/BiFunction;") (by decide +kernel)) (hts (.initialized "jdk/internal/util/Preconditions") (by decide +kernel)) (hfl (.isRef (.static "jdk/internal/util/Preconditions" "SIOOBE_FORMATTER" "Ljava/util/function/BiFunction;")) (by decide +kernel)) hA
  · rw [eB]
    obtain ⟨cell, c1, c2, c3, c4, c5⟩ := hX
    exact ⟨cell, c1, c2, c3, Nat.le_of_eq c4.symm, congrArg Nat.toInt32 c4, c5, hA b hb⟩
  · rw [eD t ht]
    exact (hadD t ht).1
  · have := (hadD 0 (by omega)).2
    rw [← eD 0 (by omega)] at this
    exact this
  · have := (hadD 1 (by omega)).2
    rw [← eD 1 (by omega)] at this
    exact this
  · exact vx_Zqof (hts (.laysStatic Bundle.tN "UNASSIGNED_STACK" Bundle.steD) (by decide +kernel)) (hts (.initialized Bundle.tN) (by decide +kernel)) (hfl (.isRef (.static Bundle.tN "UNASSIGNED_STACK" Bundle.steD)) (by decide +kernel)) hA
  · exact vx_Zqof (hts (.laysStatic Bundle.tN "SUPPRESSED_SENTINEL" Bundle.listD) (by decide +kernel)) (hts (.initialized Bundle.tN) (by decide +kernel)) (hfl (.isRef (.static Bundle.tN "SUPPRESSED_SENTINEL" Bundle.listD)) (by decide +kernel)) hA
  · exact va_AO.of (hts (.arrayOver (.object "KeyTour$Level")) (by decide +kernel))
end ZWO3
