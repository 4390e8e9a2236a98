/-! THE GIVEN WORDS ON THE ROWS OF DIGITS. -/
def zw_dn (t : Nat) : String := if t = 0 then "DigitOnes" else "DigitTens"
def zw_dt (t : Nat) : Term := .static "java/lang/Integer" (zw_dn t) "[B"
set_option maxRecDepth 100000 in
theorem zw_d0 : ((zw_F.drop 14).take 100) = (List.range 100).map (fun j => Cond.eq (.elem (zw_dt 0) (.int (Int32.ofNat j))) (.int ((zdig 0).getD j 0))) := by decide +kernel
set_option maxRecDepth 100000 in
theorem zw_d1 : ((zw_F.drop 117).take 100) = (List.range 100).map (fun j => Cond.eq (.elem (zw_dt 1) (.int (Int32.ofNat j))) (.int ((zdig 1).getD j 0))) := by decide +kernel
set_option maxRecDepth 100000 in
theorem zw_d2 : ∀ t, t < 2 → Cond.arrayOf (zw_dt t) .byte ∈ zw_F ∧ Cond.eq (.length (zw_dt t)) (.int (Int32.ofNat 100)) ∈ zw_F ∧ Cond.laysStatic "java/lang/Integer" (zw_dn t) "[B" ∈ lw_tbl := by decide +kernel
theorem zw_d3 : ∀ t, t < 2 → ∀ j, j < 100 → Cond.eq (.elem (zw_dt t) (.int (Int32.ofNat j))) (.int ((zdig t).getD j 0)) ∈ zw_F := by
  intro t ht j hj
  match t, ht with
  | 0, _ =>
    have : Cond.eq (.elem (zw_dt 0) (.int (Int32.ofNat j))) (.int ((zdig 0).getD j 0)) ∈ (zw_F.drop 14).take 100 := by
      rw [zw_d0]; exact List.mem_map.mpr ⟨j, List.mem_range.mpr hj, rfl⟩
    exact List.mem_of_mem_drop (List.mem_of_mem_take this)
  | 1, _ =>
    have : Cond.eq (.elem (zw_dt 1) (.int (Int32.ofNat j))) (.int ((zdig 1).getD j 0)) ∈ (zw_F.drop 117).take 100 := by
      rw [zw_d1]; exact List.mem_map.mpr ⟨j, List.mem_range.mpr hj, rfl⟩
    exact List.mem_of_mem_drop (List.mem_of_mem_take this)
