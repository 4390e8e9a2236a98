/-! THE GIVEN WORDS ON THE LAW'S TEXTS. -/
section ZWO1
variable {s : State} {args : Array Value}
def zw_ix : List Nat := [47, 58, 63, 65, 67, 69, 71, 73, 75, 77]
abbrev zw_v (ix : Nat) : Term := .field (.string "KeyTourLaw" ix) "java/lang/String" "value" "[B"
set_option maxRecDepth 100000 in
theorem zw_w1_0 : Cond.exactly (.string "KeyTourLaw" (zw_ix.getD 0 0)) "java/lang/String" ∈ zw_F ∧ Cond.eq (.field (.string "KeyTourLaw" (zw_ix.getD 0 0)) "java/lang/String" "coder" "B") (.int 0) ∈ zw_F ∧ Cond.arrayOf (zw_v (zw_ix.getD 0 0)) .byte ∈ zw_F ∧ Cond.eq (.length (zw_v (zw_ix.getD 0 0))) (.int (Int32.ofNat (zkey.getD 0 []).length)) ∈ zw_F := by decide +kernel
set_option maxRecDepth 100000 in
theorem zw_w1_1 : Cond.exactly (.string "KeyTourLaw" (zw_ix.getD 1 0)) "java/lang/String" ∈ zw_F ∧ Cond.eq (.field (.string "KeyTourLaw" (zw_ix.getD 1 0)) "java/lang/String" "coder" "B") (.int 0) ∈ zw_F ∧ Cond.arrayOf (zw_v (zw_ix.getD 1 0)) .byte ∈ zw_F ∧ Cond.eq (.length (zw_v (zw_ix.getD 1 0))) (.int (Int32.ofNat (zkey.getD 1 []).length)) ∈ zw_F := by decide +kernel
set_option maxRecDepth 100000 in
theorem zw_w1_2 : Cond.exactly (.string "KeyTourLaw" (zw_ix.getD 2 0)) "java/lang/String" ∈ zw_F ∧ Cond.eq (.field (.string "KeyTourLaw" (zw_ix.getD 2 0)) "java/lang/String" "coder" "B") (.int 0) ∈ zw_F ∧ Cond.arrayOf (zw_v (zw_ix.getD 2 0)) .byte ∈ zw_F ∧ Cond.eq (.length (zw_v (zw_ix.getD 2 0))) (.int (Int32.ofNat (zkey.getD 2 []).length)) ∈ zw_F := by decide +kernel
set_option maxRecDepth 100000 in
theorem zw_w1_3 : Cond.exactly (.string "KeyTourLaw" (zw_ix.getD 3 0)) "java/lang/String" ∈ zw_F ∧ Cond.eq (.field (.string "KeyTourLaw" (zw_ix.getD 3 0)) "java/lang/String" "coder" "B") (.int 0) ∈ zw_F ∧ Cond.arrayOf (zw_v (zw_ix.getD 3 0)) .byte ∈ zw_F ∧ Cond.eq (.length (zw_v (zw_ix.getD 3 0))) (.int (Int32.ofNat (zkey.getD 3 []).length)) ∈ zw_F := by decide +kernel
set_option maxRecDepth 100000 in
theorem zw_w1_4 : Cond.exactly (.string "KeyTourLaw" (zw_ix.getD 4 0)) "java/lang/String" ∈ zw_F ∧ Cond.eq (.field (.string "KeyTourLaw" (zw_ix.getD 4 0)) "java/lang/String" "coder" "B") (.int 0) ∈ zw_F ∧ Cond.arrayOf (zw_v (zw_ix.getD 4 0)) .byte ∈ zw_F ∧ Cond.eq (.length (zw_v (zw_ix.getD 4 0))) (.int (Int32.ofNat (zkey.getD 4 []).length)) ∈ zw_F := by decide +kernel
set_option maxRecDepth 100000 in
theorem zw_w1_5 : Cond.exactly (.string "KeyTourLaw" (zw_ix.getD 5 0)) "java/lang/String" ∈ zw_F ∧ Cond.eq (.field (.string "KeyTourLaw" (zw_ix.getD 5 0)) "java/lang/String" "coder" "B") (.int 0) ∈ zw_F ∧ Cond.arrayOf (zw_v (zw_ix.getD 5 0)) .byte ∈ zw_F ∧ Cond.eq (.length (zw_v (zw_ix.getD 5 0))) (.int (Int32.ofNat (zkey.getD 5 []).length)) ∈ zw_F := by decide +kernel
set_option maxRecDepth 100000 in
theorem zw_w1_6 : Cond.exactly (.string "KeyTourLaw" (zw_ix.getD 6 0)) "java/lang/String" ∈ zw_F ∧ Cond.eq (.field (.string "KeyTourLaw" (zw_ix.getD 6 0)) "java/lang/String" "coder" "B") (.int 0) ∈ zw_F ∧ Cond.arrayOf (zw_v (zw_ix.getD 6 0)) .byte ∈ zw_F ∧ Cond.eq (.length (zw_v (zw_ix.getD 6 0))) (.int (Int32.ofNat (zkey.getD 6 []).length)) ∈ zw_F := by decide +kernel
set_option maxRecDepth 100000 in
theorem zw_w1_7 : Cond.exactly (.string "KeyTourLaw" (zw_ix.getD 7 0)) "java/lang/String" ∈ zw_F ∧ Cond.eq (.field (.string "KeyTourLaw" (zw_ix.getD 7 0)) "java/lang/String" "coder" "B") (.int 0) ∈ zw_F ∧ Cond.arrayOf (zw_v (zw_ix.getD 7 0)) .byte ∈ zw_F ∧ Cond.eq (.length (zw_v (zw_ix.getD 7 0))) (.int (Int32.ofNat (zkey.getD 7 []).length)) ∈ zw_F := by decide +kernel
set_option maxRecDepth 100000 in
theorem zw_w1_8 : Cond.exactly (.string "KeyTourLaw" (zw_ix.getD 8 0)) "java/lang/String" ∈ zw_F ∧ Cond.eq (.field (.string "KeyTourLaw" (zw_ix.getD 8 0)) "java/lang/String" "coder" "B") (.int 0) ∈ zw_F ∧ Cond.arrayOf (zw_v (zw_ix.getD 8 0)) .byte ∈ zw_F ∧ Cond.eq (.length (zw_v (zw_ix.getD 8 0))) (.int (Int32.ofNat (zkey.getD 8 []).length)) ∈ zw_F := by decide +kernel
set_option maxRecDepth 100000 in
theorem zw_w1_9 : Cond.exactly (.string "KeyTourLaw" (zw_ix.getD 9 0)) "java/lang/String" ∈ zw_F ∧ Cond.eq (.field (.string "KeyTourLaw" (zw_ix.getD 9 0)) "java/lang/String" "coder" "B") (.int 0) ∈ zw_F ∧ Cond.arrayOf (zw_v (zw_ix.getD 9 0)) .byte ∈ zw_F ∧ Cond.eq (.length (zw_v (zw_ix.getD 9 0))) (.int (Int32.ofNat (zkey.getD 9 []).length)) ∈ zw_F := by decide +kernel
theorem zw_s1 : ∀ k, k < 10 → ∃ t, zstr[k]? = some ("KeyTourLaw", zw_ix.getD k 0, t) := fun k hk => match k, hk with
  | 0, _ => ⟨_, rfl⟩ | 1, _ => ⟨_, rfl⟩ | 2, _ => ⟨_, rfl⟩ | 3, _ => ⟨_, rfl⟩ | 4, _ => ⟨_, rfl⟩ | 5, _ => ⟨_, rfl⟩ | 6, _ => ⟨_, rfl⟩ | 7, _ => ⟨_, rfl⟩ | 8, _ => ⟨_, rfl⟩ | 9, _ => ⟨_, rfl⟩
theorem zw_l1 : ∀ k, k < 10 → (zkey.getD k []).length < 2 ^ 31 := by decide +kernel
theorem zw_kw (hfl : ∀ w ∈ zw_F, w.before args s = true) {A : Nat → Prop} (hA : ∀ a : Nat, a < s.heap.size → ¬ A a) (x ix : Nat) (bs : List Int32) (hlen : bs.length < 2 ^ 31) (hex : Cond.exactly (.string "KeyTourLaw" ix) "java/lang/String" ∈ zw_F) (hco : Cond.eq (.field (.string "KeyTourLaw" ix) "java/lang/String" "coder" "B") (.int 0) ∈ zw_F) (har : Cond.arrayOf (zw_v ix) .byte ∈ zw_F)
    (hle : Cond.eq (.length (zw_v ix)) (.int (Int32.ofNat bs.length)) ∈ zw_F) (hel : ∀ j, j < bs.length → Cond.eq (.elem (zw_v ix) (.int (Int32.ofNat j))) (.int (bs.getD j 0)) ∈ zw_F) (hx : (Term.string "KeyTourLaw" ix).eval args s none [] s = some (.ref x)) : ∃ v : Nat, vk_S 1 [bs.length] [bs] (fun _ => x) (fun _ => v) A s s.heap := by
  have z : ∀ i, i < 1 → i = 0 := fun i h => by omega
  obtain ⟨adK, adV, h1, h2⟩ := vk_Sof (args := args) (s := s) (N := 1) (tm := fun _ => .string "KeyTourLaw" ix) (len := [bs.length]) (byt := [bs]) (A := A) (fun i hi => by rw [z i hi]; exact hlen) (fun i hi => hfl _ hex) (fun i hi => hfl _ hco) (fun i hi => hfl _ har) (fun i hi => by rw [z i hi]; exact hfl _ hle) (fun i hi j hj => by rw [z i hi] at hj ⊢; exact hfl _ (hel j hj)) (fun i j hi hj hn => absurd ((z i hi).trans (z j hj).symm) hn) hA
  have e : adK 0 = x := by
    have h3 := (h2 0 (by omega)).symm.trans hx
    exact Value.ref.inj (Option.some.inj h3)
  refine ⟨adV 0, fun i hi => ?_, fun i j hi hj _ => (z i hi).trans (z j hj).symm⟩
  rw [z i hi]
  have h4 := h1.1 0 (by omega)
  rw [e] at h4
  exact h4
theorem zw_w1 : ∀ k, k < 10 → Cond.exactly (.string "KeyTourLaw" (zw_ix.getD k 0)) "java/lang/String" ∈ zw_F ∧ Cond.eq (.field (.string "KeyTourLaw" (zw_ix.getD k 0)) "java/lang/String" "coder" "B") (.int 0) ∈ zw_F ∧ Cond.arrayOf (zw_v (zw_ix.getD k 0)) .byte ∈ zw_F ∧ Cond.eq (.length (zw_v (zw_ix.getD k 0))) (.int (Int32.ofNat (zkey.getD k []).length)) ∈ zw_F := fun k hk => match k, hk with
  | 0, _ => zw_w1_0 | 1, _ => zw_w1_1 | 2, _ => zw_w1_2 | 3, _ => zw_w1_3 | 4, _ => zw_w1_4 | 5, _ => zw_w1_5 | 6, _ => zw_w1_6 | 7, _ => zw_w1_7 | 8, _ => zw_w1_8 | 9, _ => zw_w1_9
end ZWO1
