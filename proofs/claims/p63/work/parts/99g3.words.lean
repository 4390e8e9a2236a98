/-! THE GIVEN WORDS ON THE BYTES OF THE LAW'S TEXTS: the other five. -/
set_option maxRecDepth 100000 in
theorem zw_w2_5 : ∀ j, j < (zkey.getD 5 []).length → Cond.eq (.elem (zw_v (zw_ix.getD 5 0)) (.int (Int32.ofNat j))) (.int ((zkey.getD 5 []).getD j 0)) ∈ zw_F := by decide +kernel
set_option maxRecDepth 100000 in
theorem zw_w2_6 : ∀ j, j < (zkey.getD 6 []).length → Cond.eq (.elem (zw_v (zw_ix.getD 6 0)) (.int (Int32.ofNat j))) (.int ((zkey.getD 6 []).getD j 0)) ∈ zw_F := by decide +kernel
set_option maxRecDepth 100000 in
theorem zw_w2_7 : ∀ j, j < (zkey.getD 7 []).length → Cond.eq (.elem (zw_v (zw_ix.getD 7 0)) (.int (Int32.ofNat j))) (.int ((zkey.getD 7 []).getD j 0)) ∈ zw_F := by decide +kernel
set_option maxRecDepth 100000 in
theorem zw_w2_8 : ∀ j, j < (zkey.getD 8 []).length → Cond.eq (.elem (zw_v (zw_ix.getD 8 0)) (.int (Int32.ofNat j))) (.int ((zkey.getD 8 []).getD j 0)) ∈ zw_F := by decide +kernel
set_option maxRecDepth 100000 in
theorem zw_w2_9 : ∀ j, j < (zkey.getD 9 []).length → Cond.eq (.elem (zw_v (zw_ix.getD 9 0)) (.int (Int32.ofNat j))) (.int ((zkey.getD 9 []).getD j 0)) ∈ zw_F := by decide +kernel
theorem zw_w2 : ∀ k, k < 10 → ∀ j, j < (zkey.getD k []).length → Cond.eq (.elem (zw_v (zw_ix.getD k 0)) (.int (Int32.ofNat j))) (.int ((zkey.getD k []).getD j 0)) ∈ zw_F := fun k hk => match k, hk with
  | 0, _ => zw_w2_0 | 1, _ => zw_w2_1 | 2, _ => zw_w2_2 | 3, _ => zw_w2_3 | 4, _ => zw_w2_4 | 5, _ => zw_w2_5 | 6, _ => zw_w2_6 | 7, _ => zw_w2_7 | 8, _ => zw_w2_8 | 9, _ => zw_w2_9
