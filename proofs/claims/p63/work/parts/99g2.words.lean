/-! THE GIVEN WORDS ON THE BYTES OF THE LAW'S TEXTS: the first five. -/
set_option maxRecDepth 100000 in
theorem zw_w2_0 : ∀ j, j < (zkey.getD 0 []).length → Cond.eq (.elem (zw_v (zw_ix.getD 0 0)) (.int (Int32.ofNat j))) (.int ((zkey.getD 0 []).getD j 0)) ∈ zw_F := by decide +kernel
set_option maxRecDepth 100000 in
theorem zw_w2_1 : ∀ j, j < (zkey.getD 1 []).length → Cond.eq (.elem (zw_v (zw_ix.getD 1 0)) (.int (Int32.ofNat j))) (.int ((zkey.getD 1 []).getD j 0)) ∈ zw_F := by decide +kernel
set_option maxRecDepth 100000 in
theorem zw_w2_2 : ∀ j, j < (zkey.getD 2 []).length → Cond.eq (.elem (zw_v (zw_ix.getD 2 0)) (.int (Int32.ofNat j))) (.int ((zkey.getD 2 []).getD j 0)) ∈ zw_F := by decide +kernel
set_option maxRecDepth 100000 in
theorem zw_w2_3 : ∀ j, j < (zkey.getD 3 []).length → Cond.eq (.elem (zw_v (zw_ix.getD 3 0)) (.int (Int32.ofNat j))) (.int ((zkey.getD 3 []).getD j 0)) ∈ zw_F := by decide +kernel
set_option maxRecDepth 100000 in
theorem zw_w2_4 : ∀ j, j < (zkey.getD 4 []).length → Cond.eq (.elem (zw_v (zw_ix.getD 4 0)) (.int (Int32.ofNat j))) (.int ((zkey.getD 4 []).getD j 0)) ∈ zw_F := by decide +kernel
