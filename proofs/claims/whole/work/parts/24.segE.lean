set_option maxRecDepth 20000 in
theorem gL_append_n {h h2 : zm_H} {x0 : Nat} {x1 : Int32} {x2 : Int32} {x3 : Int32} {x4 : Int32} {x5 : Int32} {x6 : Nat} {z1 : Int32} (e : sX5_append [(.ref x0), (.int x1), (.int x2), (.int x3), (.int x4), (.int x5)] h = some (.inl (some (.int z1)), h2)) : zE vL_append zsc0 rL_append (0, [some (.ref x0), some (.int x1), some (.int x2), some (.int x3), some (.int x4), some (.int x5), some (.ref x6), none], [], h) = zgd ((zK h x0).1 = 11) (zgd ((zK h2 x6).1 = 1 ∧ ¬ ((0 : Int32) < 0 ∨ (zK h2 x6).2 ≤ ((0 : Int32)).toNatClampNeg)) (zlt (zsJ h2 x6 ((0 : Int32)).toNatClampNeg (z1).toInt64) fun h1 => some (.inr (.inl (some (.int (0 : Int32))), h1)))) := by
  show zgd _ (zthr (sX5_append [(.ref x0), (.int x1), (.int x2), (.int x3), (.int x4), (.int x5)] h) _ (znrm _ (sX5_append [(.ref x0), (.int x1), (.int x2), (.int x3), (.int x4), (.int x5)] h) _ _ _ _)) = _
  rw [e]
  rfl
set_option maxRecDepth 20000 in
theorem gL_append_t0 {h h2 : zm_H} {x0 : Nat} {x1 : Int32} {x2 : Int32} {x3 : Int32} {x4 : Int32} {x5 : Int32} {x6 : Nat} (e : sX5_append [(.ref x0), (.int x1), (.int x2), (.int x3), (.int x4), (.int x5)] h = some (.inr 0, h2)) : zE vL_append zsc0 rL_append (0, [some (.ref x0), some (.int x1), some (.int x2), some (.int x3), some (.int x4), some (.int x5), some (.ref x6), none], [], h) = zgd ((zK h x0).1 = 11) (some (.inr (.inl (some (.int (1 : Int32))), h2))) := by
  show zgd _ (zthr (sX5_append [(.ref x0), (.int x1), (.int x2), (.int x3), (.int x4), (.int x5)] h) _ _) = _
  rw [e]
  rfl
set_option maxRecDepth 20000 in
theorem gL_truncate_n {h h2 : zm_H} {x0 : Nat} {x1 : Int32} (e : sX5_truncate [(.ref x0), (.int x1)] h = some (.inl (none), h2)) : zE vL_truncate zsc0 rL_truncate (0, [some (.ref x0), some (.int x1), none], [], h) = zgd ((zK h x0).1 = 11) (some (.inr (.inl (some (.int (0 : Int32))), h2))) := by
  show zgd _ (zthr (sX5_truncate [(.ref x0), (.int x1)] h) _ (znrm _ (sX5_truncate [(.ref x0), (.int x1)] h) _ _ _ _)) = _
  rw [e]
  rfl
set_option maxRecDepth 20000 in
theorem gL_truncate_t1 {h h2 : zm_H} {x0 : Nat} {x1 : Int32} (e : sX5_truncate [(.ref x0), (.int x1)] h = some (.inr 1, h2)) : zE vL_truncate zsc0 rL_truncate (0, [some (.ref x0), some (.int x1), none], [], h) = zgd ((zK h x0).1 = 11) (some (.inr (.inl (some (.int (1 : Int32))), h2))) := by
  show zgd _ (zthr (sX5_truncate [(.ref x0), (.int x1)] h) _ _) = _
  rw [e]
  rfl
set_option maxRecDepth 20000 in
theorem gL_property_n {h h2 : zm_H} {x0 : Nat} {x1 : Int32} {x2 : Nat} {z1 : Int32} (e : sX5_property [(.ref x0), (.int x1)] h = some (.inl (some (.int z1)), h2)) : zE vL_property zsc0 rL_property (0, [some (.ref x0), some (.int x1), some (.ref x2), none], [], h) = zgd ((zK h x0).1 = 11) (zgd ((zK h2 x2).1 = 1 ∧ ¬ ((0 : Int32) < 0 ∨ (zK h2 x2).2 ≤ ((0 : Int32)).toNatClampNeg)) (zlt (zsJ h2 x2 ((0 : Int32)).toNatClampNeg (z1).toInt64) fun h1 => some (.inr (.inl (some (.int (0 : Int32))), h1)))) := by
  show zgd _ (zthr (sX5_property [(.ref x0), (.int x1)] h) _ (znrm _ (sX5_property [(.ref x0), (.int x1)] h) _ _ _ _)) = _
  rw [e]
  rfl
set_option maxRecDepth 20000 in
theorem gL_property_t1 {h h2 : zm_H} {x0 : Nat} {x1 : Int32} {x2 : Nat} (e : sX5_property [(.ref x0), (.int x1)] h = some (.inr 1, h2)) : zE vL_property zsc0 rL_property (0, [some (.ref x0), some (.int x1), some (.ref x2), none], [], h) = zgd ((zK h x0).1 = 11) (some (.inr (.inl (some (.int (1 : Int32))), h2))) := by
  show zgd _ (zthr (sX5_property [(.ref x0), (.int x1)] h) _ _) = _
  rw [e]
  rfl
set_option maxRecDepth 20000 in
theorem gL_room_n {h h2 : zm_H} {x0 : Nat} {x1 : Int32} {x2 : Int32} {x3 : Nat} {z1 : Int32} (e : sX5_room [(.ref x0), (.int x1), (.int x2)] h = some (.inl (some (.int z1)), h2)) : zE vL_room zsc0 rL_room (0, [some (.ref x0), some (.int x1), some (.int x2), some (.ref x3), none], [], h) = zgd ((zK h x0).1 = 11) (zgd ((zK h2 x3).1 = 1 ∧ ¬ ((0 : Int32) < 0 ∨ (zK h2 x3).2 ≤ ((0 : Int32)).toNatClampNeg)) (zlt (zsJ h2 x3 ((0 : Int32)).toNatClampNeg (z1).toInt64) fun h1 => some (.inr (.inl (some (.int (0 : Int32))), h1)))) := by
  show zgd _ (zthr (sX5_room [(.ref x0), (.int x1), (.int x2)] h) _ (znrm _ (sX5_room [(.ref x0), (.int x1), (.int x2)] h) _ _ _ _)) = _
  rw [e]
  rfl
set_option maxRecDepth 20000 in
theorem gL_room_t2 {h h2 : zm_H} {x0 : Nat} {x1 : Int32} {x2 : Int32} {x3 : Nat} (e : sX5_room [(.ref x0), (.int x1), (.int x2)] h = some (.inr 2, h2)) : zE vL_room zsc0 rL_room (0, [some (.ref x0), some (.int x1), some (.int x2), some (.ref x3), none], [], h) = zgd ((zK h x0).1 = 11) (some (.inr (.inl (some (.int (1 : Int32))), h2))) := by
  show zgd _ (zthr (sX5_room [(.ref x0), (.int x1), (.int x2)] h) _ _) = _
  rw [e]
  rfl
set_option maxRecDepth 20000 in
theorem gL_room_t1 {h h2 : zm_H} {x0 : Nat} {x1 : Int32} {x2 : Int32} {x3 : Nat} (e : sX5_room [(.ref x0), (.int x1), (.int x2)] h = some (.inr 1, h2)) : zE vL_room zsc0 rL_room (0, [some (.ref x0), some (.int x1), some (.int x2), some (.ref x3), none], [], h) = zgd ((zK h x0).1 = 11) (some (.inr (.inl (some (.int (2 : Int32))), h2))) := by
  show zgd _ (zthr (sX5_room [(.ref x0), (.int x1), (.int x2)] h) _ _) = _
  rw [e]
  rfl
set_option maxRecDepth 20000 in
theorem gL_door_n {h h2 : zm_H} {x0 : Nat} {x1 : Int32} {x2 : Int32} {x3 : Nat} {z1 : Int32} (e : sX5_door [(.ref x0), (.int x1), (.int x2)] h = some (.inl (some (.int z1)), h2)) : zE vL_door zsc0 rL_door (0, [some (.ref x0), some (.int x1), some (.int x2), some (.ref x3), none], [], h) = zgd ((zK h x0).1 = 11) (zgd ((zK h2 x3).1 = 1 ∧ ¬ ((0 : Int32) < 0 ∨ (zK h2 x3).2 ≤ ((0 : Int32)).toNatClampNeg)) (zlt (zsJ h2 x3 ((0 : Int32)).toNatClampNeg (z1).toInt64) fun h1 => some (.inr (.inl (some (.int (0 : Int32))), h1)))) := by
  show zgd _ (zthr (sX5_door [(.ref x0), (.int x1), (.int x2)] h) _ (znrm _ (sX5_door [(.ref x0), (.int x1), (.int x2)] h) _ _ _ _)) = _
  rw [e]
  rfl
set_option maxRecDepth 20000 in
theorem gL_door_t2 {h h2 : zm_H} {x0 : Nat} {x1 : Int32} {x2 : Int32} {x3 : Nat} (e : sX5_door [(.ref x0), (.int x1), (.int x2)] h = some (.inr 2, h2)) : zE vL_door zsc0 rL_door (0, [some (.ref x0), some (.int x1), some (.int x2), some (.ref x3), none], [], h) = zgd ((zK h x0).1 = 11) (some (.inr (.inl (some (.int (1 : Int32))), h2))) := by
  show zgd _ (zthr (sX5_door [(.ref x0), (.int x1), (.int x2)] h) _ _) = _
  rw [e]
  rfl
set_option maxRecDepth 20000 in
theorem gL_door_t1 {h h2 : zm_H} {x0 : Nat} {x1 : Int32} {x2 : Int32} {x3 : Nat} (e : sX5_door [(.ref x0), (.int x1), (.int x2)] h = some (.inr 1, h2)) : zE vL_door zsc0 rL_door (0, [some (.ref x0), some (.int x1), some (.int x2), some (.ref x3), none], [], h) = zgd ((zK h x0).1 = 11) (some (.inr (.inl (some (.int (2 : Int32))), h2))) := by
  show zgd _ (zthr (sX5_door [(.ref x0), (.int x1), (.int x2)] h) _ _) = _
  rw [e]
  rfl
set_option maxRecDepth 20000 in
theorem gL_walked_n {h h2 : zm_H} {x0 : Nat} {x1 : Int32} {x2 : Nat} {z1 : Int32} (e : sX5_walked [(.ref x0), (.int x1)] h = some (.inl (some (.int z1)), h2)) : zE vL_walked zsc0 rL_walked (0, [some (.ref x0), some (.int x1), some (.ref x2), none], [], h) = zgd ((zK h x0).1 = 11) (zgd ((zK h2 x2).1 = 1 ∧ ¬ ((0 : Int32) < 0 ∨ (zK h2 x2).2 ≤ ((0 : Int32)).toNatClampNeg)) (zlt (zsJ h2 x2 ((0 : Int32)).toNatClampNeg (z1).toInt64) fun h1 => some (.inr (.inl (some (.int (0 : Int32))), h1)))) := by
  show zgd _ (zthr (sX5_walked [(.ref x0), (.int x1)] h) _ (znrm _ (sX5_walked [(.ref x0), (.int x1)] h) _ _ _ _)) = _
  rw [e]
  rfl
set_option maxRecDepth 20000 in
theorem gL_walked_t3 {h h2 : zm_H} {x0 : Nat} {x1 : Int32} {x2 : Nat} (e : sX5_walked [(.ref x0), (.int x1)] h = some (.inr 3, h2)) : zE vL_walked zsc0 rL_walked (0, [some (.ref x0), some (.int x1), some (.ref x2), none], [], h) = zgd ((zK h x0).1 = 11) (some (.inr (.inl (some (.int (1 : Int32))), h2))) := by
  show zgd _ (zthr (sX5_walked [(.ref x0), (.int x1)] h) _ _) = _
  rw [e]
  rfl
set_option maxRecDepth 20000 in
theorem gL_foundAt_n {h h2 : zm_H} {x0 : Nat} {x1 : Int32} {x2 : Nat} {z1 : Int32} (e : sX5_foundAt [(.ref x0), (.int x1)] h = some (.inl (some (.int z1)), h2)) : zE vL_foundAt zsc0 rL_foundAt (0, [some (.ref x0), some (.int x1), some (.ref x2), none], [], h) = zgd ((zK h x0).1 = 11) (zgd ((zK h2 x2).1 = 1 ∧ ¬ ((0 : Int32) < 0 ∨ (zK h2 x2).2 ≤ ((0 : Int32)).toNatClampNeg)) (zlt (zsJ h2 x2 ((0 : Int32)).toNatClampNeg (z1).toInt64) fun h1 => some (.inr (.inl (some (.int (0 : Int32))), h1)))) := by
  show zgd _ (zthr (sX5_foundAt [(.ref x0), (.int x1)] h) _ (znrm _ (sX5_foundAt [(.ref x0), (.int x1)] h) _ _ _ _)) = _
  rw [e]
  rfl
set_option maxRecDepth 20000 in
theorem gL_foundAt_t2 {h h2 : zm_H} {x0 : Nat} {x1 : Int32} {x2 : Nat} (e : sX5_foundAt [(.ref x0), (.int x1)] h = some (.inr 2, h2)) : zE vL_foundAt zsc0 rL_foundAt (0, [some (.ref x0), some (.int x1), some (.ref x2), none], [], h) = zgd ((zK h x0).1 = 11) (some (.inr (.inl (some (.int (1 : Int32))), h2))) := by
  show zgd _ (zthr (sX5_foundAt [(.ref x0), (.int x1)] h) _ _) = _
  rw [e]
  rfl
set_option maxRecDepth 20000 in
theorem gL_why_n {h h2 : zm_H} {x0 : Nat} {x1 : Int32} {x2 : Nat} {z1 : Int32} (e : sX5_why [(.ref x0), (.int x1)] h = some (.inl (some (.int z1)), h2)) : zE vL_why zsc0 rL_why (0, [some (.ref x0), some (.int x1), some (.ref x2), none], [], h) = zgd ((zK h x0).1 = 11) (zgd ((zK h2 x2).1 = 1 ∧ ¬ ((0 : Int32) < 0 ∨ (zK h2 x2).2 ≤ ((0 : Int32)).toNatClampNeg)) (zlt (zsJ h2 x2 ((0 : Int32)).toNatClampNeg (z1).toInt64) fun h1 => some (.inr (.inl (some (.int (0 : Int32))), h1)))) := by
  show zgd _ (zthr (sX5_why [(.ref x0), (.int x1)] h) _ (znrm _ (sX5_why [(.ref x0), (.int x1)] h) _ _ _ _)) = _
  rw [e]
  rfl
set_option maxRecDepth 20000 in
theorem gL_why_t2 {h h2 : zm_H} {x0 : Nat} {x1 : Int32} {x2 : Nat} (e : sX5_why [(.ref x0), (.int x1)] h = some (.inr 2, h2)) : zE vL_why zsc0 rL_why (0, [some (.ref x0), some (.int x1), some (.ref x2), none], [], h) = zgd ((zK h x0).1 = 11) (some (.inr (.inl (some (.int (1 : Int32))), h2))) := by
  show zgd _ (zthr (sX5_why [(.ref x0), (.int x1)] h) _ _) = _
  rw [e]
  rfl
set_option maxRecDepth 20000 in
theorem gL_completionsBy_n {h h2 : zm_H} {x0 : Nat} {x1 : Int32} {x2 : Nat} {z1 : Int64} (e : sX5_completionsBy [(.ref x0), (.int x1)] h = some (.inl (some (.long z1)), h2)) : zE vL_completionsBy zsc0 rL_completionsBy (0, [some (.ref x0), some (.int x1), some (.ref x2), none], [], h) = zgd ((zK h x0).1 = 11) (zgd ((zK h2 x2).1 = 1 ∧ ¬ ((0 : Int32) < 0 ∨ (zK h2 x2).2 ≤ ((0 : Int32)).toNatClampNeg)) (zlt (zsJ h2 x2 ((0 : Int32)).toNatClampNeg z1) fun h1 => some (.inr (.inl (some (.int (0 : Int32))), h1)))) := by
  show zgd _ (zthr (sX5_completionsBy [(.ref x0), (.int x1)] h) _ (znrm _ (sX5_completionsBy [(.ref x0), (.int x1)] h) _ _ _ _)) = _
  rw [e]
  rfl
set_option maxRecDepth 20000 in
theorem gL_completionsBy_t2 {h h2 : zm_H} {x0 : Nat} {x1 : Int32} {x2 : Nat} (e : sX5_completionsBy [(.ref x0), (.int x1)] h = some (.inr 2, h2)) : zE vL_completionsBy zsc0 rL_completionsBy (0, [some (.ref x0), some (.int x1), some (.ref x2), none], [], h) = zgd ((zK h x0).1 = 11) (some (.inr (.inl (some (.int (1 : Int32))), h2))) := by
  show zgd _ (zthr (sX5_completionsBy [(.ref x0), (.int x1)] h) _ _) = _
  rw [e]
  rfl
set_option maxRecDepth 20000 in
theorem gL_tour_n {h h2 : zm_H} {x0 : Nat} {x1 : Int64} {x3 : Int32} {x4 : Nat} {z1 : Int32} (e : sX5_tour [(.ref x0), (.long x1), (.int x3)] h = some (.inl (some (.int z1)), h2)) : zE vL_tour zsc0 rL_tour (0, [some (.ref x0), some (.long x1), none, some (.int x3), some (.ref x4), none], [], h) = zgd ((zK h x0).1 = 11) (zgd ((zK h2 x4).1 = 1 ∧ ¬ ((0 : Int32) < 0 ∨ (zK h2 x4).2 ≤ ((0 : Int32)).toNatClampNeg)) (zlt (zsJ h2 x4 ((0 : Int32)).toNatClampNeg (z1).toInt64) fun h1 => some (.inr (.inl (some (.int (0 : Int32))), h1)))) := by
  show zgd _ (zthr (sX5_tour [(.ref x0), (.long x1), (.int x3)] h) _ (znrm _ (sX5_tour [(.ref x0), (.long x1), (.int x3)] h) _ _ _ _)) = _
  rw [e]
  rfl
set_option maxRecDepth 20000 in
theorem gL_tour_t1 {h h2 : zm_H} {x0 : Nat} {x1 : Int64} {x3 : Int32} {x4 : Nat} (e : sX5_tour [(.ref x0), (.long x1), (.int x3)] h = some (.inr 1, h2)) : zE vL_tour zsc0 rL_tour (0, [some (.ref x0), some (.long x1), none, some (.int x3), some (.ref x4), none], [], h) = zgd ((zK h x0).1 = 11) (some (.inr (.inl (some (.int (1 : Int32))), h2))) := by
  show zgd _ (zthr (sX5_tour [(.ref x0), (.long x1), (.int x3)] h) _ _) = _
  rw [e]
  rfl
set_option maxRecDepth 20000 in
theorem gL_toursFrom_n {h h2 : zm_H} {x0 : Nat} {x1 : Int32} {x2 : Nat} {z1 : Int64} (e : sX5_toursFrom [(.ref x0), (.int x1)] h = some (.inl (some (.long z1)), h2)) : zE vL_toursFrom zsc0 rL_toursFrom (0, [some (.ref x0), some (.int x1), some (.ref x2), none], [], h) = zgd ((zK h x0).1 = 11) (zgd ((zK h2 x2).1 = 1 ∧ ¬ ((0 : Int32) < 0 ∨ (zK h2 x2).2 ≤ ((0 : Int32)).toNatClampNeg)) (zlt (zsJ h2 x2 ((0 : Int32)).toNatClampNeg z1) fun h1 => some (.inr (.inl (some (.int (0 : Int32))), h1)))) := by
  show zgd _ (zthr (sX5_toursFrom [(.ref x0), (.int x1)] h) _ (znrm _ (sX5_toursFrom [(.ref x0), (.int x1)] h) _ _ _ _)) = _
  rw [e]
  rfl
set_option maxRecDepth 20000 in
theorem gL_toursFrom_t2 {h h2 : zm_H} {x0 : Nat} {x1 : Int32} {x2 : Nat} (e : sX5_toursFrom [(.ref x0), (.int x1)] h = some (.inr 2, h2)) : zE vL_toursFrom zsc0 rL_toursFrom (0, [some (.ref x0), some (.int x1), some (.ref x2), none], [], h) = zgd ((zK h x0).1 = 11) (some (.inr (.inl (some (.int (1 : Int32))), h2))) := by
  show zgd _ (zthr (sX5_toursFrom [(.ref x0), (.int x1)] h) _ _) = _
  rw [e]
  rfl
set_option maxRecDepth 20000 in
theorem gL_toursTo_n {h h2 : zm_H} {x0 : Nat} {x1 : Int32} {x2 : Nat} {z1 : Int64} (e : sX5_toursTo [(.ref x0), (.int x1)] h = some (.inl (some (.long z1)), h2)) : zE vL_toursTo zsc0 rL_toursTo (0, [some (.ref x0), some (.int x1), some (.ref x2), none], [], h) = zgd ((zK h x0).1 = 11) (zgd ((zK h2 x2).1 = 1 ∧ ¬ ((0 : Int32) < 0 ∨ (zK h2 x2).2 ≤ ((0 : Int32)).toNatClampNeg)) (zlt (zsJ h2 x2 ((0 : Int32)).toNatClampNeg z1) fun h1 => some (.inr (.inl (some (.int (0 : Int32))), h1)))) := by
  show zgd _ (zthr (sX5_toursTo [(.ref x0), (.int x1)] h) _ (znrm _ (sX5_toursTo [(.ref x0), (.int x1)] h) _ _ _ _)) = _
  rw [e]
  rfl
set_option maxRecDepth 20000 in
theorem gL_toursTo_t2 {h h2 : zm_H} {x0 : Nat} {x1 : Int32} {x2 : Nat} (e : sX5_toursTo [(.ref x0), (.int x1)] h = some (.inr 2, h2)) : zE vL_toursTo zsc0 rL_toursTo (0, [some (.ref x0), some (.int x1), some (.ref x2), none], [], h) = zgd ((zK h x0).1 = 11) (some (.inr (.inl (some (.int (1 : Int32))), h2))) := by
  show zgd _ (zthr (sX5_toursTo [(.ref x0), (.int x1)] h) _ _) = _
  rw [e]
  rfl
set_option maxRecDepth 20000 in
theorem gL_without_n {h h2 : zm_H} {x0 : Nat} {x1 : Int32} {x2 : Nat} {z1 : Int64} (e : sX5_without [(.ref x0), (.int x1)] h = some (.inl (some (.long z1)), h2)) : zE vL_without zsc0 rL_without (0, [some (.ref x0), some (.int x1), some (.ref x2), none], [], h) = zgd ((zK h x0).1 = 11) (zgd ((zK h2 x2).1 = 1 ∧ ¬ ((0 : Int32) < 0 ∨ (zK h2 x2).2 ≤ ((0 : Int32)).toNatClampNeg)) (zlt (zsJ h2 x2 ((0 : Int32)).toNatClampNeg z1) fun h1 => some (.inr (.inl (some (.int (0 : Int32))), h1)))) := by
  show zgd _ (zthr (sX5_without [(.ref x0), (.int x1)] h) _ (znrm _ (sX5_without [(.ref x0), (.int x1)] h) _ _ _ _)) = _
  rw [e]
  rfl
set_option maxRecDepth 20000 in
theorem gL_without_t2 {h h2 : zm_H} {x0 : Nat} {x1 : Int32} {x2 : Nat} (e : sX5_without [(.ref x0), (.int x1)] h = some (.inr 2, h2)) : zE vL_without zsc0 rL_without (0, [some (.ref x0), some (.int x1), some (.ref x2), none], [], h) = zgd ((zK h x0).1 = 11) (some (.inr (.inl (some (.int (1 : Int32))), h2))) := by
  show zgd _ (zthr (sX5_without [(.ref x0), (.int x1)] h) _ _) = _
  rw [e]
  rfl
set_option maxRecDepth 20000 in
theorem gL_toursWithout_n {h h2 : zm_H} {x0 : Nat} {x1 : Int32} {x2 : Nat} {z1 : Int64} (e : sX5_toursWithout [(.ref x0), (.int x1)] h = some (.inl (some (.long z1)), h2)) : zE vL_toursWithout zsc0 rL_toursWithout (0, [some (.ref x0), some (.int x1), some (.ref x2), none], [], h) = zgd ((zK h x0).1 = 11) (zgd ((zK h2 x2).1 = 1 ∧ ¬ ((0 : Int32) < 0 ∨ (zK h2 x2).2 ≤ ((0 : Int32)).toNatClampNeg)) (zlt (zsJ h2 x2 ((0 : Int32)).toNatClampNeg z1) fun h1 => some (.inr (.inl (some (.int (0 : Int32))), h1)))) := by
  show zgd _ (zthr (sX5_toursWithout [(.ref x0), (.int x1)] h) _ (znrm _ (sX5_toursWithout [(.ref x0), (.int x1)] h) _ _ _ _)) = _
  rw [e]
  rfl
set_option maxRecDepth 20000 in
theorem gL_toursWithout_t2 {h h2 : zm_H} {x0 : Nat} {x1 : Int32} {x2 : Nat} (e : sX5_toursWithout [(.ref x0), (.int x1)] h = some (.inr 2, h2)) : zE vL_toursWithout zsc0 rL_toursWithout (0, [some (.ref x0), some (.int x1), some (.ref x2), none], [], h) = zgd ((zK h x0).1 = 11) (some (.inr (.inl (some (.int (1 : Int32))), h2))) := by
  show zgd _ (zthr (sX5_toursWithout [(.ref x0), (.int x1)] h) _ _) = _
  rw [e]
  rfl
set_option maxRecDepth 20000 in
theorem gL_toursIfOpen_n {h h2 : zm_H} {x0 : Nat} {x1 : Int32} {x2 : Nat} {z1 : Int64} (e : sX5_toursIfOpen [(.ref x0), (.int x1)] h = some (.inl (some (.long z1)), h2)) : zE vL_toursIfOpen zsc0 rL_toursIfOpen (0, [some (.ref x0), some (.int x1), some (.ref x2), none], [], h) = zgd ((zK h x0).1 = 11) (zgd ((zK h2 x2).1 = 1 ∧ ¬ ((0 : Int32) < 0 ∨ (zK h2 x2).2 ≤ ((0 : Int32)).toNatClampNeg)) (zlt (zsJ h2 x2 ((0 : Int32)).toNatClampNeg z1) fun h1 => some (.inr (.inl (some (.int (0 : Int32))), h1)))) := by
  show zgd _ (zthr (sX5_toursIfOpen [(.ref x0), (.int x1)] h) _ (znrm _ (sX5_toursIfOpen [(.ref x0), (.int x1)] h) _ _ _ _)) = _
  rw [e]
  rfl
set_option maxRecDepth 20000 in
theorem gL_toursIfOpen_t2 {h h2 : zm_H} {x0 : Nat} {x1 : Int32} {x2 : Nat} (e : sX5_toursIfOpen [(.ref x0), (.int x1)] h = some (.inr 2, h2)) : zE vL_toursIfOpen zsc0 rL_toursIfOpen (0, [some (.ref x0), some (.int x1), some (.ref x2), none], [], h) = zgd ((zK h x0).1 = 11) (some (.inr (.inl (some (.int (1 : Int32))), h2))) := by
  show zgd _ (zthr (sX5_toursIfOpen [(.ref x0), (.int x1)] h) _ _) = _
  rw [e]
  rfl
set_option maxRecDepth 20000 in
theorem gL_ahead_n {h h2 : zm_H} {x0 : Nat} {x1 : Int32} {x2 : Int32} {x3 : Nat} {z1 : Int64} (e : sX5_ahead [(.ref x0), (.int x1), (.int x2)] h = some (.inl (some (.long z1)), h2)) : zE vL_ahead zsc0 rL_ahead (0, [some (.ref x0), some (.int x1), some (.int x2), some (.ref x3), none], [], h) = zgd ((zK h x0).1 = 11) (zgd ((zK h2 x3).1 = 1 ∧ ¬ ((0 : Int32) < 0 ∨ (zK h2 x3).2 ≤ ((0 : Int32)).toNatClampNeg)) (zlt (zsJ h2 x3 ((0 : Int32)).toNatClampNeg z1) fun h1 => some (.inr (.inl (some (.int (0 : Int32))), h1)))) := by
  show zgd _ (zthr (sX5_ahead [(.ref x0), (.int x1), (.int x2)] h) _ (znrm _ (sX5_ahead [(.ref x0), (.int x1), (.int x2)] h) _ _ _ _)) = _
  rw [e]
  rfl
set_option maxRecDepth 20000 in
theorem gL_ahead_t2 {h h2 : zm_H} {x0 : Nat} {x1 : Int32} {x2 : Int32} {x3 : Nat} (e : sX5_ahead [(.ref x0), (.int x1), (.int x2)] h = some (.inr 2, h2)) : zE vL_ahead zsc0 rL_ahead (0, [some (.ref x0), some (.int x1), some (.int x2), some (.ref x3), none], [], h) = zgd ((zK h x0).1 = 11) (some (.inr (.inl (some (.int (1 : Int32))), h2))) := by
  show zgd _ (zthr (sX5_ahead [(.ref x0), (.int x1), (.int x2)] h) _ _) = _
  rw [e]
  rfl
set_option maxRecDepth 20000 in
theorem gL_ahead_t1 {h h2 : zm_H} {x0 : Nat} {x1 : Int32} {x2 : Int32} {x3 : Nat} (e : sX5_ahead [(.ref x0), (.int x1), (.int x2)] h = some (.inr 1, h2)) : zE vL_ahead zsc0 rL_ahead (0, [some (.ref x0), some (.int x1), some (.int x2), some (.ref x3), none], [], h) = zgd ((zK h x0).1 = 11) (some (.inr (.inl (some (.int (2 : Int32))), h2))) := by
  show zgd _ (zthr (sX5_ahead [(.ref x0), (.int x1), (.int x2)] h) _ _) = _
  rw [e]
  rfl
set_option maxRecDepth 20000 in
theorem gL_atPlace_n {h h2 : zm_H} {x0 : Nat} {x1 : Int32} {x2 : Int32} {x3 : Nat} {z1 : Int64} (e : sX5_atPlace [(.ref x0), (.int x1), (.int x2)] h = some (.inl (some (.long z1)), h2)) : zE vL_atPlace zsc0 rL_atPlace (0, [some (.ref x0), some (.int x1), some (.int x2), some (.ref x3), none], [], h) = zgd ((zK h x0).1 = 11) (zgd ((zK h2 x3).1 = 1 ∧ ¬ ((0 : Int32) < 0 ∨ (zK h2 x3).2 ≤ ((0 : Int32)).toNatClampNeg)) (zlt (zsJ h2 x3 ((0 : Int32)).toNatClampNeg z1) fun h1 => some (.inr (.inl (some (.int (0 : Int32))), h1)))) := by
  show zgd _ (zthr (sX5_atPlace [(.ref x0), (.int x1), (.int x2)] h) _ (znrm _ (sX5_atPlace [(.ref x0), (.int x1), (.int x2)] h) _ _ _ _)) = _
  rw [e]
  rfl
set_option maxRecDepth 20000 in
theorem gL_atPlace_t2 {h h2 : zm_H} {x0 : Nat} {x1 : Int32} {x2 : Int32} {x3 : Nat} (e : sX5_atPlace [(.ref x0), (.int x1), (.int x2)] h = some (.inr 2, h2)) : zE vL_atPlace zsc0 rL_atPlace (0, [some (.ref x0), some (.int x1), some (.int x2), some (.ref x3), none], [], h) = zgd ((zK h x0).1 = 11) (some (.inr (.inl (some (.int (1 : Int32))), h2))) := by
  show zgd _ (zthr (sX5_atPlace [(.ref x0), (.int x1), (.int x2)] h) _ _) = _
  rw [e]
  rfl
set_option maxRecDepth 20000 in
theorem gL_atPlace_t1 {h h2 : zm_H} {x0 : Nat} {x1 : Int32} {x2 : Int32} {x3 : Nat} (e : sX5_atPlace [(.ref x0), (.int x1), (.int x2)] h = some (.inr 1, h2)) : zE vL_atPlace zsc0 rL_atPlace (0, [some (.ref x0), some (.int x1), some (.int x2), some (.ref x3), none], [], h) = zgd ((zK h x0).1 = 11) (some (.inr (.inl (some (.int (2 : Int32))), h2))) := by
  show zgd _ (zthr (sX5_atPlace [(.ref x0), (.int x1), (.int x2)] h) _ _) = _
  rw [e]
  rfl
set_option maxRecDepth 20000 in
theorem gL_behind_n {h h2 : zm_H} {x0 : Nat} {x1 : Int32} {x2 : Int32} {x3 : Nat} {z1 : Int64} (e : sX5_behind [(.ref x0), (.int x1), (.int x2)] h = some (.inl (some (.long z1)), h2)) : zE vL_behind zsc0 rL_behind (0, [some (.ref x0), some (.int x1), some (.int x2), some (.ref x3), none], [], h) = zgd ((zK h x0).1 = 11) (zgd ((zK h2 x3).1 = 1 ∧ ¬ ((0 : Int32) < 0 ∨ (zK h2 x3).2 ≤ ((0 : Int32)).toNatClampNeg)) (zlt (zsJ h2 x3 ((0 : Int32)).toNatClampNeg z1) fun h1 => some (.inr (.inl (some (.int (0 : Int32))), h1)))) := by
  show zgd _ (zthr (sX5_behind [(.ref x0), (.int x1), (.int x2)] h) _ (znrm _ (sX5_behind [(.ref x0), (.int x1), (.int x2)] h) _ _ _ _)) = _
  rw [e]
  rfl
set_option maxRecDepth 20000 in
theorem gL_behind_t2 {h h2 : zm_H} {x0 : Nat} {x1 : Int32} {x2 : Int32} {x3 : Nat} (e : sX5_behind [(.ref x0), (.int x1), (.int x2)] h = some (.inr 2, h2)) : zE vL_behind zsc0 rL_behind (0, [some (.ref x0), some (.int x1), some (.int x2), some (.ref x3), none], [], h) = zgd ((zK h x0).1 = 11) (some (.inr (.inl (some (.int (1 : Int32))), h2))) := by
  show zgd _ (zthr (sX5_behind [(.ref x0), (.int x1), (.int x2)] h) _ _) = _
  rw [e]
  rfl
set_option maxRecDepth 20000 in
theorem gL_behind_t1 {h h2 : zm_H} {x0 : Nat} {x1 : Int32} {x2 : Int32} {x3 : Nat} (e : sX5_behind [(.ref x0), (.int x1), (.int x2)] h = some (.inr 1, h2)) : zE vL_behind zsc0 rL_behind (0, [some (.ref x0), some (.int x1), some (.int x2), some (.ref x3), none], [], h) = zgd ((zK h x0).1 = 11) (some (.inr (.inl (some (.int (2 : Int32))), h2))) := by
  show zgd _ (zthr (sX5_behind [(.ref x0), (.int x1), (.int x2)] h) _ _) = _
  rw [e]
  rfl
set_option maxRecDepth 20000 in
theorem gL_share_n {h h2 : zm_H} {x0 : Nat} {x1 : Int32} {x2 : Int32} {x3 : Nat} {z1 : UInt64} (e : sX5_share [(.ref x0), (.int x1), (.int x2)] h = some (.inl (some (.double z1)), h2)) : zE vL_share zsc0 rL_share (0, [some (.ref x0), some (.int x1), some (.int x2), some (.ref x3), none], [], h) = zgd ((zK h x0).1 = 11) (zgd ((zK h2 x3).1 = 4 ∧ ¬ ((0 : Int32) < 0 ∨ (zK h2 x3).2 ≤ ((0 : Int32)).toNatClampNeg)) (zlt (zsD h2 x3 ((0 : Int32)).toNatClampNeg z1) fun h1 => some (.inr (.inl (some (.int (0 : Int32))), h1)))) := by
  show zgd _ (zthr (sX5_share [(.ref x0), (.int x1), (.int x2)] h) _ (znrm _ (sX5_share [(.ref x0), (.int x1), (.int x2)] h) _ _ _ _)) = _
  rw [e]
  rfl
set_option maxRecDepth 20000 in
theorem gL_share_t2 {h h2 : zm_H} {x0 : Nat} {x1 : Int32} {x2 : Int32} {x3 : Nat} (e : sX5_share [(.ref x0), (.int x1), (.int x2)] h = some (.inr 2, h2)) : zE vL_share zsc0 rL_share (0, [some (.ref x0), some (.int x1), some (.int x2), some (.ref x3), none], [], h) = zgd ((zK h x0).1 = 11) (some (.inr (.inl (some (.int (1 : Int32))), h2))) := by
  show zgd _ (zthr (sX5_share [(.ref x0), (.int x1), (.int x2)] h) _ _) = _
  rw [e]
  rfl
set_option maxRecDepth 20000 in
theorem gL_share_t1 {h h2 : zm_H} {x0 : Nat} {x1 : Int32} {x2 : Int32} {x3 : Nat} (e : sX5_share [(.ref x0), (.int x1), (.int x2)] h = some (.inr 1, h2)) : zE vL_share zsc0 rL_share (0, [some (.ref x0), some (.int x1), some (.int x2), some (.ref x3), none], [], h) = zgd ((zK h x0).1 = 11) (some (.inr (.inl (some (.int (2 : Int32))), h2))) := by
  show zgd _ (zthr (sX5_share [(.ref x0), (.int x1), (.int x2)] h) _ _) = _
  rw [e]
  rfl
set_option maxRecDepth 20000 in
theorem gL_go_n {h h2 : zm_H} {x0 : Nat} {x1 : Int32} {x2 : Nat} {z1 : Int64} (e : sX5_go [(.ref x0), (.int x1)] h = some (.inl (some (.long z1)), h2)) : zE vL_go zsc0 rL_go (0, [some (.ref x0), some (.int x1), some (.ref x2), none], [], h) = zgd ((zK h x0).1 = 11) (zgd ((zK h2 x2).1 = 1 ∧ ¬ ((0 : Int32) < 0 ∨ (zK h2 x2).2 ≤ ((0 : Int32)).toNatClampNeg)) (zlt (zsJ h2 x2 ((0 : Int32)).toNatClampNeg z1) fun h1 => some (.inr (.inl (some (.int (0 : Int32))), h1)))) := by
  show zgd _ (zthr (sX5_go [(.ref x0), (.int x1)] h) _ (znrm _ (sX5_go [(.ref x0), (.int x1)] h) _ _ _ _)) = _
  rw [e]
  rfl
set_option maxRecDepth 20000 in
theorem gL_go_t2 {h h2 : zm_H} {x0 : Nat} {x1 : Int32} {x2 : Nat} (e : sX5_go [(.ref x0), (.int x1)] h = some (.inr 2, h2)) : zE vL_go zsc0 rL_go (0, [some (.ref x0), some (.int x1), some (.ref x2), none], [], h) = zgd ((zK h x0).1 = 11) (some (.inr (.inl (some (.int (1 : Int32))), h2))) := by
  show zgd _ (zthr (sX5_go [(.ref x0), (.int x1)] h) _ _) = _
  rw [e]
  rfl
set_option maxRecDepth 20000 in
theorem gL_go_t0 {h h2 : zm_H} {x0 : Nat} {x1 : Int32} {x2 : Nat} (e : sX5_go [(.ref x0), (.int x1)] h = some (.inr 0, h2)) : zE vL_go zsc0 rL_go (0, [some (.ref x0), some (.int x1), some (.ref x2), none], [], h) = zgd ((zK h x0).1 = 11) (some (.inr (.inl (some (.int (2 : Int32))), h2))) := by
  show zgd _ (zthr (sX5_go [(.ref x0), (.int x1)] h) _ _) = _
  rw [e]
  rfl
set_option maxRecDepth 20000 in
theorem gL_back_n {h h2 : zm_H} {x0 : Nat} {x1 : Int32} {x2 : Nat} {z1 : Int32} (e : sX5_back [(.ref x0), (.int x1)] h = some (.inl (some (.int z1)), h2)) : zE vL_back zsc0 rL_back (0, [some (.ref x0), some (.int x1), some (.ref x2), none], [], h) = zgd ((zK h x0).1 = 11) (zgd ((zK h2 x2).1 = 1 ∧ ¬ ((0 : Int32) < 0 ∨ (zK h2 x2).2 ≤ ((0 : Int32)).toNatClampNeg)) (zlt (zsJ h2 x2 ((0 : Int32)).toNatClampNeg (z1).toInt64) fun h1 => some (.inr (.inl (some (.int (0 : Int32))), h1)))) := by
  show zgd _ (zthr (sX5_back [(.ref x0), (.int x1)] h) _ (znrm _ (sX5_back [(.ref x0), (.int x1)] h) _ _ _ _)) = _
  rw [e]
  rfl
set_option maxRecDepth 20000 in
theorem gL_back_t1 {h h2 : zm_H} {x0 : Nat} {x1 : Int32} {x2 : Nat} (e : sX5_back [(.ref x0), (.int x1)] h = some (.inr 1, h2)) : zE vL_back zsc0 rL_back (0, [some (.ref x0), some (.int x1), some (.ref x2), none], [], h) = zgd ((zK h x0).1 = 11) (some (.inr (.inl (some (.int (1 : Int32))), h2))) := by
  show zgd _ (zthr (sX5_back [(.ref x0), (.int x1)] h) _ _) = _
  rw [e]
  rfl
set_option maxRecDepth 20000 in
theorem gL_complete_n {h h2 : zm_H} {x0 : Nat} {x1 : Nat} {z1 : Int32} (e : sX5_complete [(.ref x0)] h = some (.inl (some (.int z1)), h2)) : zE vL_complete zsc0 rL_complete (0, [some (.ref x0), some (.ref x1), none], [], h) = zgd ((zK h x0).1 = 11) (zgd ((zK h2 x1).1 = 1 ∧ ¬ ((0 : Int32) < 0 ∨ (zK h2 x1).2 ≤ ((0 : Int32)).toNatClampNeg)) (zlt (zsJ h2 x1 ((0 : Int32)).toNatClampNeg (z1).toInt64) fun h1 => some (.inr (.inl (some (.int (0 : Int32))), h1)))) := by
  show zgd _ (zthr (sX5_complete [(.ref x0)] h) _ (znrm _ (sX5_complete [(.ref x0)] h) _ _ _ _)) = _
  rw [e]
  rfl
set_option maxRecDepth 20000 in
theorem gL_complete_t0 {h h2 : zm_H} {x0 : Nat} {x1 : Nat} (e : sX5_complete [(.ref x0)] h = some (.inr 0, h2)) : zE vL_complete zsc0 rL_complete (0, [some (.ref x0), some (.ref x1), none], [], h) = zgd ((zK h x0).1 = 11) (some (.inr (.inl (some (.int (1 : Int32))), h2))) := by
  show zgd _ (zthr (sX5_complete [(.ref x0)] h) _ _) = _
  rw [e]
  rfl
set_option maxRecDepth 20000 in
theorem gL_walk_n {h h2 : zm_H} {x0 : Nat} {x1 : Int64} {x3 : Nat} {z1 : Int32} (e : sX5_walk [(.ref x0), (.long x1)] h = some (.inl (some (.int z1)), h2)) : zE vL_walk zsc0 rL_walk (0, [some (.ref x0), some (.long x1), none, some (.ref x3), none], [], h) = zgd ((zK h x0).1 = 11) (zgd ((zK h2 x3).1 = 1 ∧ ¬ ((0 : Int32) < 0 ∨ (zK h2 x3).2 ≤ ((0 : Int32)).toNatClampNeg)) (zlt (zsJ h2 x3 ((0 : Int32)).toNatClampNeg (z1).toInt64) fun h1 => some (.inr (.inl (some (.int (0 : Int32))), h1)))) := by
  show zgd _ (zthr (sX5_walk [(.ref x0), (.long x1)] h) _ (znrm _ (sX5_walk [(.ref x0), (.long x1)] h) _ _ _ _)) = _
  rw [e]
  rfl
set_option maxRecDepth 20000 in
theorem gL_walk_t1 {h h2 : zm_H} {x0 : Nat} {x1 : Int64} {x3 : Nat} (e : sX5_walk [(.ref x0), (.long x1)] h = some (.inr 1, h2)) : zE vL_walk zsc0 rL_walk (0, [some (.ref x0), some (.long x1), none, some (.ref x3), none], [], h) = zgd ((zK h x0).1 = 11) (some (.inr (.inl (some (.int (1 : Int32))), h2))) := by
  show zgd _ (zthr (sX5_walk [(.ref x0), (.long x1)] h) _ _) = _
  rw [e]
  rfl
set_option maxRecDepth 20000 in
theorem gL_setKey_n {h h2 : zm_H} {x0 : Nat} {x1 : Int32} {x2 : Int32} {x3 : Int32} {x4 : Nat} {z1 : Int32} (e : sX5_setKey [(.ref x0), (.int x1), (.int x2), (.int x3)] h = some (.inl (some (.int z1)), h2)) : zE vL_setKey zsc0 rL_setKey (0, [some (.ref x0), some (.int x1), some (.int x2), some (.int x3), some (.ref x4), none], [], h) = zgd ((zK h x0).1 = 11) ((if z1 = 0 then zgd ((zK h2 x4).1 = 1 ∧ ¬ ((0 : Int32) < 0 ∨ (zK h2 x4).2 ≤ ((0 : Int32)).toNatClampNeg)) (zlt (zsJ h2 x4 ((0 : Int32)).toNatClampNeg (0 : Int64)) fun h1 => some (.inr (.inl (some (.int (0 : Int32))), h1))) else zgd ((zK h2 x4).1 = 1 ∧ ¬ ((0 : Int32) < 0 ∨ (zK h2 x4).2 ≤ ((0 : Int32)).toNatClampNeg)) (zlt (zsJ h2 x4 ((0 : Int32)).toNatClampNeg (1 : Int64)) fun h2 => some (.inr (.inl (some (.int (0 : Int32))), h2))))) := by
  show zgd _ (zthr (sX5_setKey [(.ref x0), (.int x1), (.int x2), (.int x3)] h) _ (znrm _ (sX5_setKey [(.ref x0), (.int x1), (.int x2), (.int x3)] h) _ _ _ _)) = _
  rw [e]
  rfl
set_option maxRecDepth 20000 in
theorem gL_setKey_t2 {h h2 : zm_H} {x0 : Nat} {x1 : Int32} {x2 : Int32} {x3 : Int32} {x4 : Nat} (e : sX5_setKey [(.ref x0), (.int x1), (.int x2), (.int x3)] h = some (.inr 2, h2)) : zE vL_setKey zsc0 rL_setKey (0, [some (.ref x0), some (.int x1), some (.int x2), some (.int x3), some (.ref x4), none], [], h) = zgd ((zK h x0).1 = 11) (some (.inr (.inl (some (.int (1 : Int32))), h2))) := by
  show zgd _ (zthr (sX5_setKey [(.ref x0), (.int x1), (.int x2), (.int x3)] h) _ _) = _
  rw [e]
  rfl
set_option maxRecDepth 20000 in
theorem gL_setCoins_n {h h2 : zm_H} {x0 : Nat} {x1 : Int32} {x2 : Int32} {x3 : Nat} {z1 : Int32} (e : sX5_setCoins [(.ref x0), (.int x1), (.int x2)] h = some (.inl (some (.int z1)), h2)) : zE vL_setCoins zsc0 rL_setCoins (0, [some (.ref x0), some (.int x1), some (.int x2), some (.ref x3), none], [], h) = zgd ((zK h x0).1 = 11) (zgd ((zK h2 x3).1 = 1 ∧ ¬ ((0 : Int32) < 0 ∨ (zK h2 x3).2 ≤ ((0 : Int32)).toNatClampNeg)) (zlt (zsJ h2 x3 ((0 : Int32)).toNatClampNeg (z1).toInt64) fun h1 => some (.inr (.inl (some (.int (0 : Int32))), h1)))) := by
  show zgd _ (zthr (sX5_setCoins [(.ref x0), (.int x1), (.int x2)] h) _ (znrm _ (sX5_setCoins [(.ref x0), (.int x1), (.int x2)] h) _ _ _ _)) = _
  rw [e]
  rfl
set_option maxRecDepth 20000 in
theorem gL_setCoins_t2 {h h2 : zm_H} {x0 : Nat} {x1 : Int32} {x2 : Int32} {x3 : Nat} (e : sX5_setCoins [(.ref x0), (.int x1), (.int x2)] h = some (.inr 2, h2)) : zE vL_setCoins zsc0 rL_setCoins (0, [some (.ref x0), some (.int x1), some (.int x2), some (.ref x3), none], [], h) = zgd ((zK h x0).1 = 11) (some (.inr (.inl (some (.int (1 : Int32))), h2))) := by
  show zgd _ (zthr (sX5_setCoins [(.ref x0), (.int x1), (.int x2)] h) _ _) = _
  rw [e]
  rfl
set_option maxRecDepth 20000 in
theorem gL_setCoins_t1 {h h2 : zm_H} {x0 : Nat} {x1 : Int32} {x2 : Int32} {x3 : Nat} (e : sX5_setCoins [(.ref x0), (.int x1), (.int x2)] h = some (.inr 1, h2)) : zE vL_setCoins zsc0 rL_setCoins (0, [some (.ref x0), some (.int x1), some (.int x2), some (.ref x3), none], [], h) = zgd ((zK h x0).1 = 11) (some (.inr (.inl (some (.int (2 : Int32))), h2))) := by
  show zgd _ (zthr (sX5_setCoins [(.ref x0), (.int x1), (.int x2)] h) _ _) = _
  rw [e]
  rfl
set_option maxRecDepth 20000 in
theorem gL_setLock_n {h h2 : zm_H} {x0 : Nat} {x1 : Int32} {x2 : Int32} {x3 : Int32} {x4 : Nat} {z1 : Int32} (e : sX5_setLock [(.ref x0), (.int x1), (.int x2), (.int x3)] h = some (.inl (some (.int z1)), h2)) : zE vL_setLock zsc0 rL_setLock (0, [some (.ref x0), some (.int x1), some (.int x2), some (.int x3), some (.ref x4), none], [], h) = zgd ((zK h x0).1 = 11) (zgd ((zK h2 x4).1 = 1 ∧ ¬ ((0 : Int32) < 0 ∨ (zK h2 x4).2 ≤ ((0 : Int32)).toNatClampNeg)) (zlt (zsJ h2 x4 ((0 : Int32)).toNatClampNeg (z1).toInt64) fun h1 => some (.inr (.inl (some (.int (0 : Int32))), h1)))) := by
  show zgd _ (zthr (sX5_setLock [(.ref x0), (.int x1), (.int x2), (.int x3)] h) _ (znrm _ (sX5_setLock [(.ref x0), (.int x1), (.int x2), (.int x3)] h) _ _ _ _)) = _
  rw [e]
  rfl
set_option maxRecDepth 20000 in
theorem gL_setLock_t2 {h h2 : zm_H} {x0 : Nat} {x1 : Int32} {x2 : Int32} {x3 : Int32} {x4 : Nat} (e : sX5_setLock [(.ref x0), (.int x1), (.int x2), (.int x3)] h = some (.inr 2, h2)) : zE vL_setLock zsc0 rL_setLock (0, [some (.ref x0), some (.int x1), some (.int x2), some (.int x3), some (.ref x4), none], [], h) = zgd ((zK h x0).1 = 11) (some (.inr (.inl (some (.int (1 : Int32))), h2))) := by
  show zgd _ (zthr (sX5_setLock [(.ref x0), (.int x1), (.int x2), (.int x3)] h) _ _) = _
  rw [e]
  rfl
set_option maxRecDepth 20000 in
theorem gL_setLock_t1 {h h2 : zm_H} {x0 : Nat} {x1 : Int32} {x2 : Int32} {x3 : Int32} {x4 : Nat} (e : sX5_setLock [(.ref x0), (.int x1), (.int x2), (.int x3)] h = some (.inr 1, h2)) : zE vL_setLock zsc0 rL_setLock (0, [some (.ref x0), some (.int x1), some (.int x2), some (.int x3), some (.ref x4), none], [], h) = zgd ((zK h x0).1 = 11) (some (.inr (.inl (some (.int (2 : Int32))), h2))) := by
  show zgd _ (zthr (sX5_setLock [(.ref x0), (.int x1), (.int x2), (.int x3)] h) _ _) = _
  rw [e]
  rfl
set_option maxRecDepth 20000 in
theorem gL_addDoor_n {h h2 : zm_H} {x0 : Nat} {x1 : Int32} {x2 : Int32} {x3 : Int32} {x4 : Nat} {z1 : Int32} (e : sX5_addDoor [(.ref x0), (.int x1), (.int x2), (.int x3)] h = some (.inl (some (.int z1)), h2)) : zE vL_addDoor zsc0 rL_addDoor (0, [some (.ref x0), some (.int x1), some (.int x2), some (.int x3), some (.ref x4), none], [], h) = zgd ((zK h x0).1 = 11) (zgd ((zK h2 x4).1 = 1 ∧ ¬ ((0 : Int32) < 0 ∨ (zK h2 x4).2 ≤ ((0 : Int32)).toNatClampNeg)) (zlt (zsJ h2 x4 ((0 : Int32)).toNatClampNeg (z1).toInt64) fun h1 => some (.inr (.inl (some (.int (0 : Int32))), h1)))) := by
  show zgd _ (zthr (sX5_addDoor [(.ref x0), (.int x1), (.int x2), (.int x3)] h) _ (znrm _ (sX5_addDoor [(.ref x0), (.int x1), (.int x2), (.int x3)] h) _ _ _ _)) = _
  rw [e]
  rfl
set_option maxRecDepth 20000 in
theorem gL_addDoor_t2 {h h2 : zm_H} {x0 : Nat} {x1 : Int32} {x2 : Int32} {x3 : Int32} {x4 : Nat} (e : sX5_addDoor [(.ref x0), (.int x1), (.int x2), (.int x3)] h = some (.inr 2, h2)) : zE vL_addDoor zsc0 rL_addDoor (0, [some (.ref x0), some (.int x1), some (.int x2), some (.int x3), some (.ref x4), none], [], h) = zgd ((zK h x0).1 = 11) (some (.inr (.inl (some (.int (1 : Int32))), h2))) := by
  show zgd _ (zthr (sX5_addDoor [(.ref x0), (.int x1), (.int x2), (.int x3)] h) _ _) = _
  rw [e]
  rfl
set_option maxRecDepth 20000 in
theorem gL_addDoor_t1 {h h2 : zm_H} {x0 : Nat} {x1 : Int32} {x2 : Int32} {x3 : Int32} {x4 : Nat} (e : sX5_addDoor [(.ref x0), (.int x1), (.int x2), (.int x3)] h = some (.inr 1, h2)) : zE vL_addDoor zsc0 rL_addDoor (0, [some (.ref x0), some (.int x1), some (.int x2), some (.int x3), some (.ref x4), none], [], h) = zgd ((zK h x0).1 = 11) (some (.inr (.inl (some (.int (2 : Int32))), h2))) := by
  show zgd _ (zthr (sX5_addDoor [(.ref x0), (.int x1), (.int x2), (.int x3)] h) _ _) = _
  rw [e]
  rfl
set_option maxRecDepth 20000 in
theorem gL_addDoor_t0 {h h2 : zm_H} {x0 : Nat} {x1 : Int32} {x2 : Int32} {x3 : Int32} {x4 : Nat} (e : sX5_addDoor [(.ref x0), (.int x1), (.int x2), (.int x3)] h = some (.inr 0, h2)) : zE vL_addDoor zsc0 rL_addDoor (0, [some (.ref x0), some (.int x1), some (.int x2), some (.int x3), some (.ref x4), none], [], h) = zgd ((zK h x0).1 = 11) (some (.inr (.inl (some (.int (3 : Int32))), h2))) := by
  show zgd _ (zthr (sX5_addDoor [(.ref x0), (.int x1), (.int x2), (.int x3)] h) _ _) = _
  rw [e]
  rfl
set_option maxRecDepth 20000 in
theorem gL_removeDoor_n {h h2 : zm_H} {x0 : Nat} {x1 : Int32} {x2 : Nat} {z1 : Int32} (e : sX5_removeDoor [(.ref x0), (.int x1)] h = some (.inl (some (.int z1)), h2)) : zE vL_removeDoor zsc0 rL_removeDoor (0, [some (.ref x0), some (.int x1), some (.ref x2), none], [], h) = zgd ((zK h x0).1 = 11) (zgd ((zK h2 x2).1 = 1 ∧ ¬ ((0 : Int32) < 0 ∨ (zK h2 x2).2 ≤ ((0 : Int32)).toNatClampNeg)) (zlt (zsJ h2 x2 ((0 : Int32)).toNatClampNeg (z1).toInt64) fun h1 => some (.inr (.inl (some (.int (0 : Int32))), h1)))) := by
  show zgd _ (zthr (sX5_removeDoor [(.ref x0), (.int x1)] h) _ (znrm _ (sX5_removeDoor [(.ref x0), (.int x1)] h) _ _ _ _)) = _
  rw [e]
  rfl
set_option maxRecDepth 20000 in
theorem gL_removeDoor_t2 {h h2 : zm_H} {x0 : Nat} {x1 : Int32} {x2 : Nat} (e : sX5_removeDoor [(.ref x0), (.int x1)] h = some (.inr 2, h2)) : zE vL_removeDoor zsc0 rL_removeDoor (0, [some (.ref x0), some (.int x1), some (.ref x2), none], [], h) = zgd ((zK h x0).1 = 11) (some (.inr (.inl (some (.int (1 : Int32))), h2))) := by
  show zgd _ (zthr (sX5_removeDoor [(.ref x0), (.int x1)] h) _ _) = _
  rw [e]
  rfl
set_option maxRecDepth 20000 in
theorem gL_setStart_n {h h2 : zm_H} {x0 : Nat} {x1 : Int32} {x2 : Nat} {z1 : Int32} (e : sX5_setStart [(.ref x0), (.int x1)] h = some (.inl (some (.int z1)), h2)) : zE vL_setStart zsc0 rL_setStart (0, [some (.ref x0), some (.int x1), some (.ref x2), none], [], h) = zgd ((zK h x0).1 = 11) (zgd ((zK h2 x2).1 = 1 ∧ ¬ ((0 : Int32) < 0 ∨ (zK h2 x2).2 ≤ ((0 : Int32)).toNatClampNeg)) (zlt (zsJ h2 x2 ((0 : Int32)).toNatClampNeg (z1).toInt64) fun h1 => some (.inr (.inl (some (.int (0 : Int32))), h1)))) := by
  show zgd _ (zthr (sX5_setStart [(.ref x0), (.int x1)] h) _ (znrm _ (sX5_setStart [(.ref x0), (.int x1)] h) _ _ _ _)) = _
  rw [e]
  rfl
set_option maxRecDepth 20000 in
theorem gL_setStart_t2 {h h2 : zm_H} {x0 : Nat} {x1 : Int32} {x2 : Nat} (e : sX5_setStart [(.ref x0), (.int x1)] h = some (.inr 2, h2)) : zE vL_setStart zsc0 rL_setStart (0, [some (.ref x0), some (.int x1), some (.ref x2), none], [], h) = zgd ((zK h x0).1 = 11) (some (.inr (.inl (some (.int (1 : Int32))), h2))) := by
  show zgd _ (zthr (sX5_setStart [(.ref x0), (.int x1)] h) _ _) = _
  rw [e]
  rfl
set_option maxRecDepth 20000 in
theorem gL_setEnd_n {h h2 : zm_H} {x0 : Nat} {x1 : Int32} {x2 : Nat} {z1 : Int32} (e : sX5_setEnd [(.ref x0), (.int x1)] h = some (.inl (some (.int z1)), h2)) : zE vL_setEnd zsc0 rL_setEnd (0, [some (.ref x0), some (.int x1), some (.ref x2), none], [], h) = zgd ((zK h x0).1 = 11) (zgd ((zK h2 x2).1 = 1 ∧ ¬ ((0 : Int32) < 0 ∨ (zK h2 x2).2 ≤ ((0 : Int32)).toNatClampNeg)) (zlt (zsJ h2 x2 ((0 : Int32)).toNatClampNeg (z1).toInt64) fun h1 => some (.inr (.inl (some (.int (0 : Int32))), h1)))) := by
  show zgd _ (zthr (sX5_setEnd [(.ref x0), (.int x1)] h) _ (znrm _ (sX5_setEnd [(.ref x0), (.int x1)] h) _ _ _ _)) = _
  rw [e]
  rfl
set_option maxRecDepth 20000 in
theorem gL_setEnd_t2 {h h2 : zm_H} {x0 : Nat} {x1 : Int32} {x2 : Nat} (e : sX5_setEnd [(.ref x0), (.int x1)] h = some (.inr 2, h2)) : zE vL_setEnd zsc0 rL_setEnd (0, [some (.ref x0), some (.int x1), some (.ref x2), none], [], h) = zgd ((zK h x0).1 = 11) (some (.inr (.inl (some (.int (1 : Int32))), h2))) := by
  show zgd _ (zthr (sX5_setEnd [(.ref x0), (.int x1)] h) _ _) = _
  rw [e]
  rfl
set_option maxRecDepth 20000 in
theorem gL_keep_n {h h2 : zm_H} {x0 : Nat} {x1 : Int32} {x2 : Nat} {z1 : Int32} (e : sX5_keep [(.ref x0), (.int x1)] h = some (.inl (some (.int z1)), h2)) : zE vL_keep zsc0 rL_keep (0, [some (.ref x0), some (.int x1), some (.ref x2), none], [], h) = zgd ((zK h x0).1 = 11) (zgd ((zK h2 x2).1 = 1 ∧ ¬ ((0 : Int32) < 0 ∨ (zK h2 x2).2 ≤ ((0 : Int32)).toNatClampNeg)) (zlt (zsJ h2 x2 ((0 : Int32)).toNatClampNeg (z1).toInt64) fun h1 => some (.inr (.inl (some (.int (0 : Int32))), h1)))) := by
  show zgd _ (zthr (sX5_keep [(.ref x0), (.int x1)] h) _ (znrm _ (sX5_keep [(.ref x0), (.int x1)] h) _ _ _ _)) = _
  rw [e]
  rfl
set_option maxRecDepth 20000 in
theorem gL_keep_t2 {h h2 : zm_H} {x0 : Nat} {x1 : Int32} {x2 : Nat} (e : sX5_keep [(.ref x0), (.int x1)] h = some (.inr 2, h2)) : zE vL_keep zsc0 rL_keep (0, [some (.ref x0), some (.int x1), some (.ref x2), none], [], h) = zgd ((zK h x0).1 = 11) (some (.inr (.inl (some (.int (1 : Int32))), h2))) := by
  show zgd _ (zthr (sX5_keep [(.ref x0), (.int x1)] h) _ _) = _
  rw [e]
  rfl
set_option maxRecDepth 20000 in
theorem gL_restore_n {h h2 : zm_H} {x0 : Nat} {x1 : Int32} {x2 : Nat} {z1 : Int32} (e : sX5_restore [(.ref x0), (.int x1)] h = some (.inl (some (.int z1)), h2)) : zE vL_restore zsc0 rL_restore (0, [some (.ref x0), some (.int x1), some (.ref x2), none], [], h) = zgd ((zK h x0).1 = 11) (zgd ((zK h2 x2).1 = 1 ∧ ¬ ((0 : Int32) < 0 ∨ (zK h2 x2).2 ≤ ((0 : Int32)).toNatClampNeg)) (zlt (zsJ h2 x2 ((0 : Int32)).toNatClampNeg (z1).toInt64) fun h1 => some (.inr (.inl (some (.int (0 : Int32))), h1)))) := by
  show zgd _ (zthr (sX5_restore [(.ref x0), (.int x1)] h) _ (znrm _ (sX5_restore [(.ref x0), (.int x1)] h) _ _ _ _)) = _
  rw [e]
  rfl
set_option maxRecDepth 20000 in
theorem gL_restore_t2 {h h2 : zm_H} {x0 : Nat} {x1 : Int32} {x2 : Nat} (e : sX5_restore [(.ref x0), (.int x1)] h = some (.inr 2, h2)) : zE vL_restore zsc0 rL_restore (0, [some (.ref x0), some (.int x1), some (.ref x2), none], [], h) = zgd ((zK h x0).1 = 11) (some (.inr (.inl (some (.int (1 : Int32))), h2))) := by
  show zgd _ (zthr (sX5_restore [(.ref x0), (.int x1)] h) _ _) = _
  rw [e]
  rfl
set_option maxRecDepth 20000 in
theorem gL_restore_t0 {h h2 : zm_H} {x0 : Nat} {x1 : Int32} {x2 : Nat} (e : sX5_restore [(.ref x0), (.int x1)] h = some (.inr 0, h2)) : zE vL_restore zsc0 rL_restore (0, [some (.ref x0), some (.int x1), some (.ref x2), none], [], h) = zgd ((zK h x0).1 = 11) (some (.inr (.inl (some (.int (2 : Int32))), h2))) := by
  show zgd _ (zthr (sX5_restore [(.ref x0), (.int x1)] h) _ _) = _
  rw [e]
  rfl
set_option maxRecDepth 20000 in
theorem gL_undo_n {h h2 : zm_H} {x0 : Nat} {x1 : Nat} {z1 : Int32} (e : sX5_undo [(.ref x0)] h = some (.inl (some (.int z1)), h2)) : zE vL_undo zsc0 rL_undo (0, [some (.ref x0), some (.ref x1), none], [], h) = zgd ((zK h x0).1 = 11) (zgd ((zK h2 x1).1 = 1 ∧ ¬ ((0 : Int32) < 0 ∨ (zK h2 x1).2 ≤ ((0 : Int32)).toNatClampNeg)) (zlt (zsJ h2 x1 ((0 : Int32)).toNatClampNeg (z1).toInt64) fun h1 => some (.inr (.inl (some (.int (0 : Int32))), h1)))) := by
  show zgd _ (zthr (sX5_undo [(.ref x0)] h) _ (znrm _ (sX5_undo [(.ref x0)] h) _ _ _ _)) = _
  rw [e]
  rfl
set_option maxRecDepth 20000 in
theorem gL_undo_t0 {h h2 : zm_H} {x0 : Nat} {x1 : Nat} (e : sX5_undo [(.ref x0)] h = some (.inr 0, h2)) : zE vL_undo zsc0 rL_undo (0, [some (.ref x0), some (.ref x1), none], [], h) = zgd ((zK h x0).1 = 11) (some (.inr (.inl (some (.int (1 : Int32))), h2))) := by
  show zgd _ (zthr (sX5_undo [(.ref x0)] h) _ _) = _
  rw [e]
  rfl
set_option maxRecDepth 20000 in
theorem gL_writeTour_n {h h2 : zm_H} {x0 : Nat} {x1 : Int64} {x3 : Nat} {z1 : Int32} (e : sX5_writeTour [(.ref x0), (.long x1)] h = some (.inl (some (.int z1)), h2)) : zE vL_writeTour zsc0 rL_writeTour (0, [some (.ref x0), some (.long x1), none, some (.ref x3), none], [], h) = zgd ((zK h x0).1 = 11) (zgd ((zK h2 x3).1 = 1 ∧ ¬ ((0 : Int32) < 0 ∨ (zK h2 x3).2 ≤ ((0 : Int32)).toNatClampNeg)) (zlt (zsJ h2 x3 ((0 : Int32)).toNatClampNeg (z1).toInt64) fun h1 => some (.inr (.inl (some (.int (0 : Int32))), h1)))) := by
  show zgd _ (zthr (sX5_writeTour [(.ref x0), (.long x1)] h) _ (znrm _ (sX5_writeTour [(.ref x0), (.long x1)] h) _ _ _ _)) = _
  rw [e]
  rfl
set_option maxRecDepth 20000 in
theorem gL_writeTour_t1 {h h2 : zm_H} {x0 : Nat} {x1 : Int64} {x3 : Nat} (e : sX5_writeTour [(.ref x0), (.long x1)] h = some (.inr 1, h2)) : zE vL_writeTour zsc0 rL_writeTour (0, [some (.ref x0), some (.long x1), none, some (.ref x3), none], [], h) = zgd ((zK h x0).1 = 11) (some (.inr (.inl (some (.int (1 : Int32))), h2))) := by
  show zgd _ (zthr (sX5_writeTour [(.ref x0), (.long x1)] h) _ _) = _
  rw [e]
  rfl
set_option maxRecDepth 20000 in
theorem gL_writeDoor_n {h h2 : zm_H} {x0 : Nat} {x1 : Int32} {x2 : Nat} {z1 : Int32} (e : sX5_writeDoor [(.ref x0), (.int x1)] h = some (.inl (some (.int z1)), h2)) : zE vL_writeDoor zsc0 rL_writeDoor (0, [some (.ref x0), some (.int x1), some (.ref x2), none], [], h) = zgd ((zK h x0).1 = 11) (zgd ((zK h2 x2).1 = 1 ∧ ¬ ((0 : Int32) < 0 ∨ (zK h2 x2).2 ≤ ((0 : Int32)).toNatClampNeg)) (zlt (zsJ h2 x2 ((0 : Int32)).toNatClampNeg (z1).toInt64) fun h1 => some (.inr (.inl (some (.int (0 : Int32))), h1)))) := by
  show zgd _ (zthr (sX5_writeDoor [(.ref x0), (.int x1)] h) _ (znrm _ (sX5_writeDoor [(.ref x0), (.int x1)] h) _ _ _ _)) = _
  rw [e]
  rfl
set_option maxRecDepth 20000 in
theorem gL_writeDoor_t2 {h h2 : zm_H} {x0 : Nat} {x1 : Int32} {x2 : Nat} (e : sX5_writeDoor [(.ref x0), (.int x1)] h = some (.inr 2, h2)) : zE vL_writeDoor zsc0 rL_writeDoor (0, [some (.ref x0), some (.int x1), some (.ref x2), none], [], h) = zgd ((zK h x0).1 = 11) (some (.inr (.inl (some (.int (1 : Int32))), h2))) := by
  show zgd _ (zthr (sX5_writeDoor [(.ref x0), (.int x1)] h) _ _) = _
  rw [e]
  rfl
set_option maxRecDepth 20000 in
theorem gL_outputByte_n {h h2 : zm_H} {x0 : Nat} {x1 : Int32} {x2 : Nat} {z1 : Int32} (e : sX5_outputByte [(.ref x0), (.int x1)] h = some (.inl (some (.int z1)), h2)) : zE vL_outputByte zsc0 rL_outputByte (0, [some (.ref x0), some (.int x1), some (.ref x2), none], [], h) = zgd ((zK h x0).1 = 11) (zgd ((zK h2 x2).1 = 1 ∧ ¬ ((0 : Int32) < 0 ∨ (zK h2 x2).2 ≤ ((0 : Int32)).toNatClampNeg)) (zlt (zsJ h2 x2 ((0 : Int32)).toNatClampNeg (z1).toInt64) fun h1 => some (.inr (.inl (some (.int (0 : Int32))), h1)))) := by
  show zgd _ (zthr (sX5_outputByte [(.ref x0), (.int x1)] h) _ (znrm _ (sX5_outputByte [(.ref x0), (.int x1)] h) _ _ _ _)) = _
  rw [e]
  rfl
set_option maxRecDepth 20000 in
theorem gL_outputByte_t3 {h h2 : zm_H} {x0 : Nat} {x1 : Int32} {x2 : Nat} (e : sX5_outputByte [(.ref x0), (.int x1)] h = some (.inr 3, h2)) : zE vL_outputByte zsc0 rL_outputByte (0, [some (.ref x0), some (.int x1), some (.ref x2), none], [], h) = zgd ((zK h x0).1 = 11) (some (.inr (.inl (some (.int (1 : Int32))), h2))) := by
  show zgd _ (zthr (sX5_outputByte [(.ref x0), (.int x1)] h) _ _) = _
  rw [e]
  rfl
