/-! THE LAW'S ROWS: what was checked in chunks, joined (written by wip/whole/gen99l.py). -/
section ZLL
theorem zl_rg {lo n : Nat} {f : Nat → Bool} (h : (List.range' lo n).all f = true) : ∀ i, lo ≤ i → i < lo + n → f i = true := fun i h1 h2 => List.all_eq_true.mp h i (List.mem_range'.mpr ⟨i - lo, by omega, by omega⟩)
theorem zlK (i : Nat) (h : i < 1720) : ckL_law i = true := by
  rcases Nat.lt_or_ge i 40 with q | q
  · exact zl_rg aL_law_0 i (by omega) (by omega)
  rcases Nat.lt_or_ge i 80 with q | q
  · exact zl_rg aL_law_1 i (by omega) (by omega)
  rcases Nat.lt_or_ge i 120 with q | q
  · exact zl_rg aL_law_2 i (by omega) (by omega)
  rcases Nat.lt_or_ge i 160 with q | q
  · exact zl_rg aL_law_3 i (by omega) (by omega)
  rcases Nat.lt_or_ge i 200 with q | q
  · exact zl_rg aL_law_4 i (by omega) (by omega)
  rcases Nat.lt_or_ge i 240 with q | q
  · exact zl_rg aL_law_5 i (by omega) (by omega)
  rcases Nat.lt_or_ge i 280 with q | q
  · exact zl_rg aL_law_6 i (by omega) (by omega)
  rcases Nat.lt_or_ge i 320 with q | q
  · exact zl_rg aL_law_7 i (by omega) (by omega)
  rcases Nat.lt_or_ge i 360 with q | q
  · exact zl_rg aL_law_8 i (by omega) (by omega)
  rcases Nat.lt_or_ge i 400 with q | q
  · exact zl_rg aL_law_9 i (by omega) (by omega)
  rcases Nat.lt_or_ge i 440 with q | q
  · exact zl_rg aL_law_10 i (by omega) (by omega)
  rcases Nat.lt_or_ge i 480 with q | q
  · exact zl_rg aL_law_11 i (by omega) (by omega)
  rcases Nat.lt_or_ge i 520 with q | q
  · exact zl_rg aL_law_12 i (by omega) (by omega)
  rcases Nat.lt_or_ge i 560 with q | q
  · exact zl_rg aL_law_13 i (by omega) (by omega)
  rcases Nat.lt_or_ge i 600 with q | q
  · exact zl_rg aL_law_14 i (by omega) (by omega)
  rcases Nat.lt_or_ge i 640 with q | q
  · exact zl_rg aL_law_15 i (by omega) (by omega)
  rcases Nat.lt_or_ge i 680 with q | q
  · exact zl_rg aL_law_16 i (by omega) (by omega)
  rcases Nat.lt_or_ge i 720 with q | q
  · exact zl_rg aL_law_17 i (by omega) (by omega)
  rcases Nat.lt_or_ge i 760 with q | q
  · exact zl_rg aL_law_18 i (by omega) (by omega)
  rcases Nat.lt_or_ge i 800 with q | q
  · exact zl_rg aL_law_19 i (by omega) (by omega)
  rcases Nat.lt_or_ge i 840 with q | q
  · exact zl_rg aL_law_20 i (by omega) (by omega)
  rcases Nat.lt_or_ge i 880 with q | q
  · exact zl_rg aL_law_21 i (by omega) (by omega)
  rcases Nat.lt_or_ge i 920 with q | q
  · exact zl_rg aL_law_22 i (by omega) (by omega)
  rcases Nat.lt_or_ge i 960 with q | q
  · exact zl_rg aL_law_23 i (by omega) (by omega)
  rcases Nat.lt_or_ge i 1000 with q | q
  · exact zl_rg aL_law_24 i (by omega) (by omega)
  rcases Nat.lt_or_ge i 1040 with q | q
  · exact zl_rg aL_law_25 i (by omega) (by omega)
  rcases Nat.lt_or_ge i 1080 with q | q
  · exact zl_rg aL_law_26 i (by omega) (by omega)
  rcases Nat.lt_or_ge i 1120 with q | q
  · exact zl_rg aL_law_27 i (by omega) (by omega)
  rcases Nat.lt_or_ge i 1160 with q | q
  · exact zl_rg aL_law_28 i (by omega) (by omega)
  rcases Nat.lt_or_ge i 1200 with q | q
  · exact zl_rg aL_law_29 i (by omega) (by omega)
  rcases Nat.lt_or_ge i 1240 with q | q
  · exact zl_rg aL_law_30 i (by omega) (by omega)
  rcases Nat.lt_or_ge i 1280 with q | q
  · exact zl_rg aL_law_31 i (by omega) (by omega)
  rcases Nat.lt_or_ge i 1320 with q | q
  · exact zl_rg aL_law_32 i (by omega) (by omega)
  rcases Nat.lt_or_ge i 1360 with q | q
  · exact zl_rg aL_law_33 i (by omega) (by omega)
  rcases Nat.lt_or_ge i 1400 with q | q
  · exact zl_rg aL_law_34 i (by omega) (by omega)
  rcases Nat.lt_or_ge i 1440 with q | q
  · exact zl_rg aL_law_35 i (by omega) (by omega)
  rcases Nat.lt_or_ge i 1480 with q | q
  · exact zl_rg aL_law_36 i (by omega) (by omega)
  rcases Nat.lt_or_ge i 1520 with q | q
  · exact zl_rg aL_law_37 i (by omega) (by omega)
  rcases Nat.lt_or_ge i 1560 with q | q
  · exact zl_rg aL_law_38 i (by omega) (by omega)
  rcases Nat.lt_or_ge i 1600 with q | q
  · exact zl_rg aL_law_39 i (by omega) (by omega)
  rcases Nat.lt_or_ge i 1640 with q | q
  · exact zl_rg aL_law_40 i (by omega) (by omega)
  rcases Nat.lt_or_ge i 1680 with q | q
  · exact zl_rg aL_law_41 i (by omega) (by omega)
  exact zl_rg aL_law_42 i (by omega) (by omega)
set_option maxRecDepth 100000 in
theorem zl_len : rL_law.length = 1720 := by decide +kernel
theorem zlC : ∀ (i : Nat) (r : zm_R), rL_law[i]? = some r → zchk RL mL_law eL_law rL_law i r = true := by
  intro i r hr
  have h1 := (List.getElem?_eq_some_iff.mp hr).1
  rw [zl_len] at h1
  have h2 := zlK i h1
  unfold ckL_law at h2
  rw [hr] at h2
  exact h2
theorem zl_ap {α : Type} {Q : α → Prop} {as bs : List α} (h1 : ∀ r ∈ as, Q r) (h2 : ∀ r ∈ bs, Q r) : ∀ r ∈ as ++ bs, Q r := fun r h => (List.mem_append.mp h).elim (h1 r) (h2 r)
theorem zl_w {rows : List zm_R} (h : ∀ w ∈ zwds RL mL_law eL_law rows, w ∈ gT) : ∀ r ∈ rows, ∀ w ∈ zwd RL mL_law eL_law r, w ∈ gT := fun r hr w hw => h w (List.mem_flatMap.mpr ⟨r, hr, hw⟩)
theorem zl_x {rows : List zm_R} (h : ∀ w ∈ zwxs RL mL_law eL_law rows, zspc w = true ∧ w ∈ lw_tbl) : ∀ r ∈ rows, ∀ w ∈ zwx RL mL_law eL_law r, zspc w = true ∧ w ∈ lw_tbl := fun r hr w hw => h w (List.mem_flatMap.mpr ⟨r, hr, hw⟩)
theorem zlW : ∀ (i : Nat) (r : zm_R), rL_law[i]? = some r → ∀ w ∈ zwd RL mL_law eL_law r, w ∈ gT := fun i r hr => (zl_ap (zl_w wL_law_0) (zl_ap (zl_w wL_law_1) (zl_ap (zl_w wL_law_2) (zl_ap (zl_w wL_law_3) (zl_ap (zl_w wL_law_4) (zl_ap (zl_w wL_law_5) (zl_ap (zl_w wL_law_6) (zl_ap (zl_w wL_law_7) (zl_ap (zl_w wL_law_8) (zl_ap (zl_w wL_law_9) (zl_ap (zl_w wL_law_10) (zl_ap (zl_w wL_law_11) (zl_ap (zl_w wL_law_12) (zl_ap (zl_w wL_law_13) (zl_ap (zl_w wL_law_14) (zl_ap (zl_w wL_law_15) (zl_ap (zl_w wL_law_16) (zl_ap (zl_w wL_law_17) (zl_ap (zl_w wL_law_18) (zl_ap (zl_w wL_law_19) (zl_ap (zl_w wL_law_20) (zl_ap (zl_w wL_law_21) (zl_ap (zl_w wL_law_22) (zl_ap (zl_w wL_law_23) (zl_ap (zl_w wL_law_24) (zl_ap (zl_w wL_law_25) (zl_ap (zl_w wL_law_26) (zl_ap (zl_w wL_law_27) (zl_ap (zl_w wL_law_28) (zl_ap (zl_w wL_law_29) (zl_ap (zl_w wL_law_30) (zl_ap (zl_w wL_law_31) (zl_ap (zl_w wL_law_32) (zl_ap (zl_w wL_law_33) (zl_ap (zl_w wL_law_34) (zl_ap (zl_w wL_law_35) (zl_ap (zl_w wL_law_36) (zl_ap (zl_w wL_law_37) (zl_ap (zl_w wL_law_38) (zl_ap (zl_w wL_law_39) (zl_ap (zl_w wL_law_40) (zl_ap (zl_w wL_law_41) (zl_w wL_law_42)))))))))))))))))))))))))))))))))))))))))) : ∀ r ∈ rL_law, ∀ w ∈ zwd RL mL_law eL_law r, w ∈ gT) r (List.mem_of_getElem? hr)
theorem zlX : ∀ (i : Nat) (r : zm_R), rL_law[i]? = some r → ∀ w ∈ zwx RL mL_law eL_law r, zspc w = true ∧ w ∈ lw_tbl := fun i r hr => (zl_ap (zl_x xL_law_0) (zl_ap (zl_x xL_law_1) (zl_ap (zl_x xL_law_2) (zl_ap (zl_x xL_law_3) (zl_ap (zl_x xL_law_4) (zl_ap (zl_x xL_law_5) (zl_ap (zl_x xL_law_6) (zl_ap (zl_x xL_law_7) (zl_ap (zl_x xL_law_8) (zl_ap (zl_x xL_law_9) (zl_ap (zl_x xL_law_10) (zl_ap (zl_x xL_law_11) (zl_ap (zl_x xL_law_12) (zl_ap (zl_x xL_law_13) (zl_ap (zl_x xL_law_14) (zl_ap (zl_x xL_law_15) (zl_ap (zl_x xL_law_16) (zl_ap (zl_x xL_law_17) (zl_ap (zl_x xL_law_18) (zl_ap (zl_x xL_law_19) (zl_ap (zl_x xL_law_20) (zl_ap (zl_x xL_law_21) (zl_ap (zl_x xL_law_22) (zl_ap (zl_x xL_law_23) (zl_ap (zl_x xL_law_24) (zl_ap (zl_x xL_law_25) (zl_ap (zl_x xL_law_26) (zl_ap (zl_x xL_law_27) (zl_ap (zl_x xL_law_28) (zl_ap (zl_x xL_law_29) (zl_ap (zl_x xL_law_30) (zl_ap (zl_x xL_law_31) (zl_ap (zl_x xL_law_32) (zl_ap (zl_x xL_law_33) (zl_ap (zl_x xL_law_34) (zl_ap (zl_x xL_law_35) (zl_ap (zl_x xL_law_36) (zl_ap (zl_x xL_law_37) (zl_ap (zl_x xL_law_38) (zl_ap (zl_x xL_law_39) (zl_ap (zl_x xL_law_40) (zl_ap (zl_x xL_law_41) (zl_x xL_law_42)))))))))))))))))))))))))))))))))))))))))) : ∀ r ∈ rL_law, ∀ w ∈ zwx RL mL_law eL_law r, zspc w = true ∧ w ∈ lw_tbl) r (List.mem_of_getElem? hr)
theorem zlE {l : Launch} (hlt : l.stackTraces = false) : ∀ (j : Nat) (q : zm_M × zm_S), vL_law[j]? = some q → MetA l q.1 q.2 := fun j q hq => (List.forall_mem_cons.mpr ⟨tX5_init hlt, List.forall_mem_cons.mpr ⟨tX6_init hlt, List.forall_mem_cons.mpr ⟨tL_outputByte hlt, List.forall_mem_cons.mpr ⟨tX6_outputByte hlt, List.forall_mem_cons.mpr ⟨tX6_thrown hlt, List.forall_mem_cons.mpr ⟨tL_writeDoor hlt, List.forall_mem_cons.mpr ⟨tX6_writeDoor hlt, List.forall_mem_cons.mpr ⟨tL_writeTour hlt, List.forall_mem_cons.mpr ⟨tX6_writeTour hlt, List.forall_mem_cons.mpr ⟨tX5_writeWalk hlt, List.forall_mem_cons.mpr ⟨tX6_writeWalk hlt, List.forall_mem_cons.mpr ⟨tX5_undoCount hlt, List.forall_mem_cons.mpr ⟨tX6_undoCount hlt, List.forall_mem_cons.mpr ⟨tL_undo hlt, List.forall_mem_cons.mpr ⟨tX6_undo hlt, List.forall_mem_cons.mpr ⟨tL_restore hlt, List.forall_mem_cons.mpr ⟨tX6_restore hlt, List.forall_mem_cons.mpr ⟨tL_keep hlt, List.forall_mem_cons.mpr ⟨tX6_keep hlt, List.forall_mem_cons.mpr ⟨tL_setEnd hlt, List.forall_mem_cons.mpr ⟨tX6_setEnd hlt, List.forall_mem_cons.mpr ⟨tL_setStart hlt, List.forall_mem_cons.mpr ⟨tX6_setStart hlt, List.forall_mem_cons.mpr ⟨tL_removeDoor hlt, List.forall_mem_cons.mpr ⟨tX6_removeDoor hlt, List.forall_mem_cons.mpr ⟨tL_addDoor hlt, List.forall_mem_cons.mpr ⟨tX6_addDoor hlt, List.forall_mem_cons.mpr ⟨tL_setLock hlt, List.forall_mem_cons.mpr ⟨tX6_setLock hlt, List.forall_mem_cons.mpr ⟨tL_setCoins hlt, List.forall_mem_cons.mpr ⟨tX6_setCoins hlt, List.forall_mem_cons.mpr ⟨tL_setKey hlt, List.forall_mem_cons.mpr ⟨tX6_setKey hlt, List.forall_mem_cons.mpr ⟨tL_walk hlt, List.forall_mem_cons.mpr ⟨tX6_walk hlt, List.forall_mem_cons.mpr ⟨tL_complete hlt, List.forall_mem_cons.mpr ⟨tX6_complete hlt, List.forall_mem_cons.mpr ⟨tX5_again hlt, List.forall_mem_cons.mpr ⟨tX6_again hlt, List.forall_mem_cons.mpr ⟨tL_back hlt, List.forall_mem_cons.mpr ⟨tX6_back hlt, List.forall_mem_cons.mpr ⟨tL_go hlt, List.forall_mem_cons.mpr ⟨tX6_go hlt, List.forall_mem_cons.mpr ⟨tX5_rounds hlt, List.forall_mem_cons.mpr ⟨tX6_rounds hlt, List.forall_mem_cons.mpr ⟨tX5_leastCoins hlt, List.forall_mem_cons.mpr ⟨tX6_leastCoins hlt, List.forall_mem_cons.mpr ⟨tX5_shown hlt, List.forall_mem_cons.mpr ⟨tX6_shown hlt, List.forall_mem_cons.mpr ⟨tL_share hlt, List.forall_mem_cons.mpr ⟨tX6_share hlt, List.forall_mem_cons.mpr ⟨tL_behind hlt, List.forall_mem_cons.mpr ⟨tX6_behind hlt, List.forall_mem_cons.mpr ⟨tL_atPlace hlt, List.forall_mem_cons.mpr ⟨tX6_atPlace hlt, List.forall_mem_cons.mpr ⟨tL_ahead hlt, List.forall_mem_cons.mpr ⟨tX6_ahead hlt, List.forall_mem_cons.mpr ⟨tX5_bestDoor hlt, List.forall_mem_cons.mpr ⟨tX6_bestDoor hlt, List.forall_mem_cons.mpr ⟨tL_toursIfOpen hlt, List.forall_mem_cons.mpr ⟨tX6_toursIfOpen hlt, List.forall_mem_cons.mpr ⟨tX5_neededDoors hlt, List.forall_mem_cons.mpr ⟨tX6_neededDoors hlt, List.forall_mem_cons.mpr ⟨tL_toursWithout hlt, List.forall_mem_cons.mpr ⟨tX6_toursWithout hlt, List.forall_mem_cons.mpr ⟨tX5_neededKeys hlt, List.forall_mem_cons.mpr ⟨tX6_neededKeys hlt, List.forall_mem_cons.mpr ⟨tL_without hlt, List.forall_mem_cons.mpr ⟨tX6_without hlt, List.forall_mem_cons.mpr ⟨tX5_reachable hlt, List.forall_mem_cons.mpr ⟨tX6_reachable hlt, List.forall_mem_cons.mpr ⟨tL_toursTo hlt, List.forall_mem_cons.mpr ⟨tX6_toursTo hlt, List.forall_mem_cons.mpr ⟨tL_toursFrom hlt, List.forall_mem_cons.mpr ⟨tX6_toursFrom hlt, List.forall_mem_cons.mpr ⟨tX5_starts hlt, List.forall_mem_cons.mpr ⟨tX6_starts hlt, List.forall_mem_cons.mpr ⟨tX5_endings hlt, List.forall_mem_cons.mpr ⟨tX6_endings hlt, List.forall_mem_cons.mpr ⟨tX5_longestOn hlt, List.forall_mem_cons.mpr ⟨tX6_longestOn hlt, List.forall_mem_cons.mpr ⟨tX5_longest hlt, List.forall_mem_cons.mpr ⟨tX6_longest hlt, List.forall_mem_cons.mpr ⟨tX5_rank hlt, List.forall_mem_cons.mpr ⟨tX6_rank hlt, List.forall_mem_cons.mpr ⟨tL_tour hlt, List.forall_mem_cons.mpr ⟨tX6_tour hlt, List.forall_mem_cons.mpr ⟨tX5_wrong hlt, List.forall_mem_cons.mpr ⟨tX6_wrong hlt, List.forall_mem_cons.mpr ⟨tX5_good hlt, List.forall_mem_cons.mpr ⟨tX6_good hlt, List.forall_mem_cons.mpr ⟨tL_completionsBy hlt, List.forall_mem_cons.mpr ⟨tX6_completionsBy hlt, List.forall_mem_cons.mpr ⟨tX5_completions hlt, List.forall_mem_cons.mpr ⟨tX6_completions hlt, List.forall_mem_cons.mpr ⟨tX5_tours hlt, List.forall_mem_cons.mpr ⟨tX6_tours hlt, List.forall_mem_cons.mpr ⟨tX5_exits hlt, List.forall_mem_cons.mpr ⟨tX6_exits hlt, List.forall_mem_cons.mpr ⟨tL_why hlt, List.forall_mem_cons.mpr ⟨tX6_why hlt, List.forall_mem_cons.mpr ⟨tL_foundAt hlt, List.forall_mem_cons.mpr ⟨tX6_foundAt hlt, List.forall_mem_cons.mpr ⟨tL_walked hlt, List.forall_mem_cons.mpr ⟨tX6_walked hlt, List.forall_mem_cons.mpr ⟨tL_door hlt, List.forall_mem_cons.mpr ⟨tX6_door hlt, List.forall_mem_cons.mpr ⟨tL_room hlt, List.forall_mem_cons.mpr ⟨tX6_room hlt, List.forall_mem_cons.mpr ⟨tL_property hlt, List.forall_mem_cons.mpr ⟨tX6_property hlt, List.forall_mem_cons.mpr ⟨tX5_find hlt, List.forall_mem_cons.mpr ⟨tX6_find hlt, List.forall_mem_cons.mpr ⟨tX5_errorPosition hlt, List.forall_mem_cons.mpr ⟨tX6_errorPosition hlt, List.forall_mem_cons.mpr ⟨tX5_errorCode hlt, List.forall_mem_cons.mpr ⟨tX6_errorCode hlt, List.forall_mem_cons.mpr ⟨tX5_load hlt, List.forall_mem_cons.mpr ⟨tX6_load hlt, List.forall_mem_cons.mpr ⟨tL_truncate hlt, List.forall_mem_cons.mpr ⟨tX6_truncate hlt, List.forall_mem_cons.mpr ⟨tL_append hlt, List.forall_mem_cons.mpr ⟨tX6_append hlt, fun _ h => absurd h List.not_mem_nil⟩⟩⟩⟩⟩⟩⟩⟩⟩⟩⟩⟩⟩⟩⟩⟩⟩⟩⟩⟩⟩⟩⟩⟩⟩⟩⟩⟩⟩⟩⟩⟩⟩⟩⟩⟩⟩⟩⟩⟩⟩⟩⟩⟩⟩⟩⟩⟩⟩⟩⟩⟩⟩⟩⟩⟩⟩⟩⟩⟩⟩⟩⟩⟩⟩⟩⟩⟩⟩⟩⟩⟩⟩⟩⟩⟩⟩⟩⟩⟩⟩⟩⟩⟩⟩⟩⟩⟩⟩⟩⟩⟩⟩⟩⟩⟩⟩⟩⟩⟩⟩⟩⟩⟩⟩⟩⟩⟩⟩⟩⟩⟩⟩⟩⟩⟩⟩⟩⟩⟩⟩⟩⟩ : ∀ q ∈ vL_law, MetA l q.1 q.2) q (List.mem_of_getElem? hq)
theorem zlV : eL_law = vL_law.map Prod.fst := rfl
end ZLL
