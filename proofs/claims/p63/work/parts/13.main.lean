/-! A CALL WITH WHAT FOLLOWS; A RUN OF A METHOD; A METHOD'S CONTRACT OUT OF ITS ROWS. -/
section ZM6
variable {sc : Nat × (Nat → Int32)}
variable {p : Program} {l : Launch} {e : Env} {R : Room} {s : State} {m : MethodId} {args : Array Value} {below : List Frame} {meth : Method} {c : Code} {H : Heap} {locs : List Loc} {cells slots : Nat} {Q : State → Prop}
variable {own : String} {M : zm_M} {envM : List zm_M} {D : va_G} {tc : Nat → ClassId} {ad : Nat → Nat} {A : Nat → Prop} {h : zm_H} {rows : List zm_R} {i : Nat} {r : zm_R} {la : zm_L} {st : List Value} {ls : Array Slot} {c0 s0 : Nat} {X : Type} {x : X} {k : zm_K X}
theorem zrcv_inv {kd ci : Nat} {vs : List Value} {o : Option X} (h9 : zrcv kd ci vs h o = some x) : o = some x ∧ (kd = 0 → ∃ (y : Nat) (rest : List Value), vs = .ref y :: rest ∧ (zK h y).1 = ci + 6) ∧ (kd = 6 → ∃ (y : Nat) (rest : List Value), vs = .ref y :: rest ∧ ((1000000 ≤ y ∧ y < 1000010) ∨ (zK h y).1 = 13)) ∧ ((kd = 2 ∨ kd = 4) → ∃ (y : Nat) (rest : List Value), vs = .ref y :: rest) ∧ ((kd = 7 ∨ kd = 8 ∨ kd = 10) → ∃ (y : Nat) (rest : List Value), vs = .ref y :: rest ∧ (zK h y).1 = 12) := by
  unfold zrcv at h9
  split at h9
  · split at h9
    · obtain ⟨h1, h2⟩ := zgd_some h9
      exact ⟨h2, fun _ => ⟨_, _, rfl, h1⟩, fun q => absurd q (by decide), fun q => by omega, fun q => by omega⟩
    · cases h9
  · split at h9
    · exact ⟨h9, fun q => absurd q (by decide), fun q => absurd q (by decide), fun _ => ⟨_, _, rfl⟩, fun q => by omega⟩
    · cases h9
  · split at h9
    · exact ⟨h9, fun q => absurd q (by decide), fun q => absurd q (by decide), fun _ => ⟨_, _, rfl⟩, fun q => by omega⟩
    · cases h9
  · split at h9
    · obtain ⟨h1, h2⟩ := zgd_some h9
      exact ⟨h2, fun q => absurd q (by decide), fun _ => ⟨_, _, rfl, h1⟩, fun q => by omega, fun q => by omega⟩
    · cases h9
  · split at h9
    · obtain ⟨h1, h2⟩ := zgd_some h9
      exact ⟨h2, fun q => absurd q (by decide), fun q => absurd q (by decide), fun q => by omega, fun _ => ⟨_, _, rfl, h1⟩⟩
    · cases h9
  · split at h9
    · obtain ⟨h1, h2⟩ := zgd_some h9
      exact ⟨h2, fun q => absurd q (by decide), fun q => absurd q (by decide), fun q => by omega, fun _ => ⟨_, _, rfl, h1⟩⟩
    · cases h9
  · split at h9
    · obtain ⟨h1, h2⟩ := zgd_some h9
      exact ⟨h2, fun q => absurd q (by decide), fun q => absurd q (by decide), fun q => by omega, fun _ => ⟨_, _, rfl, h1⟩⟩
    · cases h9
  · rename_i n1 n2 n3 n4 n5 n6 n7
    exact ⟨h9, fun q => absurd q n1, fun q => absurd q n4, fun q => q.elim (fun z => absurd z n2) (fun z => absurd z n3), fun q => q.elim (fun z => absurd z n5) (fun z => z.elim (fun z => absurd z n6) (fun z => absurd z n7))⟩
set_option maxHeartbeats 4000000 in
theorem zs6 {env : List (zm_M × zm_S)} {fin : zm_O → Option X} (C : zCx p l R s m args meth c own M D tc A) (hdc : zdec (zmB M) r = true) (hR : zR D tc ad A s h H locs) (hl : zLh ad (zmL M) la ls) (hS : zokS (zN h) st) (hL : zokL (zN h) la) (hRO : zRO sc A ad s s.heap) (hcR : c0 + zmC M ≤ R.cells) (hsR : s0 + zmS M ≤ R.slots) (hwd : ∀ w ∈ zwd own M envM r, w ∈ gT) (hwx : ∀ w ∈ zwx own M envM r, va_Nw w s) (hs : zg6 env r i la st h fin k = some x) (hc : zchk own M envM rows i r = true) (hg : rG r = 6)
    (henv : envM = env.map Prod.fst) (hE : ∀ (j : Nat) (q : zm_M × zm_S), env[j]? = some q → MetA sc l q.1 q.2) (hdecA : ∀ (i2 : Nat) (r2 : zm_R), rows[i2]? = some r2 → zdec (zmB M) r2 = true) (htab : c.exceptionTable.toList = tableOf (zmH M))
    (kk : ∀ (i2 : Nat) (r2 : zm_R) (la2 : zm_L) (st2 : List Value) (h2 : zm_H) (ad2 : Nat → Nat) (H2 : Heap) (locs2 : List Loc) (ls2 : Array Slot), rows[i2]? = some r2 → k i2 la2 st2 h2 = some x → zext (zN h) ad ad2 → zN h ≤ zN h2 → zR D tc ad2 A s h2 H2 locs2 → zLh ad2 (zmL M) la2 ls2 → zokS (zN h2) st2 → zokL (zN h2) la2 → W p l e R s m args below meth c H2 locs2 (c0 + (rN r2).1) (s0 + (rN r2).2) Q (F0 m (rP r2) ls2 (st2.map (cv ad2))))
    (hxT : ∀ (E : Nat) (h2 : zm_H), fin (.inr E, h2) = some x → c0 + zmTc M ≤ R.cells ∧ s0 + zmTs M ≤ R.slots)
    (kprop : ∀ (E : Nat) (h2 : zm_H) (ad2 : Nat → Nat) (H2 : Heap) (locs2 : List Loc) (ce : Cell) (q : Addr) (rest : List Value), fin (.inr E, h2) = some x → (zmH M).isEmpty = true → zext (zN h) ad ad2 → zN h ≤ zN h2 → zR D tc ad2 A s h2 H2 locs2 → H2[q]? = some ce → ce.vm = .none → s.vm.findClass (zex E) = some ce.cls → vx_W p l e R s m args below meth c H2 locs2 (c0 + zmTc M) (s0 + zmTs M) Q (F0 m (rP r) ls rest) q) : W p l e R s m args below meth c H locs (c0 + (rN r).1) (s0 + (rN r).2) Q (F0 m (rP r) ls (st.map (cv ad))) := by
  unfold zchk at hc
  rw [hg] at hc
  simp only [hdc, Bool.true_and] at hc
  split at hc
  · rename_i kd ei n rk th ci hs9 e2
    split at hc
    · rename_i Mc hM
      simp only [Bool.and_eq_true, decide_eq_true_eq] at hc
      obtain ⟨⟨⟨⟨⟨⟨⟨f1, f2⟩, f3⟩, hn⟩, hcc⟩, hss⟩, f4⟩, hth⟩ := hc
      have hK := C.2.2.2.2.2.1
      have hA := C.2.2.2.2.2.2.1
      unfold zg6 at hs
      rw [e2] at hs
      simp only [] at hs
      split at hs
      · rename_i Mc2 S hen
        have hMc : Mc2 = Mc := by
          rw [henv, List.getElem?_map, hen] at hM
          exact Option.some.inj hM
        subst hMc
        have hMet : MetA sc l Mc2 S := hE ei _ hen
        split at hs
        · rename_i hb9
          simp only [Bool.and_eq_true, Nat.ble_eq] at hb9
          obtain ⟨hnl, hsum⟩ := hb9
          obtain ⟨hsX, hr0, hr6, hr24, hr78⟩ := zrcv_inv hs
          clear hs
          have hs := hsX
          clear hsX
          have hn1 : ∀ {kk9 : Nat}, n = zmN Mc2 + 1 → n - 1 = zmN Mc2 := fun q => by omega
          have hkind := zkind_inv f4
          have hzl : zlen (rI r) = 3 := by rcases hkind with ⟨-, ix, q, -⟩ | ⟨-, ix, q, -⟩ | ⟨-, ix, q, -⟩ | ⟨-, ix, q, -⟩ | ⟨-, ix, q, -⟩ | ⟨-, ix, q, -⟩ | ⟨⟨-, ⟨ix, q⟩, -⟩ | ⟨-, ⟨ix, q⟩, -⟩ | ⟨-, ⟨ix, q⟩, -⟩, -⟩ <;> rw [q] <;> rfl
          have hnn : (kd = 0 ∨ kd = 6 ∨ kd = 2 ∨ kd = 4 ∨ kd = 7 ∨ kd = 8 ∨ kd = 10) → n - 1 = zmN Mc2 := by
            intro q
            rcases hkind with ⟨-, ix, -, e9, -⟩ | ⟨e8, -⟩ | ⟨-, ix, -, e9, -⟩ | ⟨e8, -⟩ | ⟨-, ix, -, e9, -⟩ | ⟨e8, -⟩ | ⟨-, e9, -⟩ <;> omega
          have hnull : ∀ v rest, (kd = 0 ∨ kd = 6 ∨ kd = 2 ∨ kd = 4 ∨ kd = 7 ∨ kd = 8 ∨ kd = 10) → st.drop (zmN Mc2) = v :: rest → ∃ y, v = .ref y := by
            intro v rest q ed
            rw [← hnn q] at ed
            rcases q with q | q | q | q | q
            · obtain ⟨y, r9, e8, -⟩ := hr0 q; rw [e8] at ed; cases ed; exact ⟨_, rfl⟩
            · obtain ⟨y, r9, e8, -⟩ := hr6 q; rw [e8] at ed; cases ed; exact ⟨_, rfl⟩
            · obtain ⟨y, r9, e8⟩ := hr24 (Or.inl q); rw [e8] at ed; cases ed; exact ⟨_, rfl⟩
            · obtain ⟨y, r9, e8⟩ := hr24 (Or.inr q); rw [e8] at ed; cases ed; exact ⟨_, rfl⟩
            · obtain ⟨y, r9, e8, -⟩ := hr78 q; rw [e8] at ed; cases ed; exact ⟨_, rfl⟩
          have hrcvB : ∀ y rest, (kd = 7 ∨ kd = 8 ∨ kd = 10) → st.drop (zmN Mc2) = .ref y :: rest → (∃ cell : Cell, H[ad y]? = some cell ∧ cell.vm.isStatics = false ∧ s.vm.findClass RJ4 = some cell.cls) := by
            intro y rest q ed
            rw [← hnn (Or.inr (Or.inr (Or.inr (Or.inr q))))] at ed
            obtain ⟨y2, r9, e8, hk9⟩ := hr78 q
            rw [e8] at ed
            cases ed
            have hy : y < zN h := zK77 hR.2.2.2.2.2 hk9 (by decide)
            exact va_recv (q := (zcN 6, zcT 6, zcn 6)) (fs := zfs ad h y 6 (zK h y).2) hK hR.1 (zcl_at 6 (by decide)) (q0 := y) (a := ad y) (by rw [zws_get hy]; simp [zent, hk9])
          have hrcv : ∀ y rest, (kd = 0 ∨ kd = 6) → st.drop (zmN Mc2) = .ref y :: rest → (∃ cell : Cell, H[ad y]? = some cell ∧ cell.vm.isStatics = false ∧ s.vm.findClass (zmY Mc2).cls = some cell.cls) := by
            intro y rest q ed
            rcases q with q | q
            · rw [← hnn (Or.inl q)] at ed
              obtain ⟨y2, r9, e8, hk9⟩ := hr0 q
              rw [e8] at ed
              cases ed
              have hci : ci < 8 ∧ zcN ci = (zmY Mc2).cls := by
                rcases hkind with ⟨z | z, -⟩ | ⟨z, -⟩ | ⟨z, -⟩ | ⟨z, -⟩ | ⟨z, -⟩ | ⟨z, -⟩ | ⟨⟨z, -⟩ | ⟨z, -⟩ | ⟨z, -⟩, -⟩
                · exact z.2
                · omega
                all_goals omega
              have hy : y < zN h := zK77 hR.2.2.2.2.2 hk9 (by omega)
              have := va_recv (q := (zcN ci, zcT ci, zcn ci)) (fs := zfs ad h y ci (zK h y).2) hK hR.1 (zcl_at ci hci.1) (q0 := y) (a := ad y) (by rw [zws_get hy]; simp [zent, hk9])
              rw [← hci.2]
              exact this
            · rw [← hnn (Or.inr (Or.inl q))] at ed
              obtain ⟨y2, r9, e8, hy1⟩ := hr6 q
              rw [e8] at ed
              cases ed
              have hcs : (zmY Mc2).cls = "java/lang/String" := by
                rcases hkind with ⟨z | z, -⟩ | ⟨z, -⟩ | ⟨z, -⟩ | ⟨z, -⟩ | ⟨z, -⟩ | ⟨z, -⟩ | ⟨⟨z, -⟩ | ⟨z, -⟩ | ⟨z, -⟩, -⟩
                · omega
                · exact z.2
                all_goals omega
              rw [hcs]
              rcases hy1 with hy1 | hy1
              · obtain ⟨a1, a2, a3, a4⟩ := zro_a hy1
                have h1 := vk_recv (i := 0) (hRO.2.2.1 (y - 1000000) a3) (by decide) hR.2.2.1
                rw [a1] at h1
                exact h1
              · have hy : y < zN h := zK77 hR.2.2.2.2.2 hy1 (by decide)
                exact va_recv (q := (zcN 7, zcT 7, zcn 7)) (fs := zfs ad h y 7 (zK h y).2) hK hR.1 (zcl_at 7 (by decide)) (q0 := y) (a := ad y) (by rw [zws_get hy]; simp [zent, hy1])
          have hMN := (hMet D tc ad h H.size (st.take n).reverse hR.2.2.2 (fun v hv => hS v (List.mem_of_mem_take (List.mem_reverse.mp hv))))
          have hrunN : ∀ (v : Option Value) (h2 : zm_H), S (st.take n).reverse h = some (.inl v, h2) → _ := fun v h2 e8 => zrunc (p := p) (e := e) (below := below) (meth := meth) (locs := locs) (cells := c0 + (rN r).1) (slots := s0 + (rN r).2) (rm := zmRoom Mc2) (mc := zmC Mc2) (ms := zmS Mc2) ⟨rfl, rfl, rfl, rfl⟩ C hdc hR hl hS hRO (by omega) (by omega) hwd hwx hg e2 hM (hMN.1 v h2 e8) hR.2.2.2.2.2 hrcv f1 f2 f3 f4 hnl hsum (fun _ _ _ _ q => q) hnull hrcvB
          have hSd : zokS (zN h) (st.drop n) := fun v hv => hS v (List.mem_of_mem_drop hv)
          have hcatS : ∀ (v : Option Value) (ad2 : Nat → Nat), zext (zN h) ad ad2 → (v.map (cv ad2)).toList ++ (st.drop n).map (cv ad) = (v.toList ++ st.drop n).map (cv ad2) := by
            intro v ad2 he
            rw [List.map_append, cvs_ext he hSd]
            cases v <;> rfl
          -- what follows an answer
          have kvv : ∀ (v : Option Value) (h2 : zm_H) (ad2 : Nat → Nat) (H2 : Heap) (locs2 : List Loc), k (i + 1) la (v.toList ++ st.drop n) h2 = some x → zext (zN h) ad ad2 → zN h ≤ zN h2 → zR D tc ad2 A s h2 H2 locs2 → (∀ w, v = some w → zokV (zN h2) w) → W p l e R s m args below meth c H2 locs2 (c0 + (rN r).1 + zmC Mc2) (s0 + (rN r).2 + zmS Mc2) Q (F0 m (rP r + 3) ls ((v.map (cv ad2)).toList ++ (st.drop n).map (cv ad))) := by
            intro v h2 ad2 H2 locs2 hk9 he hz hR2 hok
            rw [hcatS v ad2 he, ← hzl]
            refine znext (Nat.le_refl _) hn kk hk9 he hz hR2 (hl.ext he hL) ?_ (hL.mono hz)
            intro w hw
            rcases List.mem_append.mp hw with q | q
            · exact hok w (by cases v <;> simp_all)
            · exact (hSd w q).mono hz
          have goN : znrm rk (S (st.take n).reverse h) i la (st.drop n) k = some x → W p l e R s m args below meth c H locs (c0 + (rN r).1) (s0 + (rN r).2) Q (F0 m (rP r) ls (st.map (cv ad))) := by
            intro hs
            obtain ⟨v, h2, e8, hk9⟩ := znrm_inv hs
            exact zcallN hR hA (hrunN v h2 e8) (fun ad2 H2 locs2 he hz hR2 hok => kvv v h2 ad2 H2 locs2 hk9 he hz hR2 hok)
          have hrunT : th ≠ 0 → ∀ (y : Nat) (h2 : zm_H), S (st.take n).reverse h = some (.inr y, h2) → c0 + (rN r).1 + zmTc Mc2 ≤ R.cells → s0 + (rN r).2 + zmTs Mc2 ≤ R.slots → _ := fun h0 y h2 e8 g1 g2 => zrunc (p := p) (e := e) (below := below) (meth := meth) (locs := locs) (cells := c0 + (rN r).1) (slots := s0 + (rN r).2) (rm := zmRoomT Mc2) (mc := zmTc Mc2) (ms := zmTs Mc2) ⟨rfl, rfl, rfl, rfl⟩ C hdc hR hl hS hRO g1 g2 hwd hwx hg e2 hM (hMN.2 y h2 e8) hR.2.2.2.2.2 hrcv f1 f2 f3 f4 hnl hsum (fun q => absurd q h0) hnull hrcvB
          split at hs
          · exact goN hs
          · simp only [Bool.and_eq_true, decide_eq_true_eq] at hth
            rcases zthr_inv hs with ⟨E, h2, e8, hf⟩ | hs
            · obtain ⟨g1, g2⟩ := hxT E h2 hf
              exact zcallT hR hA (hrunT (by decide) E h2 e8 (by omega) (by omega)) (fun ad2 H2 locs2 ce q he hz hR2 hce hcv hcl => vx_widen (by omega) (by omega) (kprop E h2 ad2 H2 locs2 ce q _ hf hth.1.1 he hz hR2 hce hcv hcl))
            · exact goN hs
          · rename_i n0 n1
            have h2th : th = 2 := by
              match th, hth with
              | 0, _ => exact absurd rfl n0
              | 1, _ => exact absurd rfl n1
              | 2, _ => rfl
            subst h2th
            simp only [Bool.and_eq_true, decide_eq_true_eq] at hth
            rcases zthr_inv hs with ⟨E, h2, e8, hf⟩ | hs
            · split at hf
              · rename_i p9 j9 hnd
                refine zcallT hR hA (hrunT (by decide) E h2 e8 (by omega) (by omega)) (fun ad2 H2 locs2 ce q he hz hR2 hce hcv hcl => ?_)
                obtain ⟨hvk, ix, e1⟩ : (kd = 0 ∨ kd = 6) ∧ ∃ ix, rI r = .invokevirtual ix := by
                  rcases hkind with ⟨z, ix, e9, -⟩ | ⟨-, ix, -, -, -, z⟩ | ⟨-, ix, -, -, -, -, -, z⟩ | ⟨-, ix, -, -, -, z⟩ | ⟨-, ix, -, -, -, -, -, z⟩ | ⟨-, ix, -, -, -, z⟩ | ⟨-, -, -, z⟩
                  · exact ⟨z.elim (fun q => Or.inl q.1) (fun q => Or.inr q.1), ix, e9⟩
                  all_goals omega
                refine zhck_catch C (zRO_ad he hRO) hce hcv hcl (hl.ext he hL) (p9 := p9) (j9 := j9) hdecA hs9 (zmH M) [] [] hth.1.1 (by simpa using htab) (fun z hz => by cases hz) (fun w hw => hwd w ?_) (fun w hw => hwx w ?_) hnd (fun rp r2 ls2 q1 q2 q3 q4 q5 hl2 => ?_)
                · rcases hvk with rfl | rfl <;>
                  (unfold zwd
                   rw [hg, e1, e2]
                   simp only [hM]
                   exact List.mem_append_right _ hw)
                · rcases hvk with rfl | rfl <;> (unfold zwx; rw [hg, e1, e2]; exact hw)
                · exact W.widen (by omega) (by omega) (kk (p9 + 1) r2 _ [] h2 ad2 H2 locs2 ls2 q2 hf he hz hR2 hl2 zokS_nil (zokL_set (zokL_clr (hL.mono hz)) (fun w hw => by cases hw)))
              · cases hf
            · exact goN hs
        · cases hs
      · cases hs
    · cases hc
  · cases hc
end ZM6
section ZMAIN
variable {sc : Nat × (Nat → Int32)}
variable {p : Program} {l : Launch} {e : Env} {R : Room} {s : State} {m : MethodId} {args : Array Value} {below : List Frame} {meth : Method} {c : Code} {Q : State → Prop}
variable {own : String} {M : zm_M} {envM : List zm_M} {D : va_G} {tc : Nat → ClassId} {A : Nat → Prop} {rows : List zm_R} {c0 s0 : Nat}
set_option maxHeartbeats 4000000 in
/-- a run from a row to the next stop or to an end is a run of the machine -/
theorem zsim_ev {env : List (zm_M × zm_S)} {scr : Nat × (Nat → Int32)} {n0 : Nat} {ad0 : Nat → Nat} {x : zm_T ⊕ zm_O} (C : zCx p l R s m args meth c own M D tc A) (hcR : c0 + zmC M ≤ R.cells) (hsR : s0 + zmS M ≤ R.slots)
    (henv : envM = env.map Prod.fst) (hE : ∀ (j : Nat) (q : zm_M × zm_S), env[j]? = some q → MetA sc l q.1 q.2) (hch : ∀ (i : Nat) (r : zm_R), rows[i]? = some r → zchk own M envM rows i r = true)
    (hwd : ∀ (i : Nat) (r : zm_R), rows[i]? = some r → ∀ w ∈ zwd own M envM r, w ∈ gT) (hwx : ∀ (i : Nat) (r : zm_R), rows[i]? = some r → ∀ w ∈ zwx own M envM r, zspc w = true ∧ w ∈ lw_tbl)
    (hscr : (zmY M).name = "draw" → scr = sc) (hRO : zRO sc A ad0 s s.heap) (htab : c.exceptionTable.toList = tableOf (zmH M))
    (kret : ∀ (i : Nat) (r : zm_R) (la : zm_L) (st : List Value) (h : zm_H) (ad : Nat → Nat) (H : Heap) (locs : List Loc) (ls : Array Slot) (o : zm_O), rows[i]? = some r → zdec (zmB M) r = true → rG r = 5 → zg5 r st h = some o → x = .inr o → zext n0 ad0 ad → n0 ≤ zN h → zR D tc ad A s h H locs → zLh ad (zmL M) la ls → zokS (zN h) st → zokL (zN h) la → W p l e R s m args below meth c H locs (c0 + (rN r).1) (s0 + (rN r).2) Q (F0 m (rP r) ls (st.map (cv ad))))
    (kthr : ∀ (i : Nat) (r : zm_R) (la : zm_L) (st : List Value) (h : zm_H) (ad : Nat → Nat) (H : Heap) (locs : List Loc) (ls : Array Slot) (y : Nat) (os : List Nat), rows[i]? = some r → zdec (zmB M) r = true → rG r = 7 → rO r = y :: os → (st.map fun v => v.category).sum ≤ 8 → x = .inr (.inr y, h) → zext n0 ad0 ad → n0 ≤ zN h → zR D tc ad A s h H locs → zLh ad (zmL M) la ls → zokS (zN h) st → zokL (zN h) la → W p l e R s m args below meth c H locs (c0 + (rN r).1) (s0 + (rN r).2) Q (F0 m (rP r) ls (st.map (cv ad))))
    (kprop : ∀ (E : Nat) (h2 : zm_H) (ad2 : Nat → Nat) (H2 : Heap) (locs2 : List Loc) (ce : Cell) (q : Addr) (rest : List Value) (pc : Nat) (ls : Array Slot), x = .inr (.inr E, h2) → (zmH M).isEmpty = true → zext n0 ad0 ad2 → n0 ≤ zN h2 → zR D tc ad2 A s h2 H2 locs2 → H2[q]? = some ce → ce.vm = .none → s.vm.findClass (zex E) = some ce.cls → vx_W p l e R s m args below meth c H2 locs2 (c0 + zmTc M) (s0 + zmTs M) Q (F0 m pc ls rest) q)
    (hxT : ∀ (E : Nat) (h2 : zm_H), x = .inr (.inr E, h2) → c0 + zmTc M ≤ R.cells ∧ s0 + zmTs M ≤ R.slots)
    (khead : ∀ (i : Nat) (r : zm_R) (la : zm_L) (st : List Value) (h : zm_H) (ad : Nat → Nat) (H : Heap) (locs : List Loc) (ls : Array Slot), rows[i]? = some r → x = .inl (i, la, st, h) → zext n0 ad0 ad → n0 ≤ zN h → zR D tc ad A s h H locs → zLh ad (zmL M) la ls → zokS (zN h) st → zokL (zN h) la → W p l e R s m args below meth c H locs (c0 + (rN r).1) (s0 + (rN r).2) Q (F0 m (rP r) ls (st.map (cv ad)))) :
    ∀ (n : Nat) (i : Nat) (r : zm_R) (la : zm_L) (st : List Value) (h : zm_H) (ad : Nat → Nat) (H : Heap) (locs : List Loc) (ls : Array Slot), rows[i]? = some r → zev env scr rows n i la st h = some x → zext n0 ad0 ad → n0 ≤ zN h → zR D tc ad A s h H locs → zLh ad (zmL M) la ls → zokS (zN h) st → zokL (zN h) la → W p l e R s m args below meth c H locs (c0 + (rN r).1) (s0 + (rN r).2) Q (F0 m (rP r) ls (st.map (cv ad))) := by
  have hdecA : ∀ (i2 : Nat) (r2 : zm_R), rows[i2]? = some r2 → zdec (zmB M) r2 = true := fun i2 r2 h9 => by
    have := hch i2 r2 h9
    unfold zchk at this
    exact (Bool.and_eq_true_iff.mp this).1
  intro n
  induction n with
  | zero => intro i r la st h ad H locs ls hr hs; cases hs
  | succ n ih =>
    intro i r la st h ad H locs ls hr hs he hz hR hl hS hL
    have hRO2 := zRO_ad he hRO
    have hdc := hdecA i r hr
    have hc := hch i r hr
    have hwd0 := hwd i r hr
    have hwx0 : ∀ w ∈ zwx own M envM r, va_Nw w s := fun w hw => hRO2.1 w (hwx i r hr w hw).2 (hwx i r hr w hw).1
    unfold zev at hs
    rw [hr] at hs
    simp only [] at hs
    obtain ⟨k, hkd⟩ : ∃ k : zm_K (zm_T ⊕ zm_O), k = zcont rows (zev env scr rows n) := ⟨_, rfl⟩
    rw [← hkd] at hs
    have kk : ∀ (i2 : Nat) (r2 : zm_R) (la2 : zm_L) (st2 : List Value) (h2 : zm_H) (ad2 : Nat → Nat) (H2 : Heap) (locs2 : List Loc) (ls2 : Array Slot), rows[i2]? = some r2 → k i2 la2 st2 h2 = some x → zext (zN h) ad ad2 → zN h ≤ zN h2 → zR D tc ad2 A s h2 H2 locs2 → zLh ad2 (zmL M) la2 ls2 → zokS (zN h2) st2 → zokL (zN h2) la2 → W p l e R s m args below meth c H2 locs2 (c0 + (rN r2).1) (s0 + (rN r2).2) Q (F0 m (rP r2) ls2 (st2.map (cv ad2))) := by
      intro i2 r2 la2 st2 h2 ad2 H2 locs2 ls2 hr2 hk9 he9 hz9 hR9 hl9 hS9 hL9
      rw [hkd] at hk9
      unfold zcont at hk9
      simp only [hr2] at hk9
      split at hk9
      · have hx9 := (Option.some.inj hk9).symm
        exact khead i2 r2 _ st2 h2 ad2 H2 locs2 ls2 hr2 hx9 (he.trans he9 hz) (Nat.le_trans hz hz9) hR9 (hl9.kill _) hS9 (zokL_kill _ hL9)
      · exact ih i2 r2 la2 st2 h2 ad2 H2 locs2 ls2 hr2 hk9 (he.trans he9 hz) (Nat.le_trans hz hz9) hR9 hl9 hS9 hL9
    unfold zstep at hs
    split at hs
    · rename_i hg
      split at hs
      · rename_i la2 st2 hp
        have hcc := hc
        unfold zchk at hcc
        rw [hg] at hcc
        simp only [hdc, Bool.true_and, Bool.and_eq_true] at hcc
        exact zs0 C hdc hR hl hS hL hcc.1.1 hcc.1.2 hcc.2 hp hs kk
      · cases hs
    · rename_i hg; exact zs1 C hdc hR hl hS hL hs hc hg kk
    · rename_i hg; exact zs2 C hdc hR hl hS hL hR.2.2.2.2.2 hwd0 hs hc hg kk
    · rename_i hg
      exact zs3 C hdc hR hl hS hL hR.2.2.2.2.2 hscr hRO2 hs hc hg kk
    · rename_i hg; exact zs4 C hdc hR hl hS hL hRO2 hcR hsR hwd0 hs hc hg kk
    · rename_i hg
      split at hs
      · rename_i o ho
        exact kret i r la st h ad H locs ls o hr hdc hg ho (Option.some.inj hs).symm he hz hR hl hS hL
      · cases hs
    · rename_i hg
      refine zs6 C hdc hR hl hS hL hRO2 hcR hsR hwd0 hwx0 hs hc hg henv hE hdecA htab kk (fun E h2 hf => hxT E h2 (Option.some.inj hf).symm) (fun E h2 ad2 H2 locs2 ce q rest hf hem he9 hz9 hR9 q1 q2 q3 => ?_)
      exact kprop E h2 ad2 H2 locs2 ce q rest _ ls (Option.some.inj hf).symm hem (he.trans he9 hz) (Nat.le_trans hz hz9) hR9 q1 q2 q3
    · rename_i hg
      split at hs
      · rename_i y os e2
        exact kthr i r la [] h ad H locs ls y os hr hdc hg e2 (by decide) (Option.some.inj hs).symm he hz hR hl hS hL
      · cases hs
    · rename_i hg; exact zs8 C hdc hR hl hS hL hR.2.2.2.2.2 hwd0 hs hc hg kk
    · rename_i hg; exact zs9 C hdc hR hl hS hL hRO2 hwd0 hs hc hg kk
    · rename_i hg
      split at hs
      · exact zs10 C hdc hR hl hS hL hwd0 rfl hs hc hg kk
      · cases hs
    · rename_i hg; exact zs11 C hdc hR hl hS hL hs hc hg kk
    · rename_i hg; exact zs13 C hdc hR hl hS hL hcR hsR hwd0 hs hc hg kk
    · rename_i hg; exact zs14 C hdc hR hl hS hL hR.2.2.2.2.2 hRO2 hcR hsR hwd0 hwx0 hs hc hg kk
    · rename_i hg; exact zs15 C hdc hR hl hS hL hR.2.2.2.2.2 hRO2 hwd0 hs hc hg kk
    · cases hs
end ZMAIN
