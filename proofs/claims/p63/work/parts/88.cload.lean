/-! THE CLASS: load. -/
section ZPG
/-- the same below 125 -/
def zUp (h g : zm_H) : Prop := (∀ b, b < 125 → zK g b = zK h b) ∧ (∀ b, b < 125 → zP g b = zP h b) ∧ ∀ b, b < 125 → zI g b = zI h b ∧ zJ g b = zJ h b ∧ zD g b = zD h b
/-- the numbers of g, the objects of h -/
def zre (h g : zm_H) : zm_H := (h.1, h.2.1, g.2.2.1, g.2.2.2.1, h.2.2.2.2.1, g.2.2.2.2.2)
theorem zUp.re {h g : zm_H} (u : zUp h g) : zFr (fun c => 125 ≤ c) h (zre h g) := ⟨rfl, rfl, rfl, fun b hb => u.2.2 b (by omega)⟩
theorem zUp.fr {A : Nat → Prop} {h g k : zm_H} (u : zUp h g) (fr : zFr A g k) (hA : ∀ b, b < 125 → ¬ A b) : zUp h k := by
  refine ⟨fun b hb => by rw [fr.K]; exact u.1 b hb, fun b hb => by rw [fr.P]; exact u.2.1 b hb, fun b hb => ?_⟩
  obtain ⟨e1, e2, e3⟩ := fr.2.2.2 b (hA b hb)
  obtain ⟨d1, d2, d3⟩ := u.2.2 b hb
  exact ⟨e1.trans d1, e2.trans d2, e3.trans d3⟩
theorem lvS_up {h g : zm_H} {a : Nat} (u : zUp h g) (ha : a + 10 < 125) (hS : lvS h a) : lvS g a := by
  obtain ⟨uk, up, -⟩ := u
  unfold lvS at hS ⊢
  rw [uk a (by omega), up a (by omega), uk (a + 1) (by omega), uk (a + 2) (by omega), uk (a + 3) (by omega), uk (a + 4) (by omega), uk (a + 5) (by omega), uk (a + 6) (by omega), uk (a + 7) (by omega), uk (a + 8) (by omega), uk (a + 9) (by omega), uk (a + 10) (by omega)]
  exact hS
theorem hiS_up {h g : zm_H} (u : zUp h g) (hS : hiS h) : hiS g := by
  obtain ⟨a, b, c, d, e⟩ := hS
  exact ⟨by rw [u.1 _ (by omega)]; exact a, by rw [u.2.1 _ (by omega)]; exact b, by rw [u.1 _ (by omega)]; exact c, fun i hi => by rw [u.2.1 _ (by omega)]; exact d i hi, fun i hi => lvS_up u (by omega) (e i hi)⟩
theorem ktS_up {h g : zm_H} (u : zUp h g) (hk : ktS h) : ktS g := by
  obtain ⟨q0, r0, r1, r2, r3, r4, r5, r6, r7, r9, i0, i1, i2, o0, o1, o2, v5, v16, hh, v96, v107, sl0, sl1, sl2, fl0, tb, rw0⟩ := hk
  have e5 := L5e
  have e16 := L16e
  have uk := u.1
  have up := u.2.1
  have tb2 : tbS g 119 := by
    unfold tbS at tb ⊢
    rw [uk 119 (by omega), up 119 (by omega), uk (119 + 1) (by omega), uk (119 + 2) (by omega), uk (119 + 3) (by omega), uk (119 + 4) (by omega)]
    exact tb
  refine ⟨?_, ?_, ?_, ?_, ?_, ?_, ?_, ?_, ?_, ?_, ?_, ?_, ?_, ?_, ?_, ?_, lvS_up u (by omega) v5, lvS_up u (by omega) v16, hiS_up u hh, lvS_up u (by omega) v96, lvS_up u (by omega) v107, ?_, ?_, ?_, ?_, tb2, ?_⟩
  · rw [uk _ (by omega)]; exact q0
  · rw [up _ (by omega)]; exact r0
  · rw [up _ (by omega)]; exact r1
  · rw [up _ (by omega)]; exact r2
  · rw [up _ (by omega)]; exact r3
  · rw [up _ (by omega)]; exact r4
  · rw [up _ (by omega)]; exact r5
  · rw [up _ (by omega)]; exact r6
  · rw [up _ (by omega)]; exact r7
  · rw [up _ (by omega)]; exact r9
  · rw [uk _ (by omega)]; exact i0
  · rw [up _ (by omega)]; exact i1
  · rw [uk _ (by omega)]; exact i2
  · rw [uk _ (by omega)]; exact o0
  · rw [up _ (by omega)]; exact o1
  · rw [uk _ (by omega)]; exact o2
  · rw [uk _ (by omega)]; exact sl0
  · rw [up _ (by omega)]; exact sl1
  · rw [up _ (by omega)]; exact sl2
  · rw [uk _ (by omega)]; exact fl0
  · rw [uk _ (by omega)]; exact rw0
section
variable {h g : zm_H} {N : zLv}
theorem KL_up {a : Nat} (u : zUp h g) (ha : a + 9 < 125) (hL : KL h a N) : KL g a N := KL_fr (h2 := zre h g) u.re (fun i hi => by omega) hL
theorem lvO_up {a : Nat} (u : zUp h g) (ha : a + 8 < 125) (ho : lvO h a) : lvO g a := lvO_fr (h2 := zre h g) u.re (by omega) ho
theorem STL_up (u : zUp h g) (s : STL h N) : STL g N := by
  have e0 : zI g 0 = zI h 0 := (u.2.2 0 (by omega)).1
  rcases s with s | ⟨s1, s2⟩
  · exact Or.inl (by rw [e0]; exact s)
  · exact Or.inr ⟨by rw [e0]; exact s1, TBg_off (g := zre h g) u.re (fun i hi => by omega) s2⟩
theorem HH_up {P : List zLv} (u : zUp h g) (H : HH h P) : HH g P := HH_fr (g := zre h g) u.re (fun c h1 h2 => by omega) H
theorem SL_up {K : Nat → Option zLv} (u : zUp h g) (H : SL h K) : SL g K := SL_fr (g := zre h g) u.re (fun c h1 h2 => by omega) H
theorem BL_up {b q cap : Nat} {xs : List Int32} (u : zUp h g) (hb : b < 125) (hq : q < 125) (B : BL h b q cap xs) : BL g b q cap xs := BL_fr (g := zre h g) u.re (by omega) (by omega) B
theorem CI_up (u : zUp h g) (c : CI h N) : CI g N := by
  obtain ⟨hk, hL, hF, hst, ho5, ho16⟩ := c
  have e5 := L5e
  have e16 := L16e
  exact ⟨ktS_up u hk, KL_up u (by omega) hL, hF, STL_up u hst, lvO_up u (by omega) ho5, lvO_up u (by omega) ho16⟩
end
theorem new_up {h : zm_H} {kd len : Nat} (hn : 125 ≤ zN h) : zUp h (znew h kd len) ∧ zN (znew h kd len) = zN h + 1 ∧ zK (znew h kd len) (zN h) = (kd, len) ∧ zI (znew h kd len) (zN h) = fun _ => 0 := by
  refine ⟨⟨fun b hb => ?_, fun b hb => ?_, fun b hb => ⟨?_, ?_, ?_⟩⟩, rfl, ?_, ?_⟩
  · exact zrow_ne _ _ (by unfold zN at hn; omega)
  · exact zrow_ne _ _ (by unfold zN at hn; omega)
  · exact zrow_ne _ _ (by unfold zN at hn; omega)
  · exact zrow_ne _ _ (by unfold zN at hn; omega)
  · exact zrow_ne _ _ (by unfold zN at hn; omega)
  · exact zrow_self _ _ _
  · exact zrow_self _ _ _
theorem sP_up {h : zm_H} {a i : Nat} {x : Option Nat} (ha : 125 ≤ a) : zUp h (zsP h a i x) := by
  refine ⟨fun b hb => rfl, fun b hb => ?_, fun b hb => ⟨rfl, rfl, rfl⟩⟩
  exact zrow_ne _ _ (by omega)
theorem zUp.tr {h g k : zm_H} (a : zUp h g) (b : zUp g k) : zUp h k := by
  refine ⟨fun c hc => (b.1 c hc).trans (a.1 c hc), fun c hc => (b.2.1 c hc).trans (a.2.1 c hc), fun c hc => ?_⟩
  obtain ⟨e1, e2, e3⟩ := b.2.2 c hc
  obtain ⟨d1, d2, d3⟩ := a.2.2 c hc
  exact ⟨e1.trans d1, e2.trans d2, e3.trans d3⟩
theorem c_init {h : zm_H} {p : Nat} (hk : zK h p = (9, 9)) (hp : 125 ≤ p) (hn : p < zN h) (hI : zI h p = fun _ => 0) : ∃ g, sX3_init [.ref p, .ref 1, .ref L16] h = some (.inl none, g) ∧ zUp h g ∧ zN g = zN h ∧ zK g p = (9, 9) ∧ zP g p 0 = some 1 ∧ zP g p 1 = some L16 ∧ zI g p 3 = 0 ∧ zI g p 2 = 0 := by
  have e16 := L16e
  obtain ⟨g7, hg7⟩ : ∃ g7, g7 = zsI (zsI (zsI (zsJ (zsI (zsI (zsI h p 2 0) p 3 0) p 4 0) p 5 (0 : Int64)) p 6 0) p 7 0) p 8 0 := ⟨_, rfl⟩
  have fr : zFr (fun c => c = p) h g7 := by
    rw [hg7]; exact ((((((zFr.sI (A := fun c => c = p) rfl).tr (zFr.sI rfl)).tr (zFr.sI rfl)).tr (zFr.sJ rfl)).tr (zFr.sI rfl)).tr (zFr.sI rfl)).tr (zFr.sI rfl)
  have u7 : zUp h g7 := zUp.fr ⟨fun _ _ => rfl, fun _ _ => rfl, fun _ _ => ⟨rfl, rfl, rfl⟩⟩ fr (fun b hb => by omega)
  refine ⟨zsP (zsP g7 p 0 (some 1)) p 1 (some L16), ?_, (u7.tr (sP_up hp)).tr (sP_up hp), fr.1, ?_, ?_, ?_, ?_, ?_⟩
  · refine zsem_eq (Nat.le_of_ble_eq_true rfl) (zTo_of gX3_init_0 ?_)
    have n7 : zN g7 = zN h := fr.1
    have k7 : zK g7 = zK h := fr.K
    simp only [hk, K_sI, K_sJ, K_sD, K_sP, K_rI, K_rJ, P_sI, P_sJ, P_sD, P_rI, P_rJ, N_sI, N_sJ, N_sD, N_sP, N_rI, N_rJ, J_sI, J_sD, J_sP, J_rI, I_sJ, I_sD, I_sP, I_rJ, D_sI, D_sJ, D_sP, D_rI, D_rJ, ← hg7, n7, k7, show 1 < zN h by omega, show L16 < zN h by omega, zmp_s, zlt_s, zcV_s, zcI_s, zcJ_s, zcA_s, zcD_s, zcF_s, zth_n, zth_t, zrt_s, zQ_l, zQ_r, false_or, or_false, true_or, or_true, false_and, and_false, not_false_eq_true, not_true_eq_false, and_self, true_and, and_true, if_true, if_false, ite_true, ite_false, zgd_t]
  · show zK g7 p = _
    rw [fr.K]; exact hk
  · show zrow _ p (zput _ 1 (some L16)) p 0 = _
    rw [zrow_self, zput_ne _ _ (by omega)]
    show zrow _ p (zput _ 0 (some 1)) p 0 = _
    rw [zrow_self, zput_self]
  · show zrow _ p (zput _ 1 (some L16)) p 1 = _
    rw [zrow_self, zput_self]
  · show zI g7 p 3 = 0
    rw [hg7, I_sIs, zput_ne _ _ (by omega), I_sIs, zput_ne _ _ (by omega), I_sIs, zput_ne _ _ (by omega), I_sJ, I_sIs, zput_ne _ _ (by omega), I_sIs, zput_self]
  · show zI g7 p 2 = 0
    rw [hg7, I_sIs, zput_ne _ _ (by omega), I_sIs, zput_ne _ _ (by omega), I_sIs, zput_ne _ _ (by omega), I_sJ, I_sIs, zput_ne _ _ (by omega), I_sIs, zput_ne _ _ (by omega), I_sIs, zput_self]
theorem m_record2 {h : zm_H} {N : zLv} {P : List zLv} (c : CI h N) (H : HH h P) : ∃ g, sX5_record [.ref 0] h = some (.inl none, g) ∧ CT h g N (pst N P) ∧ zI g 0 8 = 1 ∧ zFr (fun c => c = 0 ∨ hiA c) h g := by
  obtain ⟨k, hs, t, st⟩ := m_record c H
  refine ⟨k, hs, t, st, ?_⟩
  have c0 := c
  obtain ⟨hk, hL, hF, hst, ho5, ho16⟩ := c
  obtain ⟨q0, r0, r1, r2, r3, r4, r5, r6, r7, r9, i0, i1, i2, o0, o1, o2, v5, v16, hh, v96, v107, sl0, sl1, sl2, fl0, tb, rw0⟩ := hk
  obtain ⟨hl, nx, hr, hi⟩ := H
  have hW := hF.1
  obtain ⟨g1, s1, fr1, hr1, kl1, lo1⟩ := q_push hh hr v5 (Or.inl (by rw [L5e]; omega)) hL ⟨hW.1, hW.2.1, hW.2.2.1⟩ ho5
  obtain ⟨u1, u2, u3, u4⟩ := hr
  have fr : zFr (fun c => c = 0 ∨ hiA c) h (zsI g1 0 8 1) := (fr1.mono (fun c hc => by unfold hiA; omega)).tr (zFr.sI (Or.inl rfl))
  have K1 := fr1.K
  have P1 := fr1.P
  have kh := hh.1
  have e : sX5_record [.ref 0] h = some (.inl none, zsI g1 0 8 1) := by
    refine zsem_eq (Nat.le_of_ble_eq_true rfl) (zTo_of gX5_record_0 ?_)
    simp only [q0, r4, r2, kh, s1, K1, P1, zmp_s, zlt_s, zcV_s, zcI_s, zcJ_s, zcA_s, zcD_s, zcF_s, zth_n, zth_t, zrt_s, zQ_l, zQ_r, false_or, or_false, true_or, or_true, false_and, and_false, not_false_eq_true, not_true_eq_false, and_self, true_and, and_true, if_true, if_false, ite_true, ite_false, zgd_t]
  rw [e] at hs
  have : zsI g1 0 8 1 = k := by injection hs with hs; injection hs
  rw [← this]; exact fr
theorem CI_fr {A : Nat → Prop} {h g : zm_H} {N : zLv} (fr : zFr A h g) (hA : ∀ c, 5 ≤ c → c ≤ 14 → ¬ A c) (hT : ∀ c, 119 ≤ c → c ≤ 123 → ¬ A c) (e0 : zI g 0 8 = zI h 0 8) (ho : lvO g L16) (c : CI h N) : CI g N := by
  obtain ⟨hk, hL, hF, hst, ho5, ho16⟩ := c
  have e5 := L5e
  refine ⟨ktS_kp fr.K fr.P hk, KL_fr fr (fun i hi => hA _ (by omega) (by omega)) hL, hF, ?_, lvO_fr fr (hA _ (by omega) (by omega)) ho5, ho⟩
  rcases hst with s | ⟨s1, s2⟩
  · exact Or.inl (by rw [e0]; exact s)
  · exact Or.inr ⟨by rw [e0]; exact s1, TBg_off fr (fun i hi => hT _ (by omega) (by omega)) s2⟩
def ldA : Nat → Prop := fun c => c = 0 ∨ c = 1 ∨ (5 ≤ c ∧ c ≤ 94) ∨ (119 ≤ c ∧ c ≤ 124) ∨ 125 ≤ c
theorem m_load {h : zm_H} {N : zLv} {P : List zLv} {xs : List Int32} (c : CI h N) (H : HH h P) (B : BL h 1 2 500 xs) (hx : BY xs) (hn : 125 ≤ zN h) (hn2 : zN h < 900000) : ∃ k g, zUp h k ∧ zN k = zN h + 1 ∧ zFr ldA k g ∧ BL g 1 2 500 [] ∧
    ((∃ e, pLoad xs = .inl e ∧ sX5_load [.ref 0] h = some (.inl (some (.int (-4))), g) ∧ CI g N ∧ HH g P ∧ zI g 0 10 = nI e.1 ∧ zI g 0 11 = nI e.2) ∨
     (∃ M, pLoad xs = .inr M ∧ sX5_load [.ref 0] h = some (.inl (some (.int (nI (M 0)))), g) ∧ CI g (fW M) ∧ HH g (pst N P) ∧ zI g 0 10 = 0 ∧ zI g 0 11 = -1)) := by
  have e5 := L5e
  have e16 := L16e
  obtain ⟨u1, n1, k1, z1⟩ := new_up (h := h) (kd := 9) (len := 9) hn
  obtain ⟨p, hp⟩ : ∃ p, p = zN h := ⟨_, rfl⟩
  obtain ⟨h1, hh1⟩ : ∃ h1, h1 = znew h 9 9 := ⟨_, rfl⟩
  rw [← hh1] at u1 n1 k1 z1
  rw [← hp] at k1 z1
  obtain ⟨k, ei, uk, nk, kk, kp0, kp1, k3, k2⟩ := c_init k1 (by omega) (by omega) z1
  have u := u1.tr uk
  have ck := CI_up u c
  have Hk := HH_up u H
  have Bk := BL_up u (by omega) (by omega) B
  have c0 := c
  have q0h := c.1.1
  have r0h := c.1.2.1
  have r3h := c.1.2.2.2.2.1
  have q01 : zK h1 0 = (11, 12) := by rw [u1.1 0 (by omega)]; exact q0h
  have r01 : zP h1 0 0 = some 1 := by rw [u1.2.1 0 (by omega)]; exact r0h
  have r31 : zP h1 0 3 = some L16 := by rw [u1.2.1 0 (by omega)]; exact r3h
  have ck0 := ck
  obtain ⟨hk, hL, hF, hst, ho5, ho16⟩ := ck
  obtain ⟨q0, r0, r1, r2, r3, r4, r5, r6, r7, r9, i0, i1, i2, o0, o1, o2, v5, v16, hh, v96, v107, sl0, sl1, sl2, fl0, tb, rw0⟩ := hk
  have X : PX k p xs := ⟨by omega, kk, kp0, kp1, i0, i1, i2, Bk.1, Bk.2.1, Bk.2.2, hx, v16⟩
  have B0 : ∀ g : zm_H, zI g 1 1 = 0 → BL g 1 2 500 [] := fun g e => ⟨e, by show 0 ≤ 500; omega, fun i hi => absurd hi (by show ¬ i < 0; omega)⟩
  rcases c_parse X ho16 k3 k2 with ⟨g6, ⟨er, hu, hf, F6, ⟨pe1, pe2⟩, lo⟩ | ⟨M, hu, hf, F6, KM, lo, hI, h10⟩⟩
  · obtain ⟨g, hg⟩ : ∃ g, g = zsI (zsI (zsI g6 1 1 0) 0 10 (nI er.1)) 0 11 (nI er.2) := ⟨_, rfl⟩
    have fr : zFr (fun c => c = 0 ∨ c = 1 ∨ paA p c) k g := by
      rw [hg]; exact (((F6.mono (B := fun c => c = 0 ∨ c = 1 ∨ paA p c) (fun c hc => Or.inr (Or.inr hc))).tr (zFr.sI (Or.inr (Or.inl rfl)))).tr (zFr.sI (Or.inl rfl))).tr (zFr.sI (Or.inl rfl))
    have e6 : zI g6 0 = zI k 0 := F6.I (by unfold paA; omega)
    have K6 := F6.K
    have P6 := F6.P
    have g8 : zI g 0 8 = zI k 0 8 := by rw [hg, I_sIs, zput_ne _ _ (by omega), I_sIs, zput_ne _ _ (by omega), I_sIn (by omega), e6]
    have g11 : zI g 1 1 = 0 := by rw [hg, I_sIn (by omega), I_sIn (by omega), I_sIs, zput_self]
    have lo2 : lvO g L16 := by
      rw [hg]
      exact lvO_fr (A := fun c => c = 0 ∨ c = 1) (((zFr.sI (Or.inr rfl)).tr (zFr.sI (Or.inl rfl))).tr (zFr.sI (Or.inl rfl))) (by omega) lo
    refine ⟨k, g, u, by omega, fr.mono (fun c hc => by unfold paA at hc; unfold ldA; omega), B0 g g11, Or.inl ⟨er, hu, ?_, ?_, ?_, ?_, ?_⟩⟩
    · refine zsem_eq (Nat.le_of_ble_eq_true rfl) (zTo_of gX5_load_0 ?_)
      have pnz : (p : Nat) ≠ 0 := by omega
      have pn1 : (p : Nat) ≠ 1 := by omega
      simp only [show p < 900000 by omega, ← hh1, ← hp, q01, r01, r31, ei, kk, hf, K6, P6, q0, r0, i0, K_sI, K_sJ, K_sD, K_sP, K_rI, K_rJ, P_sI, P_sJ, P_sD, P_rI, P_rJ, N_sI, N_sJ, N_sD, N_sP, N_rI, N_rJ, J_sI, J_sD, J_sP, J_rI, I_sJ, I_sD, I_sP, I_rJ, D_sI, D_sJ, D_sP, D_rI, D_rJ, I_sIn pnz, I_sIn pn1, pe1, pe2, ← hg, zmp_s, zlt_s, zcV_s, zcI_s, zcJ_s, zcA_s, zcD_s, zcF_s, zth_n, zth_t, zrt_s, zQ_l, zQ_r, false_or, or_false, true_or, or_true, false_and, and_false, not_false_eq_true, not_true_eq_false, and_self, true_and, and_true, if_true, if_false, ite_true, ite_false, zgd_t]
    · exact CI_fr fr (fun c h1 h2 => by unfold paA; omega) (fun c h1 h2 => by unfold paA; omega) g8 lo2 ck0
    · exact HH_fr fr (fun c h1 h2 => by unfold paA; omega) Hk
    · rw [hg, I_sIs, zput_ne _ _ (by omega), I_sIs, zput_self]
    · rw [hg, I_sIs, zput_self]
  · obtain ⟨g, hg⟩ : ∃ g, g = zsI (zsI (zsI g6 1 1 0) 0 10 0) 0 11 (-1) := ⟨_, rfl⟩
    have fr : zFr (fun c => c = 0 ∨ c = 1 ∨ paA p c) k g := by
      rw [hg]; exact (((F6.mono (B := fun c => c = 0 ∨ c = 1 ∨ paA p c) (fun c hc => Or.inr (Or.inr hc))).tr (zFr.sI (Or.inr (Or.inl rfl)))).tr (zFr.sI (Or.inl rfl))).tr (zFr.sI (Or.inl rfl))
    have fr01 : zFr (fun c => c = 0 ∨ c = 1) g6 g := by
      rw [hg]; exact ((zFr.sI (Or.inr rfl)).tr (zFr.sI (Or.inl rfl))).tr (zFr.sI (Or.inl rfl))
    have e6 : zI g6 0 = zI k 0 := F6.I (by unfold paA; omega)
    have K6 := F6.K
    have P6 := F6.P
    have g8 : zI g 0 8 = zI k 0 8 := by rw [hg, I_sIs, zput_ne _ _ (by omega), I_sIs, zput_ne _ _ (by omega), I_sIn (by omega), e6]
    have g11 : zI g 1 1 = 0 := by rw [hg, I_sIn (by omega), I_sIn (by omega), I_sIs, zput_self]
    have lo2 : lvO g L16 := lvO_fr fr01 (by omega) lo
    have KM2 : KL g L16 (fW M) := KL_fr fr01 (fun i hi => by omega) KM
    have cg := CI_fr fr (fun c h1 h2 => by unfold paA; omega) (fun c h1 h2 => by unfold paA; omega) g8 lo2 ck0
    have Hg := HH_fr fr (fun c h1 h2 => by unfold paA; omega) Hk
    obtain ⟨g11', sr, t1, st1, frr⟩ := m_record2 cg Hg
    have wf := WF_fW hI h10
    have K11 := frr.K
    have P11 := frr.P
    have Kg := fr.K
    have Pg := fr.P
    have KM3 : KL g11' L16 (fW M) := KL_fr frr (fun i hi e => by unfold hiA at e; omega) KM2
    have lo3 : lvO g11' L16 := lvO_fr frr (fun e => by unfold hiA at e; omega) lo2
    have v5' : lvS g11' L5 := lvS_fr frr (lvS_fr fr v5)
    have v16' : lvS g11' L16 := lvS_fr frr (lvS_fr fr v16)
    obtain ⟨g14, sc, frc, KN, loN⟩ := q_copyFrom (a := L5) (b := L16) v5' v16' (by omega) KM3 ⟨wf.1.1, wf.1.2.1, wf.1.2.2.1⟩ lo3
    obtain ⟨t2, st2⟩ := t1.2.2.2.1.chg t1.2.2.2.2 st1 frc KN wf loN
    have K14 := frc.K
    have P14 := frc.P
    have y5 := v5.1
    have l0 : zI g14 L5 0 = nI (M 0) := by
      have := KN.1
      rw [fW_ne (by omega)] at this
      exact this
    have FR : zFr ldA g g14 := (frr.mono (fun c hc => by unfold hiA at hc; unfold ldA; omega)).tr (frc.mono (fun c hc => by unfold lvA at hc; unfold ldA; omega))
    have f1 : zI g14 1 = zI g 1 := (frc.I (fun e => by unfold lvA at e; omega)).trans (frr.I (fun e => by unfold hiA at e; omega))
    refine ⟨k, g14, u, by omega, (fr.mono (fun c hc => by unfold paA at hc; unfold ldA; omega)).tr FR, B0 g14 (by rw [f1]; exact g11), Or.inr ⟨M, hu, ?_, t2.2.2.2.1, t2.2.2.2.2, ?_, ?_⟩⟩
    · refine zsem_eq (Nat.le_of_ble_eq_true rfl) (zTo_of gX5_load_0 ?_)
      have pnz : (p : Nat) ≠ 0 := by omega
      have pn1 : (p : Nat) ≠ 1 := by omega
      simp only [show p < 900000 by omega, ← hh1, ← hp, q01, r01, r31, ei, kk, hf, i10, K6, P6, q0, r0, r2, r3, i0, K_sI, K_sJ, K_sD, K_sP, K_rI, K_rJ, P_sI, P_sJ, P_sD, P_rI, P_rJ, N_sI, N_sJ, N_sD, N_sP, N_rI, N_rJ, J_sI, J_sD, J_sP, J_rI, I_sJ, I_sD, I_sP, I_rJ, D_sI, D_sJ, D_sP, D_rI, D_rJ, ← hg, sr, K11, P11, Kg, Pg, sc, K14, P14, y5, l0, zmp_s, zlt_s, zcV_s, zcI_s, zcJ_s, zcA_s, zcD_s, zcF_s, zth_n, zth_t, zrt_s, zQ_l, zQ_r, false_or, or_false, true_or, or_true, false_and, and_false, not_false_eq_true, not_true_eq_false, and_self, true_and, and_true, if_true, if_false, ite_true, ite_false, zgd_t]
    · rw [t2.2.1, t1.2.1, hg, I_sIs, zput_ne _ _ (by omega), I_sIs, zput_self]
    · rw [t2.2.2.1, t1.2.2.1, hg, I_sIs, zput_self]
end ZPG

