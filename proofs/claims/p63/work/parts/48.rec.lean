/-! THE CLASS: levels that follow each other; what is kept for undo. -/
section ZC8
-- what steps depend on
theorem nkeys_cg {N M : zLv} (h : ∀ i, i = 0 ∨ i = 1 ∨ 16 ≤ i → M i = N i) (S : Nat) : nkeys M S = nkeys N S := by
  unfold nkeys
  rw [h 0 (by omega)]
  refine zfo_congr _ (fun i x _ => ?_)
  show (if S.testBit i then x ||| M (16 + 3 * i) else x) = (if S.testBit i then x ||| N (16 + 3 * i) else x)
  rw [h (16 + 3 * i) (by omega)]
theorem ncoins_cg {N M : zLv} (h : ∀ i, i = 0 ∨ i = 1 ∨ 16 ≤ i → M i = N i) (S : Nat) : ncoins M S = ncoins N S := by
  unfold ncoins
  rw [h 0 (by omega)]
  refine zfo_congr _ (fun i x _ => ?_)
  show (if S.testBit i then x + M (17 + 3 * i) else x) = (if S.testBit i then x + N (17 + 3 * i) else x)
  rw [h (17 + 3 * i) (by omega)]
theorem nopen_cg {N M : zLv} (h : ∀ i, i = 0 ∨ i = 1 ∨ 16 ≤ i → M i = N i) (d K C : Nat) : nopen M d K C = nopen N d K C := by
  unfold nopen
  rw [h (51 + 5 * d) (by omega), h (52 + 5 * d) (by omega)]
theorem nld_cg {N M : zLv} (h : ∀ i, i = 0 ∨ i = 1 ∨ 16 ≤ i → M i = N i) (S r : Nat) : nld M S r = nld N S r := by
  unfold nld
  rw [h 1 (by omega)]
  refine zfo_congr _ (fun d x _ => ?_)
  unfold ndstep
  rw [nopen_cg h, nkeys_cg h, ncoins_cg h, h (53 + 5 * d) (by omega), h (50 + 5 * d) (by omega), h (49 + 5 * d) (by omega)]
theorem nnx_cg {N M : zLv} (h : ∀ i, i = 0 ∨ i = 1 ∨ 16 ≤ i → M i = N i) : nnx M = nnx N := by
  funext S a b
  unfold nnx
  rw [nld_cg h]
-- the walk as far as it goes
theorem nsk_cg {f g : Nat → Nat} (k : Nat) (h : ∀ i, i < k → f i = g i) : nsk f k = nsk g k := by
  unfold nsk
  refine zfo_congr _ (fun i x hi => ?_)
  show x ||| 2 ^ f i = x ||| 2 ^ g i
  rw [h i hi]
/-- right, whatever the walk does -/
def WP (N : zLv) : Prop := WB N ∧ 1 ≤ N 0 ∧ N 2 < N 0 ∧ N 3 ≤ N 0 ∧ N 5 = N 2 ∧ ∀ r, r < N 0 → N (18 + 3 * r) < 27 ^ 6
theorem WF.p {N : zLv} (h : WF N) : WP N := ⟨h.1, h.2.1, h.2.2.1, h.2.2.2.1, h.2.2.2.2.2.2.1, h.2.2.2.2.2.2.2.2⟩
theorem nfind_lt {f : Nat → Bool} {n k : Nat} (h : nfind f n = some k) : k < n ∧ f k = true ∧ ∀ j, j < k → f j = false := nfind_some.mp h
theorem ncut_le {N : zLv} (h4 : 1 ≤ N 4) : 1 ≤ ncut N ∧ ncut N ≤ N 4 ∧ ∀ k, k + 1 < ncut N → nbad N k = false := by
  unfold ncut
  cases q : nfind (nbad N) (N 4 - 1) with
  | none =>
    refine ⟨h4, Nat.le_refl _, fun k hk => nfind_none.mp q k (by have : k + 1 < N 4 := hk; omega)⟩
  | some k =>
    obtain ⟨a, b, c⟩ := nfind_some.mp q
    exact ⟨by show 1 ≤ k + 1; omega, by show k + 1 ≤ N 4; omega, fun j hj => c j (by have : j + 1 < k + 1 := hj; omega)⟩
/-- the walk of M, whose rooms are all different, cut to length x -/
theorem WF_len {M : zLv} {x : Nat} (hP : WP M) (h1 : 1 ≤ x) (hx : x ≤ M 4) (hx0 : x ≤ M 0) (hs : ∀ k, k + 1 < x → nnx M (nsk (nwk M) (k + 1)) (nwk M k) (nwk M (k + 1)) = true) : WF (zput M 4 x) := by
  obtain ⟨hW, n1, h2, h3, h5, hn⟩ := hP
  have e : ∀ i, i ≠ 4 → zput M 4 x i = M i := fun i hi => zput_ne _ _ hi
  have e4 : zput M 4 x 4 = x := zput_self _ _ _
  have ex : nnx (zput M 4 x) = nnx M := nnx_cg (fun i hi => e i (by omega))
  have w : ∀ k, nwk (zput M 4 x) k = nwk M k := fun k => e (5 + k) (by omega)
  refine ⟨⟨?_, ?_, ?_, ?_, ?_, ?_⟩, ?_, ?_, ?_, ?_, ?_, ?_, ?_, ?_⟩
  · rw [e 0 (by omega)]; exact hW.1
  · rw [e 1 (by omega)]; exact hW.2.1
  · rw [e4]; have := hW.2.2.1; omega
  · intro r hr
    rw [e 0 (by omega)] at hr
    rw [e _ (by omega), e _ (by omega)]; exact hW.2.2.2.1 r hr
  · intro d hd
    rw [e 1 (by omega)] at hd
    rw [e 0 (by omega), e (49 + 5 * d) (by omega), e (50 + 5 * d) (by omega), e (51 + 5 * d) (by omega), e (52 + 5 * d) (by omega), e (53 + 5 * d) (by omega)]
    exact hW.2.2.2.2.1 d hd
  · intro k hk
    rw [e4] at hk
    rw [e 0 (by omega), e _ (by omega)]; exact hW.2.2.2.2.2 k (by omega)
  · rw [e 0 (by omega)]; exact n1
  · rw [e 0 (by omega), e 2 (by omega)]; exact h2
  · rw [e 0 (by omega), e 3 (by omega)]; exact h3
  · rw [e4]; exact h1
  · rw [e4, e 0 (by omega)]; exact hx0
  · rw [e 5 (by omega), e 2 (by omega)]; exact h5
  · intro k hk
    rw [e4] at hk
    rw [ex, show nwk (zput M 4 x) = nwk M from funext w]
    exact hs k hk
  · intro r hr
    rw [e 0 (by omega)] at hr
    rw [e _ (by omega)]; exact hn r hr
/-- a level changed, its walk cut -/
theorem WF_cut {N M : zLv} (hF : WF N) (hP : WP M) (h0 : M 0 = N 0) (h4 : M 4 = N 4) (hw : ∀ k, k < N 4 → M (5 + k) = N (5 + k)) : WF (zput M 4 (ncut M)) := by
  have l4 : 1 ≤ M 4 := by rw [h4]; exact hF.2.2.2.2.1
  have l0 : M 4 ≤ M 0 := by rw [h4, h0]; exact hF.2.2.2.2.2.1
  obtain ⟨c1, c2, c3⟩ := ncut_le l4
  refine WF_len hP c1 c2 (by omega) (fun k hk => ?_)
  have b := c3 k hk
  have o := hF.2.2.2.2.2.2.2.1 k (by omega)
  have e1 : nwk M k = nwk N k := hw k (by omega)
  have e2 : nwk M (k + 1) = nwk N (k + 1) := hw (k + 1) (by omega)
  have e3 : nsk (nwk M) (k + 1) = nsk (nwk N) (k + 1) := nsk_cg _ (fun i hi => hw i (by omega))
  unfold nbad at b
  unfold nnx at o ⊢
  rw [Bool.not_eq_false'] at b
  rw [b]
  rw [e3, e2]
  rw [Bool.and_eq_true] at o
  rw [o.2]; rfl
-- what a change touches
def chA : Nat → Prop := fun c => c = 0 ∨ (5 ≤ c ∧ c ≤ 94) ∨ (119 ≤ c ∧ c ≤ 124)
/-- what is kept for undo, the latest first -/
def HH (h : zm_H) (P : List zLv) : Prop := P.length ≤ 6 ∧ ∃ nx, hiR h nx P.length ∧ ∀ i, i < P.length → ∀ M, P[i]? = some M → KL h (29 + 11 * ((nx + 5 - i) % 6)) M ∧ lvO h (29 + 11 * ((nx + 5 - i) % 6)) ∧ WF M
theorem HH_fr {A : Nat → Prop} {h g : zm_H} {P : List zLv} (fr : zFr A h g) (hA : ∀ c, 27 ≤ c → c ≤ 94 → ¬ A c) (H : HH h P) : HH g P := by
  obtain ⟨hl, nx, ⟨r1, r2, r3, r4⟩, hi⟩ := H
  have e : zI g 27 = zI h 27 := fr.I (hA 27 (by omega) (by omega))
  refine ⟨hl, nx, ⟨by rw [e]; exact r1, by rw [e]; exact r2, r3, r4⟩, fun i hi2 M hM => ?_⟩
  obtain ⟨a, b, c⟩ := hi i hi2 M hM
  have m : (nx + 5 - i) % 6 < 6 := Nat.mod_lt _ (by omega)
  exact ⟨KL_fr fr (fun j hj => hA _ (by omega) (by omega)) a, lvO_fr fr (hA _ (by omega) (by omega)) b, c⟩
/-- one step of the object: what is new, and what stays -/
def CT (h g : zm_H) (N : zLv) (P : List zLv) : Prop := zFr chA h g ∧ zI g 0 10 = zI h 0 10 ∧ zI g 0 11 = zI h 0 11 ∧ CI g N ∧ HH g P
theorem CT.tr {h g k : zm_H} {N M : zLv} {P Q : List zLv} (a : CT h g N P) (b : CT g k M Q) : CT h k M Q := ⟨a.1.tr b.1, b.2.1.trans a.2.1, b.2.2.1.trans a.2.2.1, b.2.2.2⟩
theorem sc_ch (c : Nat) (h : scA c) : chA c := by unfold scA at h; unfold chA; omega
theorem CQ.t {h g : zm_H} {N : zLv} {P : List zLv} (c : CI h N) (H : HH h P) (q : CQ N h g) : CT h g N P := ⟨q.1.mono sc_ch, q.2.1, q.2.2.1, c.go q, HH_fr q.1 (fun c h1 h2 e => by unfold scA at e; omega) H⟩
def pst (N : zLv) (P : List zLv) : List zLv := (N :: P).take 6
theorem m_record {h : zm_H} {N : zLv} {P : List zLv} (c : CI h N) (H : HH h P) : ∃ g, sX5_record [.ref 0] h = some (.inl none, g) ∧ CT h g N (pst N P) ∧ zI g 0 8 = 1 := by
  have c0 := c
  obtain ⟨hk, hL, hF, hst, ho5, ho16⟩ := c
  obtain ⟨q0, r0, r1, r2, r3, r4, r5, r6, r7, r9, i0, i1, i2, o0, o1, o2, v5, v16, hh, v96, v107, sl0, sl1, sl2, fl0, tb, rw0⟩ := hk
  obtain ⟨hl, nx, hr, hi⟩ := H
  have hW := hF.1
  obtain ⟨g1, s1, fr1, hr1, kl1, lo1⟩ := q_push hh hr v5 (Or.inl (by rw [L5e]; omega)) hL ⟨hW.1, hW.2.1, hW.2.2.1⟩ ho5
  obtain ⟨u1, u2, u3, u4⟩ := hr
  obtain ⟨g, hg⟩ : ∃ g, g = zsI g1 0 8 1 := ⟨_, rfl⟩
  have fr2 : zFr (fun c => c = 0) g1 g := by rw [hg]; exact zFr.sI rfl
  have fr : zFr (fun c => c = 0 ∨ hiA c) h g := (fr1.mono (fun c hc => by unfold hiA; omega)).tr (fr2.mono (fun c hc => Or.inl hc))
  have e0 : zI g1 0 = zI h 0 := fr1.I (by omega)
  have K1 := fr1.K
  have P1 := fr1.P
  have kh := hh.1
  have st : zI g 0 8 = 1 := by rw [hg, I_sIs, zput_self]
  refine ⟨g, ?_, ⟨fr.mono (fun c hc => by unfold hiA at hc; unfold chA; omega), ?_, ?_, ⟨ktS_kp fr.K fr.P c0.1, KL_fr fr (fun i hi e => by unfold hiA at e; rw [L5e] at e; omega) hL, hF, Or.inl st, lvO_fr fr (fun e => by unfold hiA at e; rw [L5e] at e; omega) ho5, lvO_fr fr (fun e => by unfold hiA at e; rw [L16e] at e; omega) ho16⟩, ?_⟩, st⟩
  · refine zsem_eq (Nat.le_of_ble_eq_true rfl) (zTo_of gX5_record_0 ?_)
    simp only [q0, r4, r2, kh, s1, K1, P1, ← hg, zmp_s, zlt_s, zcV_s, zcI_s, zcJ_s, zcA_s, zcD_s, zcF_s, zth_n, zth_t, zrt_s, zQ_l, zQ_r, false_or, or_false, true_or, or_true, false_and, and_false, not_false_eq_true, not_true_eq_false, and_self, true_and, and_true, if_true, if_false, ite_true, ite_false, zgd_t]
  · rw [hg, I_sIs, zput_ne _ _ (by omega), e0]
  · rw [hg, I_sIs, zput_ne _ _ (by omega), e0]
  · refine HH_fr fr2 (fun c h1 h2 => by omega) ?_
    have len : (pst N P).length = if P.length < 6 then P.length + 1 else P.length := by
      unfold pst
      rw [List.length_take, List.length_cons]
      split <;> omega
    refine ⟨by rw [len]; split <;> omega, (nx + 1) % 6, by rw [len]; exact hr1, fun i hi2 M hM => ?_⟩
    have i6 : i < 6 := by
      rw [len] at hi2
      split at hi2 <;> omega
    cases i with
    | zero =>
      have e : ((nx + 1) % 6 + 5 - 0) % 6 = nx := by omega
      have eM : M = N := by
        unfold pst at hM
        simp at hM
        exact hM.symm
      rw [e, eM]
      exact ⟨kl1, lo1, hF⟩
    | succ i =>
      have e : ((nx + 1) % 6 + 5 - (i + 1)) % 6 = (nx + 5 - i) % 6 := by omega
      have ne : (nx + 5 - i) % 6 ≠ nx := by omega
      have hiP : i < P.length := by
        rw [len] at hi2
        split at hi2 <;> omega
      have hM2 : P[i]? = some M := by
        unfold pst at hM
        rw [List.getElem?_take_of_lt i6, List.getElem?_cons_succ] at hM
        exact hM
      obtain ⟨a, b, d⟩ := hi i hiP M hM2
      rw [e]
      have m : (nx + 5 - i) % 6 < 6 := Nat.mod_lt _ (by omega)
      exact ⟨KL_fr fr1 (fun j hj q => by omega) a, lvO_fr fr1 (fun q => by omega) b, d⟩
/-- a change of the level -/
theorem CI.chg {h g : zm_H} {N M : zLv} {P : List zLv} (c : CI h N) (H : HH h P) (st : zI h 0 8 = 1) (fr : zFr (lvA L5) h g) (hL : KL g L5 M) (hM : WF M) (ho : lvO g L5) : CT h g M P ∧ zI g 0 8 = 1 := by
  have z0 : zI g 0 = zI h 0 := fr.I (fun e => by unfold lvA at e; rw [L5e] at e; omega)
  refine ⟨⟨fr.mono (fun c hc => by unfold lvA at hc; rw [L5e] at hc; unfold chA; omega), by rw [z0], by rw [z0], ⟨ktS_kp fr.K fr.P c.1, hL, hM, Or.inl (by rw [z0]; exact st), ho, lvO_fr fr (fun e => by unfold lvA at e; rw [L5e, L16e] at e; omega) c.2.2.2.2.2⟩, HH_fr fr (fun c h1 h2 e => by unfold lvA at e; rw [L5e] at e; omega) H⟩, by rw [z0]; exact st⟩
end ZC8

