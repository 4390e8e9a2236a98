/-! FLOW THROUGH ROOMS: what passes a room, what passes two. -/
section ZFL
/-- tours that come to r before q, by the set at which they come -/
def fbef (nx : Nat → Nat → Nat → Bool) (ba : Nat → Nat → Nat) (n S0 a0 r q S : Nat) : Nat := if r ≠ q ∧ S.testBit q = true then 0 else nW nx n S0 a0 S r * nT nx ba n S r
section
variable {nx : Nat → Nat → Nat → Bool} {ba : Nat → Nat → Nat} {n a0 r q : Nat}
def nxs (nx : Nat → Nat → Nat → Bool) (r q : Nat) : Nat → Nat → Nat → Bool := fun S a b => nx S a b && !(decide (a = r) || decide (a = q))
theorem nxs_ok (hn : nxok nx n) : nxok (nxs nx r q) n := by
  intro S a b h
  unfold nxs at h
  rw [Bool.and_eq_true] at h
  exact hn S a b h.1
theorem nxs_no {S a b : Nat} (h : a = r ∨ a = q) : nxs nx r q S a b = false := by
  unfold nxs
  rcases h with h | h <;> simp [h]
theorem nxs_is {S a b : Nat} (h1 : a ≠ r) (h2 : a ≠ q) : nxs nx r q S a b = nx S a b := by
  unfold nxs
  simp [h1, h2]
theorem nxs_le {S a b : Nat} (h : nxs nx r q S a b = true) : a ≠ r ∧ a ≠ q ∧ nx S a b = true := by
  unfold nxs at h
  rw [Bool.and_eq_true] at h
  refine ⟨fun e => ?_, fun e => ?_, h.1⟩
  · simp [e] at h
  · simp [e] at h
theorem x_bit {S a c : Nat} (h : a ≠ c) : (S ^^^ 2 ^ a).testBit c = S.testBit c := by rw [tb_xor]; simp [h]
theorem x_self {S a : Nat} (h : S.testBit a = true) : (S ^^^ 2 ^ a).testBit a = false := by rw [tb_xor]; simp [h]
theorem W_pos {nx : Nat → Nat → Nat → Bool} {S0 S b : Nat} (h : 0 < nW nx n S0 a0 S b) : (S = S0 ∧ b = a0) ∨ (S.testBit b = true ∧ ∃ a, a < n ∧ nx (S ^^^ 2 ^ b) a b = true ∧ 0 < nW nx n S0 a0 (S ^^^ 2 ^ b) a) := by
  rw [nW_eq] at h
  by_cases e : S = S0 ∧ b = a0
  · exact Or.inl e
  · rw [if_neg e, Nat.zero_add] at h
    by_cases t : S.testBit b = true
    · rw [if_pos t] at h
      obtain ⟨k, hk, hp⟩ := zsu_ex h
      by_cases w : nx (S ^^^ 2 ^ b) k b = true
      · rw [if_pos w] at hp
        exact Or.inr ⟨t, k, hk, w, hp⟩
      · rw [if_neg w] at hp; exact absurd hp (by omega)
    · rw [if_neg t] at h; exact absurd h (by omega)
theorem cut1 : ∀ (S a : Nat), 0 < nW (nxs nx r q) n (2 ^ a0) a0 S a → ∀ c, (c = r ∨ c = q) → c ≠ a → S.testBit c = false := by
  intro S
  induction S using Nat.strongRecOn with
  | _ S ih =>
    intro a h c hc hca
    rcases W_pos h with ⟨e1, e2⟩ | ⟨t, k, hk, w, hp⟩
    · rw [e1, Nat.testBit_two_pow]
      have : a0 ≠ c := by rw [← e2]; exact fun q => hca q.symm
      simp [this]
    · obtain ⟨k1, k2, -⟩ := nxs_le w
      have := ih _ (xor_lt t) k hp c hc (by rcases hc with hc | hc <;> omega)
      rw [x_bit (fun q => hca q.symm)] at this
      exact this
theorem cut2 : ∀ (S a : Nat), (∀ c, (c = r ∨ c = q) → c ≠ a → S.testBit c = false) → nW (nxs nx r q) n (2 ^ a0) a0 S a = nW nx n (2 ^ a0) a0 S a := by
  intro S
  induction S using Nat.strongRecOn with
  | _ S ih =>
    intro a h
    rw [nW_eq, nW_eq (nx := nx)]
    congr 1
    by_cases t : S.testBit a = true
    · rw [if_pos t, if_pos t]
      refine zsu_congr n (fun k hk => ?_)
      by_cases e : k = r ∨ k = q
      · rw [nxs_no e]
        by_cases w : 0 < nW nx n (2 ^ a0) a0 (S ^^^ 2 ^ a) k
        · have b := nW_bit (by rw [Nat.testBit_two_pow]; simp) w
          by_cases e2 : k = a
          · subst e2
            rw [x_self t] at b; exact absurd b (by simp)
          · rw [x_bit (fun q => e2 q.symm), h k e e2] at b
            exact absurd b (by simp)
        · simp; intro _; omega
      · rw [nxs_is (fun q => e (Or.inl q)) (fun q => e (Or.inr q))]
        have := ih _ (xor_lt t) k (fun c hc hck => by
          by_cases e2 : c = a
          · subst e2; exact x_self t
          · rw [x_bit (fun q => e2 q.symm)]; exact h c hc e2)
        rw [this]
    · rw [if_neg t, if_neg t]
theorem zsu_two {f : Nat → Nat} (n k j : Nat) (hk : k < n) (hj : j < n) (h : ∀ i, i < n → i ≠ k → i ≠ j → f i = 0) : zsu f n = f k + if k = j then 0 else f j := by
  have e : zsu f n = zsu (fun i => (if i = k then f k else 0) + (if k = j then 0 else if i = j then f j else 0)) n := by
    refine zsu_congr n (fun i hi => ?_)
    by_cases e1 : i = k
    · subst e1
      rw [if_pos rfl]
      by_cases e2 : i = j
      · rw [if_pos e2]; rfl
      · rw [if_neg e2, if_neg e2]; rfl
    · rw [if_neg e1]
      by_cases e2 : i = j
      · subst e2
        rw [if_neg (fun q => e1 q.symm), if_pos rfl, Nat.zero_add]
      · rw [h i hi e1 e2]
        by_cases e3 : k = j
        · rw [if_pos e3]
        · rw [if_neg e3, if_neg e2]
  rw [e, zsu_add, zsu_one n k hk (fun i hi hne => if_neg hne), if_pos rfl]
  congr 1
  by_cases e3 : k = j
  · rw [if_pos e3]
    exact zsu_0 n (fun i hi => if_pos e3)
  · rw [if_neg e3, zsu_one n j hj (fun i hi hne => by rw [if_neg e3, if_neg hne]), if_neg e3, if_pos rfl]
theorem flow2 (hn : nxok nx n) (hb : ∀ S a, S < 2 ^ n → S ≠ 2 ^ n - 1 → ba S a = 0) (ha : a0 < n) (hr : r < n) (hq : q < n) : zsu (fun S => fbef nx ba n (2 ^ a0) a0 r q S + if r = q then 0 else fbef nx ba n (2 ^ a0) a0 q r S) (2 ^ n) = nT nx ba n (2 ^ a0) a0 := by
  have hS : 2 ^ a0 < 2 ^ n := Nat.pow_lt_pow_right (by omega) ha
  have u := nT_uniq (nx := nxs nx r q) (ba := fun S a => if a = r ∨ a = q then nT nx ba n S a else ba S a) (n := n) (nxs_ok hn) (g := nT nx ba n) (fun S a hS2 ha2 => by
    by_cases e : a = r ∨ a = q
    · rw [if_pos e, zsu_0 n (fun b hb2 => by rw [nxs_no e]; rfl), Nat.add_zero]
    · rw [if_neg e, nT_eq hn hS2]
      congr 1
      refine zsu_congr n (fun b hb2 => ?_)
      rw [nxs_is (fun q => e (Or.inl q)) (fun q => e (Or.inr q))])
  rw [u _ _ hS ha, ← flow (nxs_ok hn) hS ha]
  refine zsu_congr _ (fun S hS2 => ?_)
  have key : ∀ x y, (x = r ∧ y = q) ∨ (x = q ∧ y = r) → nW (nxs nx r q) n (2 ^ a0) a0 S x * (if x = r ∨ x = q then nT nx ba n S x else ba S x) = fbef nx ba n (2 ^ a0) a0 x y S := by
    intro x y hxy
    have hx : x = r ∨ x = q := by omega
    rw [if_pos hx]
    unfold fbef
    by_cases e : x ≠ y ∧ S.testBit y = true
    · rw [if_pos e]
      by_cases w : 0 < nW (nxs nx r q) n (2 ^ a0) a0 S x
      · have := cut1 S x w y (by omega) (fun q => e.1 q.symm)
        rw [e.2] at this; exact absurd this (by simp)
      · rw [show nW (nxs nx r q) n (2 ^ a0) a0 S x = 0 by omega, Nat.zero_mul]
    · rw [if_neg e, cut2 S x (fun c hc hcx => by
        have : c = y := by omega
        subst this
        by_cases t : S.testBit c = true
        · exact absurd ⟨fun q => hcx q.symm, t⟩ e
        · simpa using t)]
  rw [zsu_two n r q hr hq (fun i hi h1 h2 => by
    rw [if_neg (by omega)]
    by_cases w : S = 2 ^ n - 1
    · by_cases p : 0 < nW (nxs nx r q) n (2 ^ a0) a0 S i
      · have := cut1 S i p r (Or.inl rfl) (fun q => h1 q.symm)
        rw [w, tb_full] at this
        simp [hr] at this
      · rw [show nW (nxs nx r q) n (2 ^ a0) a0 S i = 0 by omega, Nat.zero_mul]
    · rw [hb S i hS2 w, Nat.mul_zero]), key r q (Or.inl ⟨rfl, rfl⟩)]
  congr 1
  by_cases e : r = q
  · rw [if_pos e, if_pos e]
  · rw [if_neg e, if_neg e, key q r (Or.inr ⟨rfl, rfl⟩)]
end
end ZFL
