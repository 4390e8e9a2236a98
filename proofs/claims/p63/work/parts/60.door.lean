/-! THE CLASS: a door written. -/
section ZCK
theorem ndg_le (v : Nat) : (ndg v).length ≤ 3 := by
  unfold ndg
  rw [List.length_append, List.length_append]
  split <;> split <;> simp
def ndw0 (N : zLv) (d : Nat) : List Int32 := (nlt 6 (N (18 + 3 * N (49 + 5 * d))) ++ [if N (53 + 5 * d) = 0 then 45 else 62]) ++ nlt 6 (N (18 + 3 * N (50 + 5 * d)))
def ndw (N : zLv) (d : Nat) : List Int32 := if N (51 + 5 * d) = 0 then ndw0 N d else ((ndw0 N d ++ [32]) ++ [if N (51 + 5 * d) = 1 then 107 else 116]) ++ ndg (N (52 + 5 * d))
def fr34 : Nat → Prop := fun c => c = 3 ∨ c = 4
theorem w_one {h : zm_H} {N : zLv} {ys : List Int32} (c : CI h N) (B : BL h 3 4 77 ys) {x : Int32} (hx : x &&& 255 = x) (hl : ys.length < 77) : ∃ g, sX0_add [.ref 3, .int x] h = some (.inl none, g) ∧ zFr fr34 h g ∧ CI g N ∧ BL g 3 4 77 (ys ++ [x]) := by
  obtain ⟨g, s, t⟩ := byG_one x (c.out B) hl (by omega) (by omega)
  rw [hx] at t
  exact ⟨g, s, t.1, c.fr t.1 (fun c hc => by omega), BL_add B t (by show _ + 1 ≤ 77; omega)⟩
end ZCK

