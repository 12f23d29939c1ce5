/-! the start: the memory behind the two constructors keeps the invariant -/
def M0f (i : Nat) : Nat → Int32 :=
  if i = 196 ∨ i = 260 ∨ i = 1285 then flF (fun _ => 0) (-1) 12
  else if i = 205 ∨ i = 269 ∨ i = 1291 then flF (fun _ => 0) 1 12
  else if i = 1324 then flF (fun _ => 0) (-1) 6
  else if i = 64 then fun j => if j = 8 then -1 else 0
  else if i = 640 ∨ i = 704 ∨ i = 768 ∨ i = 832 ∨ i = 896 ∨ i = 960 then fun j => if j = 1 ∨ j = 2 then -1 else 0
  else fun _ => 0
def M00 : zM := (M0f, fun _ _ => 0)
theorem Inv_0 : Inv M00 := by
  have h1 : zg M00 1280 1 = 0 := by decide +kernel
  refine ⟨⟨0, by omega, by decide +kernel, by decide +kernel, fun p h => absurd h (Nat.not_lt_zero _), fun p h => absurd h (Nat.not_lt_zero _), fun k j _ h => absurd h (Nat.not_lt_zero _), fun p h => absurd h (Nat.not_lt_zero _)⟩, fun p h => ?_, fun p h => ?_, ⟨0, by omega, by decide +kernel, by decide +kernel, fun p h => absurd h (Nat.not_lt_zero _), fun p h => absurd h (Nat.not_lt_zero _), fun k j _ h => absurd h (Nat.not_lt_zero _), fun p h => absurd h (Nat.not_lt_zero _)⟩, ⟨by decide +kernel, Or.inl (by decide +kernel)⟩, ?_, ?_, ⟨0, 0, by omega, by omega, by decide +kernel, by decide +kernel, by decide +kernel, by decide +kernel, fun p h => absurd h (Nat.not_lt_zero _)⟩, Or.inl ⟨by decide +kernel, by decide +kernel⟩, ⟨0, by omega, by decide +kernel, by decide +kernel, fun p h => absurd h (Nat.not_lt_zero _)⟩, Or.inl ⟨by decide +kernel, by decide +kernel⟩, ⟨0, by omega, by decide +kernel, by decide +kernel, fun p h => absurd h (Nat.not_lt_zero _)⟩, ⟨0, by omega, by decide +kernel, by decide +kernel, fun p h => absurd h (Nat.not_lt_zero _)⟩, ?_⟩
  · rw [h1] at h; omega
  · rw [h1] at h; omega
  · show ∀ a : Nat, a < 12 → _; decide +kernel
  · show ∀ a : Nat, a < 12 → _; decide +kernel
  · intro j hj
    refine Or.inl ?_
    have key : ∀ j : Nat, j < 6 → (zg M00 (640 + 64 * j) 2 = -1 ∧ zg M00 1324 j = zg M00 (640 + 64 * j) 1 ∧ -1 ≤ zg M00 (640 + 64 * j) 1 ∧ zg M00 (640 + 64 * j) 1 < zg M00 1280 39) := by decide +kernel
    exact key j hj
