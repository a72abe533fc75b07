/-! the memory at the start, and that it is tied -/
def zini (p k : Nat) : Int32 := bif Nat.beq p 126 then lettersL.getD k 0 else bif Nat.beq p 113 then (bif Nat.beq k 8 || Nat.beq k 45 then -1 else 0) else bif Nat.beq p 157 then ([-1, -1, -1, -1, -1, -1] : List Int32).getD k 0 else bif Nat.beq p 27 || (Nat.beq p 39 || Nat.beq p 51) then (bif Nat.beq k 1 then 5 else 0) else bif Nat.beq p 29 || (Nat.beq p 31 || (Nat.beq p 41 || (Nat.beq p 43 || (Nat.beq p 53 || Nat.beq p 55)))) then (bif Nat.beq k 1 then 8 else 0) else bif Nat.beq p 101 || (Nat.beq p 103 || (Nat.beq p 105 || (Nat.beq p 107 || (Nat.beq p 109 || Nat.beq p 111)))) then (bif Nat.beq k 0 then -1 else 0) else 0
def zm0 (tb : Nat → Nat → Int32) : zM := (fun p k => bif Nat.blt p 20 then tb p k else zini p k, fun _ _ => 0, fun _ => none)
theorem zm0_low (tb : Nat → Nat → Int32) : zLw tb (zm0 tb) := by
  refine ⟨fun p hp k => ?_, fun p q h => by cases h⟩
  rcases (show p = 0 ∨ p = 1 ∨ p = 2 ∨ p = 3 ∨ p = 4 ∨ p = 5 ∨ p = 6 ∨ p = 7 ∨ p = 8 ∨ p = 9 ∨ p = 10 ∨ p = 11 ∨ p = 12 ∨ p = 13 ∨ p = 14 ∨ p = 15 ∨ p = 16 ∨ p = 17 ∨ p = 18 ∨ p = 19 by omega) with rfl | rfl | rfl | rfl | rfl | rfl | rfl | rfl | rfl | rfl | rfl | rfl | rfl | rfl | rfl | rfl | rfl | rfl | rfl | rfl <;> rfl
theorem zm0_rel (L : Nat) (xs : Nat → Int32) : Rel (zm0 (lwtb L xs)) := by
  have no : ∀ {P : Prop} {j : Nat}, j < 0 → P := fun h => absurd h (Nat.not_lt_zero _)
  have w : vWf (0, fun _ => 0, fun _ => 0, fun _ => 0, fun _ => 0, 0, 0, none) := ⟨Nat.zero_le _, fun j hj => no hj, fun j hj => absurd hj (by show ¬ j < 4 * 0; omega), ybl_0 0, Nat.zero_le _, fun g G h => by cases h⟩
  refine Rel_i (V := (0, fun _ => 0, fun _ => 0, fun _ => 0, fun _ => 0, 0, 0, none)) (S := (0, fun _ => 0, fun _ => 0, fun _ => 0)) (R := (0, fun _ => 0, fun _ => 0, fun _ => 0)) (B := (0, fun _ => 0, fun _ => 0, fun _ => 0)) (gc := 0) (gs := fun _ => (0, fun _ => 0, fun _ => 0, fun _ => 0, fun _ => 0)) (n := 0) (tx := fun _ => 0) ?_ ?_ ?_ ?_ ?_ ?_ ?_ ?_ ?_ ?_ ?_ ?_
  · exact ⟨⟨w, nI_0.symm, fun j hj => no hj, fun j hj => absurd hj (by show ¬ j < 4 * 0; omega), rfl, nI_0.symm, rfl, fun g G h => by cases h⟩, ⟨w, nI_0.symm, fun j hj => no hj, fun j hj => absurd hj (by show ¬ j < 4 * 0; omega), rfl, nI_0.symm, rfl, fun g G h => by cases h⟩, Nat.zero_le _, fun j _ _ => rfl, fun j _ _ => rfl⟩
  · exact ⟨⟨nI_0.symm, fun j hj => no hj⟩, ⟨nI_0.symm, fun j hj => no hj⟩, ⟨Nat.zero_le _, fun j hj => no hj⟩⟩
  · exact ⟨⟨nI_0.symm, fun j hj => no hj⟩, ⟨nI_0.symm, fun j hj => no hj⟩, ⟨Nat.zero_le _, fun j hj => no hj⟩⟩
  · exact ⟨⟨nI_0.symm, fun j hj => no hj⟩, ⟨nI_0.symm, fun j hj => no hj⟩, ⟨Nat.zero_le _, fun j hj => no hj⟩⟩
  · exact ⟨⟨rfl, rfl, rfl⟩, rfl, rfl, rfl⟩
  · exact fun g G h => by cases h
  · exact ⟨false, rfl, rfl, fun h => by cases h⟩
  · exact ⟨Nat.zero_le _, nI_0.symm, nI_0.symm, fun g hg => no hg⟩
  · exact ⟨Nat.zero_le _, nI_0.symm, nI_0.symm, fun j hj => no hj⟩
  · intro t ht
    rcases (show t = 0 ∨ t = 1 ∨ t = 2 ∨ t = 3 ∨ t = 4 ∨ t = 5 by omega) with rfl | rfl | rfl | rfl | rfl | rfl <;> exact ⟨-1, 0, rfl, rfl, Or.inl rfl, nI_0.symm, nI_0.symm, Nat.zero_le _, fun _ => rfl, fun j hj => ⟨rfl, fun h => absurd h (by decide)⟩⟩
  · exact ⟨0, Nat.zero_le _, nI_0.symm, nI_0.symm, fun j _ h => no h⟩
  · refine ⟨fun k _ => rfl, fun k _ => rfl, fun i hi j hj => ?_, fun k _ => rfl⟩
    rcases (show i = 0 ∨ i = 1 ∨ i = 2 ∨ i = 3 ∨ i = 4 ∨ i = 5 ∨ i = 6 by omega) with rfl | rfl | rfl | rfl | rfl | rfl | rfl <;> rfl
